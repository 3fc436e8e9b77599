section
/-! THE RUN BY THE KERNEL: the law's own run from the witness' start, step by step, as long as it has not ended -/
def zr_two : List Frame → Bool
  | _ :: _ :: _ => true
  | _ => false
def zr_nat {β : Type} (n : Nat) (f : Nat → β) : β := match n with
  | 0 => f 0
  | k + 1 => f (k + 1)
theorem zr_nat_eq {β : Type} (n : Nat) (f : Nat → β) : zr_nat n f = f n := by cases n <;> rfl
def zr_vm {β : Type} (vm : Vm) (f : Vm → β) : β := match vm with
  | v@(.mk ..) => f v
theorem zr_vm_eq {β : Type} (vm : Vm) (f : Vm → β) : zr_vm vm f = f vm := by cases vm; rfl
def zr_mid {β : Type} (m : MethodId) (f : MethodId → β) : β := match m with
  | ⟨c, i⟩ => zr_nat c fun c => zr_nat i fun i => f ⟨c, i⟩
theorem zr_mid_eq {β : Type} (m : MethodId) (f : MethodId → β) : zr_mid m f = f m := by
  cases m; simp only [zr_mid, zr_nat_eq]
def zr_jf {β : Type} (f : JFrame) (k : JFrame → β) : β := match f with
  | ⟨m, pc, lo, st, lk, en, mr⟩ => zr_mid m fun m => zr_nat pc fun pc => k ⟨m, pc, lo, st, lk, en, mr⟩
theorem zr_jf_eq {β : Type} (f : JFrame) (k : JFrame → β) : zr_jf f k = k f := by
  cases f; simp only [zr_jf, zr_mid_eq, zr_nat_eq]
def zr_code (vm : Vm) (m : MethodId) : Option Code := (vm.method? m).bind (·.code)
def zr_dec (b : ByteArray) (pc : Nat) : Except DecodeError (Instr × Nat) := match b with
  | ⟨⟨l⟩⟩ => zr_nat pc fun q => decode ⟨⟨l⟩⟩ q
theorem zr_dec_eq (b : ByteArray) (pc : Nat) : zr_dec b pc = decode b pc := by
  obtain ⟨⟨l⟩⟩ := b
  exact zr_nat_eq pc _
def zr_step (tb : Tables) (e : Env) (s : State) : State := match s.frames with
  | .java f :: _ => match overridden tb e s f with
    | some _ => (stepThread tb e s).1
    | none => match s.code? f.method with
      | some c => match zr_dec c.code f.pc with
        | .ok (i, len) => (afterInstr e len ((tb.exec i).run e s)).1
        | .error _ => (stepThread tb e s).1
      | none => (stepThread tb e s).1
  | _ => (stepThread tb e s).1
theorem zr_step_eq (tb : Tables) (e : Env) (s : State) : zr_step tb e s = (stepThread tb e s).1 := by
  unfold zr_step
  split
  · rename_i f r hf
    split
    · rfl
    · rename_i ho
      split
      · rename_i c hc
        split
        · rename_i i len hd0
          have hd : decode c.code f.pc = .ok (i, len) := by rw [← zr_dec_eq]; exact hd0
          unfold stepThread
          simp only [hf, ho, hc, hd, Option.map_some]
        · rfl
      · rfl
  · rfl
/-- the state written out: its tables, its one thread, the frame on top -/
def zr_norm {β : Type} (s : State) (k : State → β) : β := match s with
  | ⟨hp, vv, ts, cu, ww, dd, nw, us, ss⟩ => zr_vm vv fun vv => zr_nat cu fun cu => zr_nat us fun us =>
    match ts with
    | ⟨[⟨.java f :: rest, st, ob, dm, pm, wk, mo, sc, sb⟩]⟩ => zr_jf f fun f => k ⟨hp, vv, ⟨[⟨.java f :: rest, st, ob, dm, pm, wk, mo, sc, sb⟩]⟩, cu, ww, dd, nw, us, ss⟩
    | t => k ⟨hp, vv, t, cu, ww, dd, nw, us, ss⟩
theorem zr_norm_eq {β : Type} (s : State) (k : State → β) : zr_norm s k = k s := by
  cases s
  simp only [zr_norm, zr_vm_eq, zr_nat_eq]
  split
  · simp only [zr_jf_eq]
  · rfl
def zr_go (s : State) : Bool := match s.status, s.curStatus? with
  | .running, some .runnable => s.alone
  | _, _ => false
def zr_walk (tb : Tables) (e : Env) (B : Nat) : Nat → State → Bool
  | 0, s => Nat.blt B s.heap.size
  | n + 1, s => match zr_two s.frames with
    | false => false
    | true => match zr_go s with
      | true => zr_norm (zr_step tb e s) (zr_walk tb e B n)
      | false => false
set_option maxRecDepth 16384 in
theorem zr_t1 : zr_walk start1.p0.tables start1.e0 1 50 start1.about = true := by decide +kernel
end
section
theorem i_vc : Claimed_1_1 ∧ Claimed_1_2 := sorry
end
