/-! THE RUN BY THE KERNEL: the law's own run from the witness' start, step by step, as long as it has not ended -/
def zr_two : List Frame → Bool
  | _ :: _ :: _ => true
  | _ => false
def zr_nat {β : Type} (n : Nat) (f : Nat → β) : β := match n with
  | 0 => f 0
  | k + 1 => f (k + 1)
theorem zr_nat_eq {β : Type} (n : Nat) (f : Nat → β) : zr_nat n f = f n := by cases n <;> rfl
def zr_vm {β : Type} (vm : Vm) (f : Vm → β) : β := match vm with
  | v@(.mk ..) => f v
theorem zr_vm_eq {β : Type} (vm : Vm) (f : Vm → β) : zr_vm vm f = f vm := by cases vm; rfl
def zr_mid {β : Type} (m : MethodId) (f : MethodId → β) : β := match m with
  | ⟨c, i⟩ => zr_nat c fun c => zr_nat i fun i => f ⟨c, i⟩
theorem zr_mid_eq {β : Type} (m : MethodId) (f : MethodId → β) : zr_mid m f = f m := by
  cases m; simp only [zr_mid, zr_nat_eq]
/-- a frame's places written out -/
def zr_i32 {β : Type} (v : Int32) (k : Int32 → β) : β := zr_nat v.toBitVec.toNat fun n => k (Int32.ofBitVec (BitVec.ofNat 32 n))
theorem zr_i32_eq {β : Type} (v : Int32) (k : Int32 → β) : zr_i32 v k = k v := by
  rw [zr_i32, zr_nat_eq, show Int32.ofBitVec (BitVec.ofNat 32 v.toBitVec.toNat) = v from Int32.toBitVec_inj.mp (BitVec.eq_of_toNat_eq (by
    show (BitVec.ofNat 32 v.toBitVec.toNat).toNat = v.toBitVec.toNat
    rw [BitVec.toNat_ofNat]
    exact Nat.mod_eq_of_lt v.toBitVec.isLt))]
def zr_put {β : Type} (v : Value) (k : Value → β) : β := match v with
  | .int v => zr_i32 v fun v => k (.int v)
  | .ref a => zr_nat a fun a => k (.ref a)
  | v => k v
theorem zr_put_eq {β : Type} (v : Value) (k : Value → β) : zr_put v k = k v := by
  unfold zr_put; split <;> simp only [zr_i32_eq, zr_nat_eq]
def zr_puts {β : Type} (v : Slot) (k : Slot → β) : β := match v with
  | .val v => zr_put v fun v => k (.val v)
  | .unset => k .unset
  | .second => k .second
theorem zr_puts_eq {β : Type} (v : Slot) (k : Slot → β) : zr_puts v k = k v := by
  unfold zr_puts; split <;> simp only [zr_put_eq]
def zr_all {α β : Type} (g : α → (α → β) → β) : List α → (List α → β) → β
  | [], k => k []
  | a :: l, k => g a fun a => zr_all g l fun l => k (a :: l)
theorem zr_all_eq {α β : Type} {g : α → (α → β) → β} (h : ∀ a k, g a k = k a) : ∀ (l : List α) (k : List α → β), zr_all g l k = k l
  | [], _ => rfl
  | a :: l, k => by rw [zr_all, h, zr_all_eq h l]
/-- the instruction at a place of a method, out of the tables -/
def zr_ins (v : Vm) (m : MethodId) (pc : Nat) : Option (Instr × Nat) := match (v.method? m).bind (·.code) with
  | some c => match decode c.code pc with
    | .ok x => some x
    | .error _ => none
  | none => none
/-- one step, the instruction known -/
def zr_step (tb : Tables) (e : Env) (q : Option (Instr × Nat)) (f : JFrame) (s : State) : State := match q with
  | some (i, len) => match overridden tb e s f with
    | some _ => (stepThread tb e s).1
    | none => (afterInstr e len ((tb.exec i).run e s)).1
  | none => (stepThread tb e s).1
theorem zr_step_eq (tb : Tables) (e : Env) {f : JFrame} {r : List Frame} {s : State} (hf : s.frames = .java f :: r) : zr_step tb e (zr_ins s.vm f.method f.pc) f s = (stepThread tb e s).1 := by
  unfold zr_step
  split
  · rename_i i len hq
    split
    · rfl
    · rename_i ho
      unfold zr_ins at hq
      split at hq
      · rename_i c hc
        split at hq
        · rename_i x hd
          injection hq with hq
          subst hq
          have hc : s.code? f.method = some c := by rw [State.code?_eq]; exact hc
          unfold stepThread
          simp only [hf, ho, hc, hd, Option.map_some]
        · cases hq
      · cases hq
  · rfl
def zr_go (s : State) : Bool := match s.status, s.curStatus? with
  | .running, some .runnable => s.alone
  | _, _ => false
theorem zr_go_step {tb : Tables} {e : Env} {s : State} (h : zr_go s = true) (n : Nat) : stepsAlone tb e (n + 1) s = stepsAlone tb e n (stepThread tb e s).1 := by
  unfold zr_go at h
  rw [stepsAlone]
  split at h
  · rename_i h1 h2; rw [h1, h2, h]
  · cases h
/-- n steps, the run under way before each; then a look at the state -/
def zr_run (tb : Tables) (e : Env) (k : State → Bool) : Nat → State → Bool
  | 0, s => k s
  | n + 1, s => match s with
    | ⟨⟨hp⟩, vv, ⟨[⟨.java ⟨m, pc, ⟨lo⟩, st, lk, en, mr⟩ :: b :: rest, .runnable, ob, false, pm, wk, mo, sc, sb⟩]⟩, 0, ww, dd, nw, us, .running⟩ =>
      zr_vm vv fun vv => zr_nat us fun us => zr_mid m fun m => zr_nat pc fun pc => zr_all zr_puts lo fun lo => zr_all zr_put st fun st =>
        zr_run tb e k n (zr_step tb e (zr_ins vv m pc) ⟨m, pc, ⟨lo⟩, st, lk, en, mr⟩ ⟨⟨hp⟩, vv, ⟨[⟨.java ⟨m, pc, ⟨lo⟩, st, lk, en, mr⟩ :: b :: rest, .runnable, ob, false, pm, wk, mo, sc, sb⟩]⟩, 0, ww, dd, nw, us, .running⟩)
    | s => match zr_two s.frames with
      | false => false
      | true => match zr_go s with
        | true => zr_run tb e k n (stepThread tb e s).1
        | false => false
theorem zr_run_ok {tb : Tables} {e : Env} {k : State → Bool} : ∀ (n : Nat) (s : State), zr_run tb e k n s = true → (∀ j, j < n → zr_two (stepsAlone tb e j s).frames = true) ∧ k (stepsAlone tb e n s) = true
  | 0, s, h => ⟨fun j hj => absurd hj (Nat.not_lt_zero j), h⟩
  | n + 1, s, h => by
    have key : zr_two s.frames = true ∧ zr_go s = true ∧ zr_run tb e k n (stepThread tb e s).1 = true := by
      unfold zr_run at h
      split at h
      · rename_i hp vv m pc lo st lk en mr b rest ob pm wk mo sc sb ww dd nw us
        simp only [zr_vm_eq, zr_nat_eq, zr_mid_eq, zr_all_eq zr_puts_eq, zr_all_eq zr_put_eq] at h
        rw [show zr_step tb e (zr_ins vv m pc) ⟨m, pc, ⟨lo⟩, st, lk, en, mr⟩ ⟨⟨hp⟩, vv, ⟨[⟨.java ⟨m, pc, ⟨lo⟩, st, lk, en, mr⟩ :: b :: rest, .runnable, ob, false, pm, wk, mo, sc, sb⟩]⟩, 0, ww, dd, nw, us, .running⟩ = _ from zr_step_eq tb e (f := ⟨m, pc, ⟨lo⟩, st, lk, en, mr⟩) (r := b :: rest) (s := ⟨⟨hp⟩, vv, ⟨[⟨.java ⟨m, pc, ⟨lo⟩, st, lk, en, mr⟩ :: b :: rest, .runnable, ob, false, pm, wk, mo, sc, sb⟩]⟩, 0, ww, dd, nw, us, .running⟩) rfl] at h
        exact ⟨rfl, rfl, h⟩
      · split at h
        · cases h
        · rename_i h2
          split at h
          · rename_i hg; exact ⟨h2, hg, h⟩
          · cases h
    obtain ⟨h2, hg, h⟩ := key
    obtain ⟨a, b⟩ := zr_run_ok n _ h
    refine ⟨fun j hj => ?_, by rw [zr_go_step hg]; exact b⟩
    cases j with
    | zero => exact h2
    | succ j => rw [zr_go_step hg]; exact a j (by omega)
