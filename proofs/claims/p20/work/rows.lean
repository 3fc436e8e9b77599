section
/-! THE RUN BY THE KERNEL: the law's own run from the witness' start, step by step, as long as it has not ended -/
def zr_two : List Frame → Bool
  | _ :: _ :: _ => true
  | _ => false
def zr_nat {β : Type} (n : Nat) (f : Nat → β) : β := match n with
  | 0 => f 0
  | k + 1 => f (k + 1)
theorem zr_nat_eq {β : Type} (n : Nat) (f : Nat → β) : zr_nat n f = f n := by cases n <;> rfl
def zr_vm {β : Type} (vm : Vm) (f : Vm → β) : β := match vm with
  | v@(.mk ..) => f v
theorem zr_vm_eq {β : Type} (vm : Vm) (f : Vm → β) : zr_vm vm f = f vm := by cases vm; rfl
def zr_mid {β : Type} (m : MethodId) (f : MethodId → β) : β := match m with
  | ⟨c, i⟩ => zr_nat c fun c => zr_nat i fun i => f ⟨c, i⟩
theorem zr_mid_eq {β : Type} (m : MethodId) (f : MethodId → β) : zr_mid m f = f m := by
  cases m; simp only [zr_mid, zr_nat_eq]
/-- a frame's places written out -/
def zr_i32 {β : Type} (v : Int32) (k : Int32 → β) : β := zr_nat v.toBitVec.toNat fun n => k (Int32.ofBitVec (BitVec.ofNat 32 n))
theorem zr_i32_eq {β : Type} (v : Int32) (k : Int32 → β) : zr_i32 v k = k v := by
  rw [zr_i32, zr_nat_eq, show Int32.ofBitVec (BitVec.ofNat 32 v.toBitVec.toNat) = v from Int32.toBitVec_inj.mp (BitVec.eq_of_toNat_eq (by
    show (BitVec.ofNat 32 v.toBitVec.toNat).toNat = v.toBitVec.toNat
    rw [BitVec.toNat_ofNat]
    exact Nat.mod_eq_of_lt v.toBitVec.isLt))]
def zr_put {β : Type} (v : Value) (k : Value → β) : β := match v with
  | .int v => zr_i32 v fun v => k (.int v)
  | .ref a => zr_nat a fun a => k (.ref a)
  | v => k v
theorem zr_put_eq {β : Type} (v : Value) (k : Value → β) : zr_put v k = k v := by
  unfold zr_put; split <;> simp only [zr_i32_eq, zr_nat_eq]
def zr_puts {β : Type} (v : Slot) (k : Slot → β) : β := match v with
  | .val v => zr_put v fun v => k (.val v)
  | .unset => k .unset
  | .second => k .second
theorem zr_puts_eq {β : Type} (v : Slot) (k : Slot → β) : zr_puts v k = k v := by
  unfold zr_puts; split <;> simp only [zr_put_eq]
def zr_all {α β : Type} (g : α → (α → β) → β) : List α → (List α → β) → β
  | [], k => k []
  | a :: l, k => g a fun a => zr_all g l fun l => k (a :: l)
theorem zr_all_eq {α β : Type} {g : α → (α → β) → β} (h : ∀ a k, g a k = k a) : ∀ (l : List α) (k : List α → β), zr_all g l k = k l
  | [], _ => rfl
  | a :: l, k => by rw [zr_all, h, zr_all_eq h l]
/-- the instruction at a place of a method, out of the tables -/
def zr_ins (v : Vm) (m : MethodId) (pc : Nat) : Option (Instr × Nat) := match (v.method? m).bind (·.code) with
  | some c => match decode c.code pc with
    | .ok x => some x
    | .error _ => none
  | none => none
/-- one step, the instruction known -/
def zr_step (tb : Tables) (e : Env) (q : Option (Instr × Nat)) (f : JFrame) (s : State) : State := match q with
  | some (i, len) => match overridden tb e s f with
    | some _ => (stepThread tb e s).1
    | none => (afterInstr e len ((tb.exec i).run e s)).1
  | none => (stepThread tb e s).1
theorem zr_step_eq (tb : Tables) (e : Env) {f : JFrame} {r : List Frame} {s : State} (hf : s.frames = .java f :: r) : zr_step tb e (zr_ins s.vm f.method f.pc) f s = (stepThread tb e s).1 := by
  unfold zr_step
  split
  · rename_i i len hq
    split
    · rfl
    · rename_i ho
      unfold zr_ins at hq
      split at hq
      · rename_i c hc
        split at hq
        · rename_i x hd
          injection hq with hq
          subst hq
          have hc : s.code? f.method = some c := by rw [State.code?_eq]; exact hc
          unfold stepThread
          simp only [hf, ho, hc, hd, Option.map_some]
        · cases hq
      · cases hq
  · rfl
def zr_go (s : State) : Bool := match s.status, s.curStatus? with
  | .running, some .runnable => s.alone
  | _, _ => false
theorem zr_go_step {tb : Tables} {e : Env} {s : State} (h : zr_go s = true) (n : Nat) : stepsAlone tb e (n + 1) s = stepsAlone tb e n (stepThread tb e s).1 := by
  unfold zr_go at h
  rw [stepsAlone]
  split at h
  · rename_i h1 h2; rw [h1, h2, h]
  · cases h
/-- n steps, the run under way before each; then a look at the state -/
def zr_run (tb : Tables) (e : Env) (k : State → Bool) : Nat → State → Bool
  | 0, s => k s
  | n + 1, s => match s with
    | ⟨⟨hp⟩, vv, ⟨[⟨.java ⟨m, pc, ⟨lo⟩, st, lk, en, mr⟩ :: b :: rest, .runnable, ob, false, pm, wk, mo, sc, sb⟩]⟩, 0, ww, dd, nw, us, .running⟩ =>
      zr_vm vv fun vv => zr_nat us fun us => zr_mid m fun m => zr_nat pc fun pc => zr_all zr_puts lo fun lo => zr_all zr_put st fun st =>
        zr_run tb e k n (zr_step tb e (zr_ins vv m pc) ⟨m, pc, ⟨lo⟩, st, lk, en, mr⟩ ⟨⟨hp⟩, vv, ⟨[⟨.java ⟨m, pc, ⟨lo⟩, st, lk, en, mr⟩ :: b :: rest, .runnable, ob, false, pm, wk, mo, sc, sb⟩]⟩, 0, ww, dd, nw, us, .running⟩)
    | s => match zr_two s.frames with
      | false => false
      | true => match zr_go s with
        | true => zr_run tb e k n (stepThread tb e s).1
        | false => false
theorem zr_run_ok {tb : Tables} {e : Env} {k : State → Bool} : ∀ (n : Nat) (s : State), zr_run tb e k n s = true → (∀ j, j < n → zr_two (stepsAlone tb e j s).frames = true) ∧ k (stepsAlone tb e n s) = true
  | 0, s, h => ⟨fun j hj => absurd hj (Nat.not_lt_zero j), h⟩
  | n + 1, s, h => by
    have key : zr_two s.frames = true ∧ zr_go s = true ∧ zr_run tb e k n (stepThread tb e s).1 = true := by
      unfold zr_run at h
      split at h
      · rename_i hp vv m pc lo st lk en mr b rest ob pm wk mo sc sb ww dd nw us
        simp only [zr_vm_eq, zr_nat_eq, zr_mid_eq, zr_all_eq zr_puts_eq, zr_all_eq zr_put_eq] at h
        rw [show zr_step tb e (zr_ins vv m pc) ⟨m, pc, ⟨lo⟩, st, lk, en, mr⟩ ⟨⟨hp⟩, vv, ⟨[⟨.java ⟨m, pc, ⟨lo⟩, st, lk, en, mr⟩ :: b :: rest, .runnable, ob, false, pm, wk, mo, sc, sb⟩]⟩, 0, ww, dd, nw, us, .running⟩ = _ from zr_step_eq tb e (f := ⟨m, pc, ⟨lo⟩, st, lk, en, mr⟩) (r := b :: rest) (s := ⟨⟨hp⟩, vv, ⟨[⟨.java ⟨m, pc, ⟨lo⟩, st, lk, en, mr⟩ :: b :: rest, .runnable, ob, false, pm, wk, mo, sc, sb⟩]⟩, 0, ww, dd, nw, us, .running⟩) rfl] at h
        exact ⟨rfl, rfl, h⟩
      · split at h
        · cases h
        · rename_i h2
          split at h
          · rename_i hg; exact ⟨h2, hg, h⟩
          · cases h
    obtain ⟨h2, hg, h⟩ := key
    obtain ⟨a, b⟩ := zr_run_ok n _ h
    refine ⟨fun j hj => ?_, by rw [zr_go_step hg]; exact b⟩
    cases j with
    | zero => exact h2
    | succ j => rw [zr_go_step hg]; exact a j (by omega)
end
section
/-! TWO STATES ARE ONE: what is compared by running, and what stays of a class by the library's own law -/
def zr_list {α : Type} (eq : α → α → Bool) : List α → List α → Bool
  | [], [] => true
  | a :: l, b :: r => match eq a b with
    | true => zr_list eq l r
    | false => false
  | _, _ => false
theorem zr_list_eq {α : Type} {eq : α → α → Bool} (h : ∀ a b, eq a b = true → a = b) : ∀ l r, zr_list eq l r = true → l = r
  | [], [], _ => rfl
  | [], _ :: _, h1 => by simp [zr_list] at h1
  | _ :: _, [], h1 => by simp [zr_list] at h1
  | a :: l, b :: r, h1 => by
    unfold zr_list at h1
    split at h1
    · rename_i h2; rw [h a b h2, zr_list_eq h l r h1]
    · cases h1
def zr_val : Value → Value → Bool
  | .int a, .int b => Nat.beq a.toBitVec.toNat b.toBitVec.toNat
  | .ref a, .ref b => Nat.beq a b
  | .null, .null => true
  | .long a, .long b => Nat.beq a.toBitVec.toNat b.toBitVec.toNat
  | _, _ => false
theorem zr_val_eq (a b : Value) (h : zr_val a b = true) : a = b := by
  unfold zr_val at h
  split at h
  · rename_i x y
    rw [show x = y from Int32.toBitVec_inj.mp (BitVec.eq_of_toNat_eq (Nat.eq_of_beq_eq_true h))]
  · rw [Nat.eq_of_beq_eq_true h]
  · rfl
  · rename_i x y
    rw [show x = y from Int64.toBitVec_inj.mp (BitVec.eq_of_toNat_eq (Nat.eq_of_beq_eq_true h))]
  · cases h
def zr_cell (a b : Cell) : Bool := decide (a.cls = b.cls) && (zr_list zr_val a.slots.toList b.slots.toList && (decide (a.monitor = b.monitor) && (decide (a.hash = b.hash) && decide (a.vm = b.vm))))
theorem zr_cell_eq (a b : Cell) (h : zr_cell a b = true) : a = b := by
  simp only [zr_cell, Bool.and_eq_true, decide_eq_true_eq] at h
  obtain ⟨h1, h2, h3, h4, h5⟩ := h
  replace h2 : a.slots = b.slots := Array.toList_inj.mp (zr_list_eq zr_val_eq _ _ h2)
  cases a; cases b
  simp only at h1 h2 h3 h4 h5
  subst h1 h2 h3 h4 h5
  rfl
def zr_slot (a b : Slot) : Bool := decide (a = b)
def zr_java (a b : JFrame) : Bool := decide (a.method = b.method) && (decide (a.pc = b.pc) && (zr_list zr_slot a.locals.toList b.locals.toList && (zr_list zr_val a.stack b.stack && (decide (a.locked = b.locked) && (decide (a.entered = b.entered) && decide (a.monitorRoom = b.monitorRoom))))))
theorem zr_java_eq (a b : JFrame) (h : zr_java a b = true) : a = b := by
  simp only [zr_java, Bool.and_eq_true, decide_eq_true_eq] at h
  obtain ⟨h1, h2, h3, h4, h5, h6, h7⟩ := h
  replace h3 : a.locals = b.locals := Array.toList_inj.mp (zr_list_eq (fun x y h => of_decide_eq_true h) _ _ h3)
  replace h4 : a.stack = b.stack := zr_list_eq zr_val_eq _ _ h4
  cases a; cases b
  simp only at h1 h2 h3 h4 h5 h6 h7
  subst h1 h2 h3 h4 h5 h6 h7
  rfl
def zr_bot : Frame → Bool
  | .native ⟨⟨0, 0⟩, ⟨[]⟩, 0, ⟨[]⟩, false, none, none, 0⟩ => true
  | _ => false
theorem zr_bot_eq {f : Frame} (h : zr_bot f = true) : f = .native { method := ⟨0, 0⟩, args := #[] } := by
  revert h; unfold zr_bot; split <;> intro h <;> first | rfl | cases h
def zr_frame (a b : Frame) : Bool := match a, b with
  | .java f, .java g => zr_java f g
  | .native f, .native g => zr_bot (.native f) && zr_bot (.native g)
  | _, _ => false
theorem zr_frame_eq (a b : Frame) (h : zr_frame a b = true) : a = b := by
  unfold zr_frame at h
  split at h
  · rw [zr_java_eq _ _ h]
  · rw [Bool.and_eq_true] at h
    rw [zr_bot_eq h.1, zr_bot_eq h.2]
  · cases h
def zr_fr : Thread → Option (List Frame)
  | ⟨fs, .runnable, none, false, false, .other, none, .null, 0⟩ => some fs
  | _ => none
theorem zr_fr_eq {t : Thread} {fs : List Frame} (h : zr_fr t = some fs) : t = { frames := fs } := by
  revert h; unfold zr_fr; split <;> intro h <;> first | (cases h; done) | (injection h with h; subst h; rfl)
def zr_res : Option Resolved → Option Resolved → Bool
  | none, none => true
  | some (.cls a), some (.cls b) => Nat.beq a b
  | some (.field a i), some (.field b j) => Nat.beq a b && Nat.beq i j
  | some (.method ⟨a, i⟩), some (.method ⟨b, j⟩) => Nat.beq a b && Nat.beq i j
  | some (.string a), some (.string b) => Nat.beq a b
  | _, _ => false
theorem zr_res_eq (a b : Option Resolved) (h : zr_res a b = true) : a = b := by
  unfold zr_res at h
  split at h
  · rfl
  · rw [Nat.eq_of_beq_eq_true h]
  · rw [Bool.and_eq_true] at h
    rw [Nat.eq_of_beq_eq_true h.1, Nat.eq_of_beq_eq_true h.2]
  · rw [Bool.and_eq_true] at h
    rw [Nat.eq_of_beq_eq_true h.1, Nat.eq_of_beq_eq_true h.2]
  · rw [Nat.eq_of_beq_eq_true h]
  · cases h
def zr_cls (a b : Class) : Bool := decide (a.accessFlags = b.accessFlags) && (decide (a.super = b.super) && (decide (a.interfaces.toList = b.interfaces.toList) && (decide (a.instanceTypes.toList = b.instanceTypes.toList) && (decide (a.staticTypes.toList = b.staticTypes.toList) && (zr_list zr_res a.resolved.toList b.resolved.toList && (decide (a.callSites = b.callSites) && (decide (a.invokers = b.invokers) && (decide (a.handedOver = b.handedOver) && (decide (a.initiators = b.initiators) && (decide (a.protectionDomain = b.protectionDomain) && (decide (a.signers = b.signers) && (decide (a.nestHost = b.nestHost) && (decide (a.nestHostError = b.nestHostError) && (decide (a.linked = b.linked) && (decide (a.init = b.init) && (decide (a.statics = b.statics) && decide (a.mirror = b.mirror)))))))))))))))))
theorem zr_cls_eq (a b : Class) (hs : a.Stays b) (h : zr_cls a b = true) : a = b := by
  simp only [zr_cls, Bool.and_eq_true, decide_eq_true_eq] at h
  obtain ⟨h1, h2, h3, h4, h5, h6, h7, h8, h9, h10, h11, h12, h13, h14, h15, h16, h17, h18⟩ := h
  obtain ⟨s1, s2, s3, s4, s5, -, -, s8, s9, -⟩ := hs
  replace h3 : a.interfaces = b.interfaces := Array.toList_inj.mp h3
  replace h4 : a.instanceTypes = b.instanceTypes := Array.toList_inj.mp h4
  replace h5 : a.staticTypes = b.staticTypes := Array.toList_inj.mp h5
  replace h6 : a.resolved = b.resolved := Array.toList_inj.mp (zr_list_eq zr_res_eq _ _ h6)
  cases a; cases b
  simp only at h1 h2 h3 h4 h5 h6 h7 h8 h9 h10 h11 h12 h13 h14 h15 h16 h17 h18 s1 s2 s3 s4 s5 s8 s9
  subst h1 h2 h3 h4 h5 h6 h7 h8 h9 h10 h11 h12 h13 h14 h15 h16 h17 h18 s1 s2 s3 s4 s5 s8 s9
  rfl
theorem zr_clss : ∀ (l r : List Class), zr_list zr_cls l r = true → (∀ (i : Nat) (k : Class), l[i]? = some k → ∃ k', r[i]? = some k' ∧ k.Stays k') → l = r
  | [], [], _, _ => rfl
  | [], _ :: _, h1, _ => by simp [zr_list] at h1
  | _ :: _, [], h1, _ => by simp [zr_list] at h1
  | a :: l, b :: r, h1, hs => by
    unfold zr_list at h1
    split at h1
    · rename_i h2
      obtain ⟨k', e, h3⟩ := hs 0 a rfl
      have e : b = k' := by simpa using e
      subst e
      rw [zr_cls_eq a b h3 h2, zr_clss l r h1 (fun i k hk => by
        obtain ⟨k', e, h4⟩ := hs (i + 1) k (by simpa using hk)
        exact ⟨k', by simpa using e, h4⟩)]
    · cases h1
/-- tables with classes alone -/
def zr_bare : Vm → Option (Array Class)
  | ⟨cs, ⟨[]⟩, ⟨[]⟩, none, none, [], [], [], l0, [], [], [], [], 0, ⟨[]⟩, none, [], false, []⟩ => match decide (l0 = 0) with
    | true => some cs
    | false => none
  | _ => none
theorem zr_bare_eq {v : Vm} {cs : Array Class} (h : zr_bare v = some cs) : v = { classes := cs } := by
  revert h; unfold zr_bare; split
  · split
    · rename_i h1
      have h1 := of_decide_eq_true h1
      intro h
      injection h with h
      subst h1 h
      rfl
    · intro h; cases h
  · intro h; cases h
def zr_vmeq (a b : Vm) : Bool := match zr_bare a, zr_bare b with
  | some x, some y => zr_list zr_cls x.toList y.toList
  | _, _ => false
theorem zr_vmeq_eq (a b : Vm) (h : zr_vmeq a b = true) (hs : ∀ (i : Nat) (k : Class), a.classes[i]? = some k → ∃ k', b.classes[i]? = some k' ∧ k.Stays k') : a = b := by
  unfold zr_vmeq at h
  split at h
  · rename_i x y hx hy
    have ex := zr_bare_eq hx
    have ey := zr_bare_eq hy
    subst ex ey
    have : x = y := Array.toList_inj.mp (zr_clss _ _ h (fun i k hk => by
      obtain ⟨k', e, h3⟩ := hs i k (by rw [← Array.getElem?_toList]; exact hk)
      exact ⟨k', by rw [Array.getElem?_toList]; exact e, h3⟩))
    rw [this]
  · cases h
theorem zr_stays (tb : Tables) (e : Env) : ∀ (n : Nat) (s : State) (i : Nat) (k : Class), s.vm.classes[i]? = some k → ∃ k', (stepsAlone tb e n s).vm.classes[i]? = some k' ∧ k.Stays k'
  | 0, s, i, k, h => ⟨k, h, .refl k⟩
  | n + 1, s, i, k, h => by
    rw [stepsAlone]
    split
    · obtain ⟨k1, h1, h2⟩ := (stepThread_hm (e := e) tb (s := s) (cH := i) (msH := k) ⟨k, h, .refl k⟩).out
      obtain ⟨k2, h3, h4⟩ := zr_stays tb e n _ i k1 h1
      exact ⟨k2, h3, h2.trans h4⟩
    · exact ⟨k, h, .refl k⟩
theorem zr_with {c : Class} {l : List (Option Resolved)} (h : l = c.resolved.toList) : ({ c with resolved := ⟨l⟩ } : Class) = c := by subst h; rfl
end
section
def zr_l0 : List (Option Resolved) := [none, none, none, none, none, none, none, none, some (.method ⟨2, 1⟩), some (.cls 2), none, none, none, none, some (.cls 17), none, some (.cls 16), none, some (.method ⟨2, 2⟩), none, none, none, some (.cls 15), none, some (.method ⟨2, 3⟩), none, none, none, some (.method ⟨2, 4⟩), none, none, none, some (.method ⟨2, 5⟩), none, none, none, some (.method ⟨2, 6⟩), none, none, none, some (.method ⟨2, 8⟩), none, none, some (.method ⟨2, 9⟩), none, none, none, some (.method ⟨2, 10⟩), none, none, some (.method ⟨2, 11⟩), none, none, some (.method ⟨2, 12⟩), none, none, some (.method ⟨2, 13⟩), none, none, none, some (.method ⟨2, 14⟩), none, none, some (.method ⟨2, 15⟩), none, none, none, some (.method ⟨2, 16⟩), none, none, some (.method ⟨2, 17⟩), none, none, some (.cls 18), none, some (.method ⟨0, 19⟩), none, none, none, none, none, some (.method ⟨0, 20⟩), none, none, none, some (.method ⟨0, 2⟩), none, none, some (.method ⟨0, 3⟩), none, none, some (.method ⟨0, 4⟩), none, none, some (.method ⟨0, 5⟩), none, none, some (.method ⟨0, 6⟩), none, none, some (.method ⟨0, 7⟩), none, none, some (.method ⟨0, 9⟩), none, some (.method ⟨0, 8⟩), none, none, some (.method ⟨2, 7⟩), none, none, some (.method ⟨0, 21⟩), none, none, none, some (.method ⟨0, 10⟩), none, none, some (.method ⟨0, 13⟩), none, some (.method ⟨0, 11⟩), none, some (.method ⟨0, 18⟩), none, some (.method ⟨0, 14⟩), none, some (.method ⟨0, 15⟩), none, some (.method ⟨0, 16⟩), none, none, some (.method ⟨0, 12⟩), none, some (.method ⟨0, 17⟩), none, some (.method ⟨0, 22⟩), none, none, none, some (.method ⟨0, 25⟩), none, none, none, none, none, some (.method ⟨2, 0⟩), some (.method ⟨0, 24⟩), none, none, none, some (.method ⟨0, 1⟩), none, none, some (.method ⟨0, 23⟩), none, none, none, none, none, none, none, some (.cls 2), none, none, none, none, none, none, none, none, none, none, none, none, none, none, none, none, none, none, none, none, none, none, none, none, none, none, none, some (.cls 2), none, none, none, none, none, none, none, none, none, none, none, none, none, some (.cls 2), none, none, none, none, none, none, some (.cls 2), none, none, none, none, none, none, some (.cls 2), none, none, none, none, none, none, some (.cls 2), none, none, none, none, none, none, some (.cls 2), none, none, none, none, none, none, some (.cls 2), none, none, none, none, none, none, some (.cls 2), none, none, none, none, none, none, some (.cls 2), none, none, none, none, none, none, some (.cls 2), none, none, none, none, none, none, some (.cls 2), none, none, none, none, none, none, some (.cls 2), none, none, none, none, none, none, some (.cls 2), none, none, none, none, none, none, some (.cls 2), none, none, none, none, none, none, some (.cls 2), none, none, none, none, none, none, none, none, none, none, none, none, none, some (.cls 0), none, none, none, none, none, none, some (.cls 0), none, none, none, none, none, none, some (.cls 0), none, none, none, none, none, none, some (.cls 0), none, none, none, none, none, none, some (.cls 0), none, none, none, none, none, none, some (.cls 0), none, none, none, none, none, none, some (.cls 0), none, none, none, none, none, none, some (.cls 0), none, none, none, none, none, none, some (.cls 0), none, none, none, none, none, none, some (.cls 0), none, none, none, none, none, none, some (.cls 2), none, none, none, none, none, none, some (.cls 0), none, none, none, none, none, none, some (.cls 0), none, none, none, none, none, none, some (.cls 0), none, none, none, none, none, none, some (.cls 0), none, none, none, none, none, none, some (.cls 0), none, none, none, none, none, none, some (.cls 0), none, none, none, none, none, none, some (.cls 0), none, none, none, none, none, none, some (.cls 0), none, none, none, none, none, none, some (.cls 0), none, none, none, none, none, none, some (.cls 0), none, none, none, none, none, none, some (.cls 0), none, none, none, none, none, none, some (.cls 0), none, none, none, none, none, none, none, none, none, none, none, none, none, some (.cls 2), none, none, none, none, none, none, some (.cls 0), none, none, none, none, none, none, some (.cls 0), none, none, none, none, none, none, some (.cls 0), none, none, none, none, none, none]
def zr_c0 : Class := { start1.c0 with resolved := ⟨zr_l0⟩ }
set_option maxRecDepth 16384 in
theorem zr_c0_eq : zr_c0 = start1.c0 := zr_with (zr_list_eq zr_res_eq _ _ (by decide +kernel : zr_list zr_res zr_l0 start1.c0.resolved.toList = true))
def zr_l2 : List (Option Resolved) := [none, none, none, some (.method ⟨1, 0⟩), none, none, none, none, none, some (.cls 3), none, some (.method ⟨3, 0⟩), some (.cls 5), none, some (.method ⟨5, 0⟩), some (.cls 6), none, some (.method ⟨6, 0⟩), none, none, some (.field 2 0), none, none, none, some (.field 2 1), none, none, none, some (.field 2 2), none, none, none, some (.cls 7), none, some (.method ⟨7, 0⟩), none, none, some (.field 2 3), none, none, none, some (.field 2 4), none, none, some (.method ⟨2, 25⟩), none, none, none, some (.method ⟨2, 19⟩), none, none, none, some (.cls 17), none, some (.string 4), none, some (.method ⟨17, 0⟩), none, none, some (.method ⟨3, 1⟩), none, none, none, some (.cls 16), none, some (.string 6), none, some (.method ⟨16, 0⟩), some (.method ⟨3, 2⟩), none, none, none, some (.method ⟨2, 24⟩), none, none, some (.method ⟨2, 27⟩), none, none, none, some (.method ⟨6, 1⟩), none, none, some (.method ⟨2, 22⟩), none, none, none, some (.method ⟨3, 6⟩), none, none, none, some (.method ⟨2, 26⟩), none, none, some (.method ⟨3, 7⟩), none, none, none, some (.string 14), none, some (.method ⟨3, 9⟩), none, none, none, some (.method ⟨3, 11⟩), none, none, none, some (.method ⟨5, 1⟩), none, none, some (.method ⟨2, 28⟩), none, none, some (.method ⟨2, 30⟩), none, none, some (.string 18), none, some (.method ⟨5, 7⟩), none, none, some (.string 20), none, some (.method ⟨5, 8⟩), none, some (.method ⟨5, 3⟩), none, none, none, some (.method ⟨5, 6⟩), none, none, some (.method ⟨2, 29⟩), none, none, some (.method ⟨6, 3⟩), none, none, some (.method ⟨6, 4⟩), none, none, some (.method ⟨2, 23⟩), none, none, some (.method ⟨3, 10⟩), none, none, some (.method ⟨7, 1⟩), none, none, some (.method ⟨7, 3⟩), none, none, some (.method ⟨7, 2⟩), none, none, none, some (.method ⟨7, 4⟩), none, none, some (.string 26), none, some (.string 28), none, some (.method ⟨9, 0⟩), none, none, none, none, some (.method ⟨7, 5⟩), none, none, none, some (.cls 18), none, some (.string 24), none, some (.method ⟨18, 0⟩), some (.method ⟨2, 18⟩), none, none, some (.string 8), none, some (.string 2), none, some (.method ⟨2, 20⟩), none, none, some (.string 12), none, some (.cls 15), none, some (.string 10), none, some (.method ⟨15, 0⟩), some (.method ⟨5, 4⟩), none, none, some (.string 16), none, some (.method ⟨6, 2⟩), none, none, some (.string 22), none, some (.method ⟨5, 2⟩), none, none, some (.method ⟨3, 3⟩), some (.cls 1), none, none, none, none, none, none, none, none, none, none, none, none, none, some (.cls 3), none, none, none, none, none, none, none, none, none, none, none, none, none, some (.cls 5), none, none, none, none, none, none, none, none, none, none, none, none, none, some (.cls 6), none, none, none, none, none, none, some (.cls 2), none, none, none, none, none, none, some (.cls 2), none, none, none, none, none, none, some (.cls 2), none, none, none, none, none, none, none, none, none, none, none, none, none, some (.cls 7), none, none, none, none, none, none, some (.cls 2), none, none, none, none, none, none, some (.cls 2), none, none, none, none, none, none, some (.cls 2), none, none, none, none, none, none, some (.cls 2), none, none, none, none, none, none, none, none, none, none, none, none, none, none, none, none, none, none, none, none, some (.cls 17), none, none, none, none, none, none, some (.cls 3), none, none, none, none, none, none, none, none, none, none, none, none, none, none, none, none, none, none, none, none, some (.cls 16), none, none, none, none, none, none, some (.cls 3), none, none, none, none, none, none, some (.cls 2), none, none, none, none, none, none, some (.cls 2), none, none, none, none, none, none, some (.cls 6), none, none, none, none, none, none, some (.cls 2), none, none, none, none, none, none, some (.cls 3), none, none, none, none, none, none, some (.cls 2), none, none, none, none, none, none, some (.cls 3), none, none, none, none, none, none, none, none, none, none, none, none, none, some (.cls 3), none, none, none, none, none, none, some (.cls 3), none, none, none, none, none, none, some (.cls 5), none, none, none, none, none, none, some (.cls 2), none, none, none, none, none, none, some (.cls 2), none, none, none, none, none, none, none, none, none, none, none, none, none, some (.cls 5), none, none, none, none, none, none, none, none, none, none, none, none, none, some (.cls 5), none, none, none, none, none, none, some (.cls 5), none, none, none, none, none, none, some (.cls 5), none, none, none, none, none, none, some (.cls 2), none, none, none, none, none, none, some (.cls 6), none, none, none, none, none, none, some (.cls 6), none, none, none, none, none, none, some (.cls 2), none, none, none, none, none, none, some (.cls 3), none, none, none, none, none, none, some (.cls 7), none, none, none, none, none, none, some (.cls 7), none, none, none, none, none, none, some (.cls 7), none, none, none, none, none, none, some (.cls 7), none, none, none, none, none, none, none, none, none, none, none, none, none, none, none, none, none, none, none, none, some (.cls 9), none, none, none, none, none, none, some (.cls 7), none, none, none, none, none, none, none, none, none, none, none, none, none, none, none, none, none, none, none, none, some (.cls 18), none, none, none, none, none, none, some (.cls 2), none, none, none, none, none, none, none, none, none, none, none, none, none, none, none, none, none, none, none, none, some (.cls 2), none, none, none, none, none, none, none, none, none, none, none, none, none, none, none, none, none, none, none, none, none, none, none, none, none, none, none, some (.cls 15), none, none, none, none, none, none, some (.cls 5), none, none, none, none, none, none, none, none, none, none, none, none, none, some (.cls 6), none, none, none, none, none, none, none, none, none, none, none, none, none, some (.cls 5), none, none, none, none, none, none, some (.cls 3), none, none, none, none, none, none]
def zr_c2 : Class := { start1.c2 with resolved := ⟨zr_l2⟩ }
set_option maxRecDepth 16384 in
theorem zr_c2_eq : zr_c2 = start1.c2 := zr_with (zr_list_eq zr_res_eq _ _ (by decide +kernel : zr_list zr_res zr_l2 start1.c2.resolved.toList = true))
def zr_l3 : List (Option Resolved) := [none, none, none, some (.method ⟨1, 0⟩), none, none, none, none, none, some (.field 3 0), none, none, none, none, none, some (.field 3 1), none, none, some (.field 3 2), none, none, none, some (.field 3 3), none, none, some (.field 3 4), none, none, some (.method ⟨4, 0⟩), none, none, none, none, none, some (.method ⟨2, 19⟩), none, none, none, some (.method ⟨3, 1⟩), none, none, none, some (.method ⟨2, 22⟩), none, none, none, some (.method ⟨2, 21⟩), none, none, some (.method ⟨2, 23⟩), none, none, some (.method ⟨3, 3⟩), none, none, some (.method ⟨2, 20⟩), none, none, some (.method ⟨3, 8⟩), none, none, some (.field 3 5), some (.cls 1), none, none, none, none, none, none, some (.cls 3), none, none, none, none, none, none, some (.cls 3), none, none, none, none, none, none, some (.cls 3), none, none, none, none, none, none, some (.cls 3), none, none, none, none, none, none, some (.cls 3), none, none, none, none, none, none, some (.cls 4), none, none, none, none, none, none, some (.cls 2), none, none, none, none, none, none, some (.cls 3), none, none, none, none, none, none, some (.cls 2), none, none, none, none, none, none, some (.cls 2), none, none, none, none, none, none, some (.cls 2), none, none, none, none, none, none, some (.cls 3), none, none, none, none, none, none, some (.cls 2), none, none, none, none, none, none, some (.cls 3), none, none, none, none, none, none, some (.cls 3), none, none, none, none, none, none]
def zr_c3 : Class := { start1.c3 with resolved := ⟨zr_l3⟩ }
set_option maxRecDepth 16384 in
theorem zr_c3_eq : zr_c3 = start1.c3 := zr_with (zr_list_eq zr_res_eq _ _ (by decide +kernel : zr_list zr_res zr_l3 start1.c3.resolved.toList = true))
def zr_l4 : List (Option Resolved) := [none]
def zr_c4 : Class := { start1.c4 with resolved := ⟨zr_l4⟩ }
set_option maxRecDepth 16384 in
theorem zr_c4_eq : zr_c4 = start1.c4 := zr_with (zr_list_eq zr_res_eq _ _ (by decide +kernel : zr_list zr_res zr_l4 start1.c4.resolved.toList = true))
def zr_l5 : List (Option Resolved) := [none, none, none, some (.method ⟨1, 0⟩), none, none, none, none, none, some (.field 5 0), none, none, none, none, none, some (.field 5 1), none, none, some (.field 5 3), none, none, none, some (.field 5 2), none, none, some (.method ⟨5, 4⟩), none, none, none, some (.method ⟨5, 5⟩), none, none, none, some (.method ⟨5, 6⟩), some (.cls 1), none, none, none, none, none, none, some (.cls 5), none, none, none, none, none, none, some (.cls 5), none, none, none, none, none, none, some (.cls 5), none, none, none, none, none, none, some (.cls 5), none, none, none, none, none, none, some (.cls 5), none, none, none, none, none, none, some (.cls 5), none, none, none, none, none, none, some (.cls 5), none, none, none, none, none, none]
def zr_c5 : Class := { start1.c5 with resolved := ⟨zr_l5⟩ }
set_option maxRecDepth 16384 in
theorem zr_c5_eq : zr_c5 = start1.c5 := zr_with (zr_list_eq zr_res_eq _ _ (by decide +kernel : zr_list zr_res zr_l5 start1.c5.resolved.toList = true))
def zr_l6 : List (Option Resolved) := [none, none, none, some (.method ⟨1, 0⟩), none, none, none, none, none, some (.field 6 0), none, none, none, none, none, some (.field 6 1), none, none, none, some (.field 6 2), none, none, none, some (.field 6 3), none, none, some (.field 6 4), none, none, some (.field 6 5), none, none, some (.field 6 8), none, none, none, some (.method ⟨6, 5⟩), none, none, none, some (.field 6 9), none, none, some (.method ⟨6, 6⟩), none, none, some (.method ⟨6, 8⟩), none, none, none, some (.field 6 7), none, none, none, some (.method ⟨6, 7⟩), none, none, some (.method ⟨5, 4⟩), none, none, none, none, none, some (.method ⟨5, 3⟩), none, none, none, some (.method ⟨8, 0⟩), none, none, none, none, some (.field 6 6), none, none, some (.method ⟨5, 5⟩), none, none, none, some (.method ⟨5, 6⟩), none, none, some (.method ⟨3, 5⟩), none, none, none, none, some (.method ⟨6, 4⟩), none, none, some (.method ⟨2, 23⟩), none, none, some (.method ⟨9, 0⟩), none, none, none, none, some (.method ⟨6, 9⟩), some (.cls 1), none, none, none, none, none, none, some (.cls 6), none, none, none, none, none, none, some (.cls 6), none, none, none, none, none, none, some (.cls 6), none, none, none, none, none, none, some (.cls 6), none, none, none, none, none, none, some (.cls 6), none, none, none, none, none, none, some (.cls 6), none, none, none, none, none, none, some (.cls 6), none, none, none, none, none, none, some (.cls 6), none, none, none, none, none, none, some (.cls 6), none, none, none, none, none, none, some (.cls 6), none, none, none, none, none, none, some (.cls 6), none, none, none, none, none, none, some (.cls 6), none, none, none, none, none, none, some (.cls 6), none, none, none, none, none, none, some (.cls 5), none, none, none, none, none, none, some (.cls 5), none, none, none, none, none, none, some (.cls 8), none, none, none, none, none, none, some (.cls 6), none, none, none, none, none, none, some (.cls 5), none, none, none, none, none, none, some (.cls 5), none, none, none, none, none, none, some (.cls 3), none, none, none, none, none, none, some (.cls 6), none, none, none, none, none, none, some (.cls 2), none, none, none, none, none, none, some (.cls 9), none, none, none, none, none, none, some (.cls 6), none, none, none, none, none, none]
def zr_c6 : Class := { start1.c6 with resolved := ⟨zr_l6⟩ }
set_option maxRecDepth 16384 in
theorem zr_c6_eq : zr_c6 = start1.c6 := zr_with (zr_list_eq zr_res_eq _ _ (by decide +kernel : zr_list zr_res zr_l6 start1.c6.resolved.toList = true))
def zr_l7 : List (Option Resolved) := [none, none, none, some (.method ⟨1, 0⟩), none, none, none, none, none, some (.field 7 0), none, none, none, none, none, some (.field 7 1), none, none, none, some (.field 7 2), none, none, none, some (.field 7 3), none, none, none, some (.field 7 4), none, none, some (.field 7 5), none, none, none, some (.method ⟨7, 6⟩), none, none, none, some (.method ⟨7, 7⟩), none, none, some (.method ⟨7, 8⟩), none, none, some (.field 7 6), none, none, none, some (.method ⟨5, 4⟩), none, none, none, none, none, some (.method ⟨5, 3⟩), none, none, none, some (.method ⟨7, 2⟩), none, none, none, some (.method ⟨7, 3⟩), none, none, none, some (.method ⟨5, 5⟩), none, none, some (.method ⟨6, 4⟩), none, none, none, none, some (.method ⟨2, 23⟩), none, none, some (.method ⟨5, 6⟩), none, none, some (.method ⟨3, 8⟩), none, none, none, none, none, some (.method ⟨8, 0⟩), none, none, none, none, some (.method ⟨3, 4⟩), some (.cls 1), none, none, none, none, none, none, some (.cls 7), none, none, none, none, none, none, some (.cls 7), none, none, none, none, none, none, some (.cls 7), none, none, none, none, none, none, some (.cls 7), none, none, none, none, none, none, some (.cls 7), none, none, none, none, none, none, some (.cls 7), none, none, none, none, none, none, some (.cls 7), none, none, none, none, none, none, some (.cls 7), none, none, none, none, none, none, some (.cls 7), none, none, none, none, none, none, some (.cls 7), none, none, none, none, none, none, some (.cls 5), none, none, none, none, none, none, some (.cls 5), none, none, none, none, none, none, some (.cls 7), none, none, none, none, none, none, some (.cls 7), none, none, none, none, none, none, some (.cls 5), none, none, none, none, none, none, some (.cls 6), none, none, none, none, none, none, some (.cls 2), none, none, none, none, none, none, some (.cls 5), none, none, none, none, none, none, some (.cls 3), none, none, none, none, none, none, some (.cls 8), none, none, none, none, none, none, some (.cls 3), none, none, none, none, none, none]
def zr_c7 : Class := { start1.c7 with resolved := ⟨zr_l7⟩ }
set_option maxRecDepth 16384 in
theorem zr_c7_eq : zr_c7 = start1.c7 := zr_with (zr_list_eq zr_res_eq _ _ (by decide +kernel : zr_list zr_res zr_l7 start1.c7.resolved.toList = true))
def zr_l8 : List (Option Resolved) := [none]
def zr_c8 : Class := { start1.c8 with resolved := ⟨zr_l8⟩ }
set_option maxRecDepth 16384 in
theorem zr_c8_eq : zr_c8 = start1.c8 := zr_with (zr_list_eq zr_res_eq _ _ (by decide +kernel : zr_list zr_res zr_l8 start1.c8.resolved.toList = true))
def zr_l9 : List (Option Resolved) := [none, none, none, none, none, none, none, none, none, none, none, none, none, none, none, none, none, none, none, none, none, none, none, none, none, none, none, none, none, none, none, none, none, none, none, none, none, none, none, none, none, none, none, none, none, none, none, none, none, none, none, none, none, none, none, none, none, none, none, none, none, none, none, none, none, none, none, none, none, none, none, none, none, none, none, none, none, none, none, none, none, none, none, none, none, none, none, none, none, none, none, none, none, none, none, none, none, none, none, none, none, none, none, none, none, none, none, none, none, none, none, none, none, none, none, none, none, none, none, none, none, none, none, none, none, none, none, none, none, none, none, none, none, none, none, none, none, none, none, none, none, none, none, none, none, none, none, none, none, none, none, none, none, none, none, none, none, none, none, none, none, none, none, none, none, none, none, none, none, none, none, none, none, none, none, none, none, none, none, none, none, none, none, none, none, none, none, none, none, none, none, none, none, none, none, none, none, none, none, none, none, none, none, none, none, none, none, none, none, none, none, none, none, none, none, none, none, none, none, none, none, none, none, none, none, none, none, none, none, none, none, none, none, none, none, none, none, none, none, none, none, none, none, none, none, none, none, none, none, none, none, none, none, none, none, none, none, none, none, none, none, none, none, none, none, none, none, none, none, none, none, none, none, none, none, none, none, none, none, none, none, none, none, none, none, none, none, none, none]
def zr_c9 : Class := { start1.c9 with resolved := ⟨zr_l9⟩ }
set_option maxRecDepth 16384 in
theorem zr_c9_eq : zr_c9 = start1.c9 := zr_with (zr_list_eq zr_res_eq _ _ (by decide +kernel : zr_list zr_res zr_l9 start1.c9.resolved.toList = true))
def zr_l10 : List (Option Resolved) := [none]
def zr_c10 : Class := { start1.c10 with resolved := ⟨zr_l10⟩ }
set_option maxRecDepth 16384 in
theorem zr_c10_eq : zr_c10 = start1.c10 := zr_with (zr_list_eq zr_res_eq _ _ (by decide +kernel : zr_list zr_res zr_l10 start1.c10.resolved.toList = true))
def zr_l11 : List (Option Resolved) := [none, some (.method ⟨1, 0⟩), none, none, none, none, none, some (.field 11 2), none, none, none, none, none, some (.field 11 7), none, none, none, some (.field 11 3), none, none, some (.field 11 8), none, none, none, some (.field 11 5), none, none, some (.method ⟨11, 2⟩), none, none, none, some (.field 11 1), none, none, none, none, none, none, none, none, none, none, none, none, none, none, none, none, none, none, none, none, none, none, none, none, none, none, none, none, none, none, none, none, none, none, none, none, none, none, none, none, none, none, none, none, none, none, none, none, none, none, none, none, none, none, none, none, none, none, none, none, none, none, none, none, none, none, none, none, none, none, none, none, none, none, none, none, none, none, none, none, none, none, none, none, none, none, none, none, none, none, none, none, none, none, none, none, none, none, none, none, none, none, none, none, none, none, none, none, none, none, none, none, none, none, none, none, none, none, none, none, none, none, none, none, none, none, none, none, none, none, none, none, none, none, none, none, none, none, none, none, none, none, none, none, none, none, none, none, none, none, none, none, none, none, none, none, none, none, none, none, none, none, none, none, none, none, some (.field 11 0), none, none, none, some (.method ⟨11, 3⟩), some (.cls 1), none, none, none, none, none, none, some (.cls 11), none, none, none, none, none, none, some (.cls 11), none, none, none, none, none, none, some (.cls 11), none, none, none, none, none, none, some (.cls 11), none, none, none, none, none, none, some (.cls 11), none, none, none, none, none, none, some (.cls 11), none, none, none, none, none, none, some (.cls 11), none, none, none, none, none, none, some (.cls 11), none, none, none, none, none, none, some (.cls 11), none, none, none, none, none, none]
def zr_c11 : Class := { start1.c11 with resolved := ⟨zr_l11⟩ }
set_option maxRecDepth 16384 in
theorem zr_c11_eq : zr_c11 = start1.c11 := zr_with (zr_list_eq zr_res_eq _ _ (by decide +kernel : zr_list zr_res zr_l11 start1.c11.resolved.toList = true))
def zr_l12 : List (Option Resolved) := [none]
def zr_c12 : Class := { start1.c12 with resolved := ⟨zr_l12⟩ }
set_option maxRecDepth 16384 in
theorem zr_c12_eq : zr_c12 = start1.c12 := zr_with (zr_list_eq zr_res_eq _ _ (by decide +kernel : zr_list zr_res zr_l12 start1.c12.resolved.toList = true))
def zr_l13 : List (Option Resolved) := [none, none, none, none, none, none, none, some (.method ⟨11, 1⟩), some (.cls 11), none, none, none, none, none, none]
def zr_c13 : Class := { start1.c13 with resolved := ⟨zr_l13⟩ }
set_option maxRecDepth 16384 in
theorem zr_c13_eq : zr_c13 = start1.c13 := zr_with (zr_list_eq zr_res_eq _ _ (by decide +kernel : zr_list zr_res zr_l13 start1.c13.resolved.toList = true))
def zr_l14 : List (Option Resolved) := [none, none, none, none, none, none, none, some (.method ⟨13, 1⟩), some (.cls 13), none, none, none, none, none, none]
def zr_c14 : Class := { start1.c14 with resolved := ⟨zr_l14⟩ }
set_option maxRecDepth 16384 in
theorem zr_c14_eq : zr_c14 = start1.c14 := zr_with (zr_list_eq zr_res_eq _ _ (by decide +kernel : zr_list zr_res zr_l14 start1.c14.resolved.toList = true))
def zr_l15 : List (Option Resolved) := [none, none, none, none, none, none, none, some (.method ⟨14, 1⟩), some (.cls 14), none, none, none, none, none, none]
def zr_c15 : Class := { start1.c15 with resolved := ⟨zr_l15⟩ }
set_option maxRecDepth 16384 in
theorem zr_c15_eq : zr_c15 = start1.c15 := zr_with (zr_list_eq zr_res_eq _ _ (by decide +kernel : zr_list zr_res zr_l15 start1.c15.resolved.toList = true))
def zr_l16 : List (Option Resolved) := [none, none, none, none, none, none, none, some (.method ⟨14, 1⟩), some (.cls 14), none, none, none, none, none, none]
def zr_c16 : Class := { start1.c16 with resolved := ⟨zr_l16⟩ }
set_option maxRecDepth 16384 in
theorem zr_c16_eq : zr_c16 = start1.c16 := zr_with (zr_list_eq zr_res_eq _ _ (by decide +kernel : zr_list zr_res zr_l16 start1.c16.resolved.toList = true))
def zr_l17 : List (Option Resolved) := [none, none, none, none, none, none, none, some (.method ⟨14, 1⟩), some (.cls 14), none, none, none, none, none, none]
def zr_c17 : Class := { start1.c17 with resolved := ⟨zr_l17⟩ }
set_option maxRecDepth 16384 in
theorem zr_c17_eq : zr_c17 = start1.c17 := zr_with (zr_list_eq zr_res_eq _ _ (by decide +kernel : zr_list zr_res zr_l17 start1.c17.resolved.toList = true))
def zr_l18 : List (Option Resolved) := [none, none, none, none, none, none, none, none, none, none, none, none, none, some (.method ⟨14, 1⟩), some (.cls 14), none, none, none, none, none, none]
def zr_c18 : Class := { start1.c18 with resolved := ⟨zr_l18⟩ }
set_option maxRecDepth 16384 in
theorem zr_c18_eq : zr_c18 = start1.c18 := zr_with (zr_list_eq zr_res_eq _ _ (by decide +kernel : zr_list zr_res zr_l18 start1.c18.resolved.toList = true))
/-- the tables of the start, with what is resolved written out -/
def zr_V : Vm := { classes := #[zr_c0, Lib.HandBits.cObject, zr_c2, zr_c3, zr_c4, zr_c5, zr_c6, zr_c7, zr_c8, zr_c9, zr_c10, zr_c11, zr_c12, zr_c13, zr_c14, zr_c15, zr_c16, zr_c17, zr_c18, start1.cPrim "int" 'I', start1.cArr "[I" 19 .int, start1.cPrim "boolean" 'Z', start1.cArr "[Z" 21 .boolean, start1.cPrim "byte" 'B', start1.cArr "[B" 23 .byte] }
theorem zr_V_eq : zr_V = start1.about.vm := by
  unfold zr_V
  rw [zr_c0_eq, zr_c2_eq, zr_c3_eq, zr_c4_eq, zr_c5_eq, zr_c6_eq, zr_c7_eq, zr_c8_eq, zr_c9_eq, zr_c10_eq, zr_c11_eq, zr_c12_eq, zr_c13_eq, zr_c14_eq, zr_c15_eq, zr_c16_eq, zr_c17_eq, zr_c18_eq]
  rfl
end
section
/-- a state written out over another's outside -/
def zr_mk (w : State) (h : List Cell) (f : List Frame) (u : Nat) : State := { w with heap := ⟨start1.about.heap.toList ++ h⟩, vm := zr_V, threads := #[{ frames := f }], cur := 0, slotsUsed := u, status := .running }
def zr_run0 (s : State) : Bool := match s.status with | .running => true | _ => false
def zr_same (h : List Cell) (f : List Frame) (u : Nat) (s : State) : Bool := decide (s.cur = 0) && (decide (s.slotsUsed = u) && (zr_run0 s && ((match s.threads with
  | ⟨[t]⟩ => (match zr_fr t with | some fs => zr_list zr_frame fs f | none => false)
  | _ => false) && (zr_list zr_cell s.heap.toList (start1.about.heap.toList ++ h) && zr_vmeq zr_V s.vm))))
theorem zr_same_eq {h : List Cell} {f : List Frame} {u : Nat} {s : State} (hs : ∀ (i : Nat) (k : Class), zr_V.classes[i]? = some k → ∃ k', s.vm.classes[i]? = some k' ∧ k.Stays k') (hh : zr_same h f u s = true) : s = zr_mk s h f u := by
  simp only [zr_same, Bool.and_eq_true, decide_eq_true_eq] at hh
  obtain ⟨h1, h2, h3, h4, h5, h6⟩ := hh
  replace h3 : s.status = .running := by
    revert h3; unfold zr_run0; split <;> intro h3 <;> first | assumption | cases h3
  replace h5 : s.heap = ⟨start1.about.heap.toList ++ h⟩ := by
    have := zr_list_eq zr_cell_eq _ _ h5
    rw [← this]
  replace h6 := zr_vmeq_eq _ _ h6 hs
  replace h4 : s.threads = #[{ frames := f }] := by
    split at h4
    · rename_i t ht
      split at h4
      · rename_i fs hf
        rw [ht, zr_fr_eq hf, zr_list_eq zr_frame_eq _ _ h4]
      · cases h4
    · cases h4
  unfold zr_mk
  rw [← h2, ← h5, h6, ← h4]
  cases s
  simp only at h1 h3
  subst h1 h3
  rfl
/-- one stretch of the run -/
theorem zr_leg {tb : Tables} {e : Env} {w : State} {h h' : List Cell} {f f' : List Frame} {u u' n : Nat} (hr : zr_run tb e (zr_same h' f' u') n (zr_mk w h f u) = true) : ∃ w', stepsAlone tb e n (zr_mk w h f u) = zr_mk w' h' f' u' ∧ ∀ j, j < n → zr_two (stepsAlone tb e j (zr_mk w h f u)).frames = true := by
  obtain ⟨a, b⟩ := zr_run_ok n _ hr
  exact ⟨_, zr_same_eq (fun i k hk => zr_stays tb e n (zr_mk w h f u) i k hk) b, a⟩
/-- the first stretch: from the witness' start itself -/
theorem zr_leg0 {tb : Tables} {e : Env} {h' : List Cell} {f' : List Frame} {u' n : Nat} (hr : zr_run tb e (zr_same h' f' u') n start1.about = true) : ∃ w', stepsAlone tb e n start1.about = zr_mk w' h' f' u' ∧ ∀ j, j < n → zr_two (stepsAlone tb e j start1.about).frames = true := by
  obtain ⟨a, b⟩ := zr_run_ok n _ hr
  exact ⟨_, zr_same_eq (fun i k hk => zr_stays tb e n start1.about i k (by rw [← zr_V_eq]; exact hk)) b, a⟩
end
section
def zr_h2 : List Cell := [{ cls := 2, slots := #[.null, .null, .null, .null, .null], vm := .none },
  { cls := 3, slots := #[.ref 32, .ref 33, .ref 34, .ref 35, .ref 36, .int 0], vm := .none },
  { cls := 20, slots := #[.int 0, .int 0, .int 0, .int 0], vm := .none },
  { cls := 20, slots := #[.int (-1), .int (-1), .int (-1), .int (-1), .int (-1), .int (-1), .int (-1), .int (-1), .int (-1), .int (-1), .int (-1), .int (-1), .int (-1), .int (-1), .int (-1), .int (-1), .int (-1), .int (-1), .int (-1), .int (-1), .int (-1), .int (-1), .int (-1), .int (-1), .int (-1), .int (-1), .int (-1), .int (-1), .int (-1), .int (-1), .int (-1), .int (-1)], vm := .none },
  { cls := 22, slots := #[.int 0, .int 0, .int 0, .int 0, .int 0, .int 0, .int 0, .int 0, .int 0, .int 0, .int 0, .int 0, .int 0, .int 0, .int 0, .int 0, .int 0, .int 0, .int 0, .int 0, .int 0, .int 0, .int 0, .int 0, .int 0, .int 0, .int 0, .int 0, .int 0, .int 0, .int 0, .int 0], vm := .none },
  { cls := 20, slots := #[.int 0, .int 0, .int 0, .int 0, .int 0, .int 0, .int 0, .int 0, .int 0, .int 0, .int 0, .int 0, .int 0, .int 0, .int 0, .int 0, .int 0, .int 0, .int 0, .int 0, .int 0, .int 0, .int 0, .int 0, .int 0, .int 0, .int 0, .int 0, .int 0, .int 0, .int 0, .int 0], vm := .none },
  { cls := 20, slots := #[.int (-1), .int (-1), .int (-1), .int (-1), .int (-1), .int (-1), .int (-1), .int (-1), .int (-1), .int (-1), .int (-1), .int (-1), .int (-1), .int (-1), .int (-1), .int (-1), .int (-1), .int (-1), .int (-1), .int (-1), .int (-1), .int (-1), .int (-1), .int (-1), .int (-1), .int (-1), .int (-1), .int (-1), .int (-1), .int (-1), .int (-1), .int (-1), .int (-1), .int (-1), .int (-1), .int (-1), .int (-1), .int (-1), .int (-1), .int (-1), .int (-1), .int (-1), .int (-1), .int (-1), .int (-1), .int (-1), .int (-1), .int (-1), .int (-1), .int (-1), .int (-1), .int (-1), .int (-1), .int (-1), .int (-1), .int (-1), .int (-1), .int (-1), .int (-1), .int (-1), .int (-1), .int (-1), .int (-1), .int (-1), .int (-1), .int (-1), .int (-1), .int (-1), .int (-1), .int (-1), .int (-1), .int (-1), .int (-1), .int 0, .int 0, .int 0, .int 0, .int 0, .int 0, .int 0, .int 0, .int 0, .int 0, .int 0, .int 0, .int 0, .int 0, .int 0, .int 0, .int 0, .int 0, .int 0, .int 0, .int 0, .int 0, .int 0, .int 0, .int 0, .int 0, .int 0, .int 0, .int 0, .int 0, .int 0, .int 0, .int 0, .int 0, .int 0, .int 0, .int 0, .int 0, .int 0, .int 0, .int 0, .int 0, .int 0, .int 0, .int 0, .int 0, .int 0, .int 0, .int 0, .int 0, .int 0, .int 0, .int 0, .int 0, .int 0, .int 0, .int 0, .int 0, .int 0, .int 0, .int 0, .int 0, .int 0, .int 0, .int 0, .int 0, .int 0, .int 0, .int 0, .int 0, .int 0, .int 0, .int 0, .int 0, .int 0, .int 0, .int 0, .int 0, .int 0, .int 0, .int 0, .int 0, .int 0, .int 0, .int 0, .int 0, .int 0, .int 0, .int 0, .int 0, .int 0, .int 0, .int 0, .int 0, .int 0, .int 0, .int 0, .int 0, .int 0, .int 0, .int 0, .int 0, .int 0, .int 0, .int 0, .int 0, .int 0, .int 0, .int 0, .int 0, .int 0, .int 0, .int 0, .int 0, .int 0, .int 0, .int 0, .int 0, .int 0, .int 0, .int 0, .int 0, .int 0, .int 0, .int 0, .int 0, .int 0, .int 0, .int 0, .int 0, .int 0, .int 0, .int 0, .int 0, .int 0, .int 0, .int 0, .int 0, .int 0, .int 0, .int 0, .int 0, .int 0, .int 0, .int 0, .int 0, .int 0, .int 0, .int 0, .int 0, .int 0, .int 0, .int 0, .int 0, .int 0, .int 0, .int 0, .int 0, .int 0, .int 0, .int 0, .int 0, .int 0, .int 0, .int 0, .int 0, .int 0, .int 0, .int 0, .int 0, .int 0, .int 0, .int 0, .int 0, .int 0, .int 0, .int 0, .int 0, .int 0, .int 0, .int 0, .int 0, .int 0, .int 0, .int 0, .int 0, .int 0, .int 0, .int 0, .int 0, .int 0, .int 0, .int 0, .int 0, .int 0, .int 0, .int 0, .int 0, .int 0, .int 0, .int 0, .int 0, .int 0, .int 0, .int 0, .int 0, .int 0, .int 0, .int 0, .int 0, .int 0, .int 0, .int 0, .int 0, .int 0, .int 0, .int 0, .int 0, .int 0, .int 0, .int 0, .int 0, .int 0, .int 0, .int 0, .int 0, .int 0, .int 0, .int 0, .int 0, .int 0, .int 0, .int 0, .int 0, .int 0, .int 0, .int 0, .int 0, .int 0, .int 0, .int 0, .int 0, .int 0, .int 0, .int 0, .int 0, .int 0, .int 0, .int 0, .int 0, .int 0, .int 0, .int 0, .int 0, .int 0, .int 0, .int 0, .int 0, .int 0, .int 0, .int 0, .int 0, .int 0, .int 0, .int 0, .int 0, .int 0, .int 0, .int 0, .int 0, .int 0, .int 0, .int 0, .int 0, .int 0, .int 0, .int 0, .int 0, .int 0, .int 0, .int 0, .int 0, .int 0, .int 0, .int 0, .int 0, .int 0, .int 0, .int 0, .int 0, .int 0, .int 0, .int 0, .int 0, .int 0, .int 0, .int 0, .int 0, .int 0, .int 0, .int 0, .int 0, .int 0, .int 0, .int 0, .int 0, .int 0, .int 0, .int 0, .int 0, .int 0, .int 0, .int 0, .int 0, .int 0, .int 0, .int 0, .int 0, .int 0, .int 0, .int 0, .int 0, .int 0, .int 0, .int 0, .int 0, .int 0, .int 0, .int 0, .int 0, .int 0, .int 0, .int 0, .int 0, .int 0, .int 0, .int 0, .int 0, .int 0, .int 0, .int 0, .int 0, .int 0, .int 0, .int 0, .int 0, .int 0, .int 0, .int 0, .int 0, .int 0, .int 0, .int 0, .int 0, .int 0, .int 0, .int 0, .int 0, .int 0, .int 0, .int 0, .int 0, .int 0, .int 0, .int 0, .int 0, .int 0, .int 0, .int 0, .int 0, .int 0, .int 0, .int 0, .int 0, .int 0, .int 0, .int 0, .int 0, .int 0, .int 0, .int 0, .int 0, .int 0, .int 0, .int 0, .int 0, .int 0, .int 0, .int 0, .int 0, .int 0, .int 0, .int 0, .int 0, .int 0, .int 0, .int 0, .int 0, .int 0, .int 0, .int 0, .int 0, .int 0, .int 0, .int 0, .int 0, .int 0, .int 0, .int 0, .int 0, .int 0, .int 0, .int 0, .int 0, .int 0, .int 0, .int 0, .int 0, .int 0, .int 0, .int 0, .int 0, .int 0, .int 0, .int 0, .int 0, .int 0, .int 0, .int 0, .int 0, .int 0, .int 0, .int 0, .int 0, .int 0, .int 0, .int 0, .int 0, .int 0, .int 0, .int 0, .int 0, .int 0, .int 0, .int 0, .int 0, .int 0, .int 0, .int 0, .int 0, .int 0, .int 0, .int 0, .int 0, .int 0, .int 0, .int 0, .int 0, .int 0, .int 0, .int 0, .int 0, .int 0, .int 0, .int 0, .int 0, .int 0, .int 0, .int 0, .int 0, .int 0, .int 0, .int 0, .int 0, .int 0, .int 0, .int 0, .int 0, .int 0, .int 0, .int 0, .int 0, .int 0, .int 0, .int 0, .int 0, .int 0, .int 0, .int 0, .int 0, .int 0, .int 0, .int 0, .int 0, .int 0, .int 0, .int 0, .int 0, .int 0, .int 0, .int 0, .int 0, .int 0, .int 0, .int 0, .int 0, .int 0, .int 0, .int 0, .int 0, .int 0, .int 0, .int 0, .int 0, .int 0, .int 0, .int 0, .int 0, .int 0, .int 0, .int 0, .int 0, .int 0, .int 0, .int 0, .int 0, .int 0, .int 0, .int 0, .int 0, .int 0, .int 0, .int 0, .int 0, .int 0, .int 0, .int 0, .int 0, .int 0, .int 0, .int 0, .int 0, .int 0, .int 0, .int 0, .int 0, .int 0, .int 0, .int 0, .int 0, .int 0, .int 0, .int 0, .int 0, .int 0, .int 0, .int 0, .int 0, .int 0, .int 0, .int 0, .int 0, .int 0, .int 0, .int 0, .int 0, .int 0], vm := .none }]
def zr_f2 : List Frame := [.java { method := ⟨4, 0⟩, pc := 5, locals := #[.val (.ref 36), .val (.int (-1)), .val (.int 73), .val (.int 640)], stack := [], locked := none },
  .java { method := ⟨3, 0⟩, pc := 57, locals := #[.val (.ref 31)], stack := [], locked := none },
  .java { method := ⟨2, 0⟩, pc := 8, locals := #[.val (.ref 30), .unset, .unset, .unset], stack := [.ref 31], locked := none },
  .java { method := ⟨0, 0⟩, pc := 4, locals := #[.val (.ref 0), .unset, .unset, .unset, .unset, .unset, .unset, .unset, .unset, .unset, .unset, .unset, .unset, .unset], stack := [.ref 30], locked := none },
  .native { method := ⟨0, 0⟩, args := #[] }]
def zr_u2 : Nat := 1296
def zr_h3 : List Cell := [{ cls := 2, slots := #[.null, .null, .null, .null, .null], vm := .none },
  { cls := 3, slots := #[.ref 32, .ref 33, .ref 34, .ref 35, .ref 36, .int 0], vm := .none },
  { cls := 20, slots := #[.int 0, .int 0, .int 0, .int 0], vm := .none },
  { cls := 20, slots := #[.int (-1), .int (-1), .int (-1), .int (-1), .int (-1), .int (-1), .int (-1), .int (-1), .int (-1), .int (-1), .int (-1), .int (-1), .int (-1), .int (-1), .int (-1), .int (-1), .int (-1), .int (-1), .int (-1), .int (-1), .int (-1), .int (-1), .int (-1), .int (-1), .int (-1), .int (-1), .int (-1), .int (-1), .int (-1), .int (-1), .int (-1), .int (-1)], vm := .none },
  { cls := 22, slots := #[.int 0, .int 0, .int 0, .int 0, .int 0, .int 0, .int 0, .int 0, .int 0, .int 0, .int 0, .int 0, .int 0, .int 0, .int 0, .int 0, .int 0, .int 0, .int 0, .int 0, .int 0, .int 0, .int 0, .int 0, .int 0, .int 0, .int 0, .int 0, .int 0, .int 0, .int 0, .int 0], vm := .none },
  { cls := 20, slots := #[.int 0, .int 0, .int 0, .int 0, .int 0, .int 0, .int 0, .int 0, .int 0, .int 0, .int 0, .int 0, .int 0, .int 0, .int 0, .int 0, .int 0, .int 0, .int 0, .int 0, .int 0, .int 0, .int 0, .int 0, .int 0, .int 0, .int 0, .int 0, .int 0, .int 0, .int 0, .int 0], vm := .none },
  { cls := 20, slots := #[.int (-1), .int (-1), .int (-1), .int (-1), .int (-1), .int (-1), .int (-1), .int (-1), .int (-1), .int (-1), .int (-1), .int (-1), .int (-1), .int (-1), .int (-1), .int (-1), .int (-1), .int (-1), .int (-1), .int (-1), .int (-1), .int (-1), .int (-1), .int (-1), .int (-1), .int (-1), .int (-1), .int (-1), .int (-1), .int (-1), .int (-1), .int (-1), .int (-1), .int (-1), .int (-1), .int (-1), .int (-1), .int (-1), .int (-1), .int (-1), .int (-1), .int (-1), .int (-1), .int (-1), .int (-1), .int (-1), .int (-1), .int (-1), .int (-1), .int (-1), .int (-1), .int (-1), .int (-1), .int (-1), .int (-1), .int (-1), .int (-1), .int (-1), .int (-1), .int (-1), .int (-1), .int (-1), .int (-1), .int (-1), .int (-1), .int (-1), .int (-1), .int (-1), .int (-1), .int (-1), .int (-1), .int (-1), .int (-1), .int (-1), .int (-1), .int (-1), .int (-1), .int (-1), .int (-1), .int (-1), .int (-1), .int (-1), .int (-1), .int (-1), .int (-1), .int (-1), .int (-1), .int (-1), .int (-1), .int (-1), .int (-1), .int (-1), .int (-1), .int (-1), .int (-1), .int (-1), .int (-1), .int (-1), .int (-1), .int (-1), .int (-1), .int (-1), .int (-1), .int (-1), .int (-1), .int (-1), .int (-1), .int (-1), .int (-1), .int (-1), .int (-1), .int (-1), .int (-1), .int (-1), .int (-1), .int (-1), .int (-1), .int (-1), .int (-1), .int (-1), .int (-1), .int (-1), .int (-1), .int (-1), .int (-1), .int (-1), .int (-1), .int (-1), .int (-1), .int (-1), .int (-1), .int (-1), .int (-1), .int (-1), .int (-1), .int (-1), .int (-1), .int (-1), .int (-1), .int (-1), .int (-1), .int (-1), .int (-1), .int (-1), .int (-1), .int (-1), .int (-1), .int (-1), .int (-1), .int (-1), .int (-1), .int (-1), .int (-1), .int (-1), .int (-1), .int (-1), .int (-1), .int (-1), .int (-1), .int (-1), .int (-1), .int (-1), .int (-1), .int (-1), .int (-1), .int (-1), .int (-1), .int (-1), .int (-1), .int (-1), .int (-1), .int (-1), .int (-1), .int (-1), .int (-1), .int (-1), .int (-1), .int (-1), .int (-1), .int (-1), .int (-1), .int (-1), .int (-1), .int (-1), .int (-1), .int (-1), .int (-1), .int (-1), .int (-1), .int (-1), .int (-1), .int (-1), .int (-1), .int (-1), .int (-1), .int (-1), .int (-1), .int (-1), .int (-1), .int (-1), .int (-1), .int (-1), .int (-1), .int (-1), .int (-1), .int (-1), .int (-1), .int (-1), .int (-1), .int (-1), .int (-1), .int (-1), .int (-1), .int (-1), .int (-1), .int (-1), .int (-1), .int (-1), .int (-1), .int (-1), .int (-1), .int (-1), .int (-1), .int (-1), .int (-1), .int (-1), .int (-1), .int (-1), .int (-1), .int (-1), .int (-1), .int (-1), .int (-1), .int (-1), .int (-1), .int (-1), .int (-1), .int (-1), .int (-1), .int 0, .int 0, .int 0, .int 0, .int 0, .int 0, .int 0, .int 0, .int 0, .int 0, .int 0, .int 0, .int 0, .int 0, .int 0, .int 0, .int 0, .int 0, .int 0, .int 0, .int 0, .int 0, .int 0, .int 0, .int 0, .int 0, .int 0, .int 0, .int 0, .int 0, .int 0, .int 0, .int 0, .int 0, .int 0, .int 0, .int 0, .int 0, .int 0, .int 0, .int 0, .int 0, .int 0, .int 0, .int 0, .int 0, .int 0, .int 0, .int 0, .int 0, .int 0, .int 0, .int 0, .int 0, .int 0, .int 0, .int 0, .int 0, .int 0, .int 0, .int 0, .int 0, .int 0, .int 0, .int 0, .int 0, .int 0, .int 0, .int 0, .int 0, .int 0, .int 0, .int 0, .int 0, .int 0, .int 0, .int 0, .int 0, .int 0, .int 0, .int 0, .int 0, .int 0, .int 0, .int 0, .int 0, .int 0, .int 0, .int 0, .int 0, .int 0, .int 0, .int 0, .int 0, .int 0, .int 0, .int 0, .int 0, .int 0, .int 0, .int 0, .int 0, .int 0, .int 0, .int 0, .int 0, .int 0, .int 0, .int 0, .int 0, .int 0, .int 0, .int 0, .int 0, .int 0, .int 0, .int 0, .int 0, .int 0, .int 0, .int 0, .int 0, .int 0, .int 0, .int 0, .int 0, .int 0, .int 0, .int 0, .int 0, .int 0, .int 0, .int 0, .int 0, .int 0, .int 0, .int 0, .int 0, .int 0, .int 0, .int 0, .int 0, .int 0, .int 0, .int 0, .int 0, .int 0, .int 0, .int 0, .int 0, .int 0, .int 0, .int 0, .int 0, .int 0, .int 0, .int 0, .int 0, .int 0, .int 0, .int 0, .int 0, .int 0, .int 0, .int 0, .int 0, .int 0, .int 0, .int 0, .int 0, .int 0, .int 0, .int 0, .int 0, .int 0, .int 0, .int 0, .int 0, .int 0, .int 0, .int 0, .int 0, .int 0, .int 0, .int 0, .int 0, .int 0, .int 0, .int 0, .int 0, .int 0, .int 0, .int 0, .int 0, .int 0, .int 0, .int 0, .int 0, .int 0, .int 0, .int 0, .int 0, .int 0, .int 0, .int 0, .int 0, .int 0, .int 0, .int 0, .int 0, .int 0, .int 0, .int 0, .int 0, .int 0, .int 0, .int 0, .int 0, .int 0, .int 0, .int 0, .int 0, .int 0, .int 0, .int 0, .int 0, .int 0, .int 0, .int 0, .int 0, .int 0, .int 0, .int 0, .int 0, .int 0, .int 0, .int 0, .int 0, .int 0, .int 0, .int 0, .int 0, .int 0, .int 0, .int 0, .int 0, .int 0, .int 0, .int 0, .int 0, .int 0, .int 0, .int 0, .int 0, .int 0, .int 0, .int 0, .int 0, .int 0, .int 0, .int 0, .int 0, .int 0, .int 0, .int 0, .int 0, .int 0, .int 0, .int 0, .int 0, .int 0, .int 0, .int 0, .int 0, .int 0, .int 0, .int 0, .int 0, .int 0, .int 0, .int 0, .int 0, .int 0, .int 0, .int 0, .int 0, .int 0, .int 0, .int 0, .int 0, .int 0, .int 0, .int 0, .int 0, .int 0, .int 0, .int 0, .int 0, .int 0, .int 0, .int 0, .int 0, .int 0, .int 0, .int 0, .int 0, .int 0, .int 0, .int 0, .int 0, .int 0, .int 0, .int 0, .int 0, .int 0, .int 0, .int 0, .int 0, .int 0, .int 0, .int 0, .int 0, .int 0, .int 0, .int 0, .int 0, .int 0, .int 0, .int 0, .int 0, .int 0, .int 0, .int 0, .int 0, .int 0, .int 0, .int 0, .int 0, .int 0, .int 0, .int 0, .int 0, .int 0, .int 0, .int 0, .int 0, .int 0, .int 0, .int 0, .int 0, .int 0, .int 0, .int 0, .int 0, .int 0, .int 0, .int 0, .int 0, .int 0, .int 0, .int 0, .int 0, .int 0, .int 0, .int 0, .int 0, .int 0, .int 0, .int 0, .int 0, .int 0, .int 0, .int 0, .int 0, .int 0, .int 0, .int 0, .int 0, .int 0, .int 0, .int 0, .int 0, .int 0, .int 0, .int 0, .int 0, .int 0, .int 0, .int 0, .int 0, .int 0, .int 0, .int 0, .int 0, .int 0, .int 0, .int 0, .int 0, .int 0, .int 0, .int 0], vm := .none }]
def zr_f3 : List Frame := [.java { method := ⟨4, 0⟩, pc := 13, locals := #[.val (.ref 36), .val (.int (-1)), .val (.int 239), .val (.int 640)], stack := [.int (-1), .int 239, .ref 36], locked := none },
  .java { method := ⟨3, 0⟩, pc := 57, locals := #[.val (.ref 31)], stack := [], locked := none },
  .java { method := ⟨2, 0⟩, pc := 8, locals := #[.val (.ref 30), .unset, .unset, .unset], stack := [.ref 31], locked := none },
  .java { method := ⟨0, 0⟩, pc := 4, locals := #[.val (.ref 0), .unset, .unset, .unset, .unset, .unset, .unset, .unset, .unset, .unset, .unset, .unset, .unset, .unset], stack := [.ref 30], locked := none },
  .native { method := ⟨0, 0⟩, args := #[] }]
def zr_u3 : Nat := 1296
set_option maxRecDepth 16384 in
theorem zr_x1 : zr_run start1.p0.tables start1.e0 (zr_same zr_h3 zr_f3 zr_u3) 1500 (zr_mk start1.about zr_h2 zr_f2 zr_u2) = true := by decide +kernel
end
section
theorem i_vc : Claimed_1_1 ∧ Claimed_1_2 := sorry
end
