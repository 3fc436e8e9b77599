section
/-! THE RUN BY THE KERNEL: the law's own run from the witness' start, step by step, as long as it has not ended -/
def zr_two : List Frame → Bool
  | _ :: _ :: _ => true
  | _ => false
def zr_nat {β : Type} (n : Nat) (f : Nat → β) : β := match n with
  | 0 => f 0
  | k + 1 => f (k + 1)
theorem zr_nat_eq {β : Type} (n : Nat) (f : Nat → β) : zr_nat n f = f n := by cases n <;> rfl
def zr_vm {β : Type} (vm : Vm) (f : Vm → β) : β := match vm with
  | v@(.mk ..) => f v
theorem zr_vm_eq {β : Type} (vm : Vm) (f : Vm → β) : zr_vm vm f = f vm := by cases vm; rfl
def zr_mid {β : Type} (m : MethodId) (f : MethodId → β) : β := match m with
  | ⟨c, i⟩ => zr_nat c fun c => zr_nat i fun i => f ⟨c, i⟩
theorem zr_mid_eq {β : Type} (m : MethodId) (f : MethodId → β) : zr_mid m f = f m := by
  cases m; simp only [zr_mid, zr_nat_eq]
/-- a frame's places written out -/
def zr_i32 {β : Type} (v : Int32) (k : Int32 → β) : β := zr_nat v.toBitVec.toNat fun n => k (Int32.ofBitVec (BitVec.ofNat 32 n))
theorem zr_i32_eq {β : Type} (v : Int32) (k : Int32 → β) : zr_i32 v k = k v := by
  rw [zr_i32, zr_nat_eq, show Int32.ofBitVec (BitVec.ofNat 32 v.toBitVec.toNat) = v from Int32.toBitVec_inj.mp (BitVec.eq_of_toNat_eq (by
    show (BitVec.ofNat 32 v.toBitVec.toNat).toNat = v.toBitVec.toNat
    rw [BitVec.toNat_ofNat]
    exact Nat.mod_eq_of_lt v.toBitVec.isLt))]
def zr_put {β : Type} (v : Value) (k : Value → β) : β := match v with
  | .int v => zr_i32 v fun v => k (.int v)
  | .ref a => zr_nat a fun a => k (.ref a)
  | v => k v
theorem zr_put_eq {β : Type} (v : Value) (k : Value → β) : zr_put v k = k v := by
  unfold zr_put; split <;> simp only [zr_i32_eq, zr_nat_eq]
def zr_puts {β : Type} (v : Slot) (k : Slot → β) : β := match v with
  | .val v => zr_put v fun v => k (.val v)
  | .unset => k .unset
  | .second => k .second
theorem zr_puts_eq {β : Type} (v : Slot) (k : Slot → β) : zr_puts v k = k v := by
  unfold zr_puts; split <;> simp only [zr_put_eq]
def zr_all {α β : Type} (g : α → (α → β) → β) : List α → (List α → β) → β
  | [], k => k []
  | a :: l, k => g a fun a => zr_all g l fun l => k (a :: l)
theorem zr_all_eq {α β : Type} {g : α → (α → β) → β} (h : ∀ a k, g a k = k a) : ∀ (l : List α) (k : List α → β), zr_all g l k = k l
  | [], _ => rfl
  | a :: l, k => by rw [zr_all, h, zr_all_eq h l]
/-- the instruction at a place of a method, out of the tables -/
def zr_ins (v : Vm) (m : MethodId) (pc : Nat) : Option (Instr × Nat) := match (v.method? m).bind (·.code) with
  | some c => match decode c.code pc with
    | .ok x => some x
    | .error _ => none
  | none => none
/-- one step, the instruction known -/
def zr_step (tb : Tables) (e : Env) (q : Option (Instr × Nat)) (f : JFrame) (s : State) : State := match q with
  | some (i, len) => match overridden tb e s f with
    | some _ => (stepThread tb e s).1
    | none => (afterInstr e len ((tb.exec i).run e s)).1
  | none => (stepThread tb e s).1
theorem zr_step_eq (tb : Tables) (e : Env) {f : JFrame} {r : List Frame} {s : State} (hf : s.frames = .java f :: r) : zr_step tb e (zr_ins s.vm f.method f.pc) f s = (stepThread tb e s).1 := by
  unfold zr_step
  split
  · rename_i i len hq
    split
    · rfl
    · rename_i ho
      unfold zr_ins at hq
      split at hq
      · rename_i c hc
        split at hq
        · rename_i x hd
          injection hq with hq
          subst hq
          have hc : s.code? f.method = some c := by rw [State.code?_eq]; exact hc
          unfold stepThread
          simp only [hf, ho, hc, hd, Option.map_some]
        · cases hq
      · cases hq
  · rfl
def zr_go (s : State) : Bool := match s.status, s.curStatus? with
  | .running, some .runnable => s.alone
  | _, _ => false
theorem zr_go_step {tb : Tables} {e : Env} {s : State} (h : zr_go s = true) (n : Nat) : stepsAlone tb e (n + 1) s = stepsAlone tb e n (stepThread tb e s).1 := by
  unfold zr_go at h
  rw [stepsAlone]
  split at h
  · rename_i h1 h2; rw [h1, h2, h]
  · cases h
/-- n steps, the run under way before each; then a look at the state -/
def zr_run (tb : Tables) (e : Env) (k : State → Bool) : Nat → State → Bool
  | 0, s => k s
  | n + 1, s => match s with
    | ⟨⟨hp⟩, vv, ⟨[⟨.java ⟨m, pc, ⟨lo⟩, st, lk, en, mr⟩ :: b :: rest, .runnable, ob, false, pm, wk, mo, sc, sb⟩]⟩, 0, ww, dd, nw, us, .running⟩ =>
      zr_vm vv fun vv => zr_nat us fun us => zr_mid m fun m => zr_nat pc fun pc => zr_all zr_puts lo fun lo => zr_all zr_put st fun st =>
        zr_run tb e k n (zr_step tb e (zr_ins vv m pc) ⟨m, pc, ⟨lo⟩, st, lk, en, mr⟩ ⟨⟨hp⟩, vv, ⟨[⟨.java ⟨m, pc, ⟨lo⟩, st, lk, en, mr⟩ :: b :: rest, .runnable, ob, false, pm, wk, mo, sc, sb⟩]⟩, 0, ww, dd, nw, us, .running⟩)
    | s => match zr_two s.frames with
      | false => false
      | true => match zr_go s with
        | true => zr_run tb e k n (stepThread tb e s).1
        | false => false
theorem zr_run_ok {tb : Tables} {e : Env} {k : State → Bool} : ∀ (n : Nat) (s : State), zr_run tb e k n s = true → (∀ j, j < n → zr_two (stepsAlone tb e j s).frames = true) ∧ k (stepsAlone tb e n s) = true
  | 0, s, h => ⟨fun j hj => absurd hj (Nat.not_lt_zero j), h⟩
  | n + 1, s, h => by
    have key : zr_two s.frames = true ∧ zr_go s = true ∧ zr_run tb e k n (stepThread tb e s).1 = true := by
      unfold zr_run at h
      split at h
      · rename_i hp vv m pc lo st lk en mr b rest ob pm wk mo sc sb ww dd nw us
        simp only [zr_vm_eq, zr_nat_eq, zr_mid_eq, zr_all_eq zr_puts_eq, zr_all_eq zr_put_eq] at h
        rw [show zr_step tb e (zr_ins vv m pc) ⟨m, pc, ⟨lo⟩, st, lk, en, mr⟩ ⟨⟨hp⟩, vv, ⟨[⟨.java ⟨m, pc, ⟨lo⟩, st, lk, en, mr⟩ :: b :: rest, .runnable, ob, false, pm, wk, mo, sc, sb⟩]⟩, 0, ww, dd, nw, us, .running⟩ = _ from zr_step_eq tb e (f := ⟨m, pc, ⟨lo⟩, st, lk, en, mr⟩) (r := b :: rest) (s := ⟨⟨hp⟩, vv, ⟨[⟨.java ⟨m, pc, ⟨lo⟩, st, lk, en, mr⟩ :: b :: rest, .runnable, ob, false, pm, wk, mo, sc, sb⟩]⟩, 0, ww, dd, nw, us, .running⟩) rfl] at h
        exact ⟨rfl, rfl, h⟩
      · split at h
        · cases h
        · rename_i h2
          split at h
          · rename_i hg; exact ⟨h2, hg, h⟩
          · cases h
    obtain ⟨h2, hg, h⟩ := key
    obtain ⟨a, b⟩ := zr_run_ok n _ h
    refine ⟨fun j hj => ?_, by rw [zr_go_step hg]; exact b⟩
    cases j with
    | zero => exact h2
    | succ j => rw [zr_go_step hg]; exact a j (by omega)
end
section
/-! TWO STATES ARE ONE: what is compared by running, and what stays of a class by the library's own law -/
def zr_list {α : Type} (eq : α → α → Bool) : List α → List α → Bool
  | [], [] => true
  | a :: l, b :: r => match eq a b with
    | true => zr_list eq l r
    | false => false
  | _, _ => false
theorem zr_list_eq {α : Type} {eq : α → α → Bool} (h : ∀ a b, eq a b = true → a = b) : ∀ l r, zr_list eq l r = true → l = r
  | [], [], _ => rfl
  | [], _ :: _, h1 => by simp [zr_list] at h1
  | _ :: _, [], h1 => by simp [zr_list] at h1
  | a :: l, b :: r, h1 => by
    unfold zr_list at h1
    split at h1
    · rename_i h2; rw [h a b h2, zr_list_eq h l r h1]
    · cases h1
def zr_val : Value → Value → Bool
  | .int a, .int b => Nat.beq a.toBitVec.toNat b.toBitVec.toNat
  | .ref a, .ref b => Nat.beq a b
  | .null, .null => true
  | .long a, .long b => Nat.beq a.toBitVec.toNat b.toBitVec.toNat
  | _, _ => false
theorem zr_val_eq (a b : Value) (h : zr_val a b = true) : a = b := by
  unfold zr_val at h
  split at h
  · rename_i x y
    rw [show x = y from Int32.toBitVec_inj.mp (BitVec.eq_of_toNat_eq (Nat.eq_of_beq_eq_true h))]
  · rw [Nat.eq_of_beq_eq_true h]
  · rfl
  · rename_i x y
    rw [show x = y from Int64.toBitVec_inj.mp (BitVec.eq_of_toNat_eq (Nat.eq_of_beq_eq_true h))]
  · cases h
def zr_cell (a b : Cell) : Bool := decide (a.cls = b.cls) && (zr_list zr_val a.slots.toList b.slots.toList && (decide (a.monitor = b.monitor) && (decide (a.hash = b.hash) && decide (a.vm = b.vm))))
theorem zr_cell_eq (a b : Cell) (h : zr_cell a b = true) : a = b := by
  simp only [zr_cell, Bool.and_eq_true, decide_eq_true_eq] at h
  obtain ⟨h1, h2, h3, h4, h5⟩ := h
  replace h2 : a.slots = b.slots := Array.toList_inj.mp (zr_list_eq zr_val_eq _ _ h2)
  cases a; cases b
  simp only at h1 h2 h3 h4 h5
  subst h1 h2 h3 h4 h5
  rfl
def zr_slot (a b : Slot) : Bool := decide (a = b)
def zr_java (a b : JFrame) : Bool := decide (a.method = b.method) && (decide (a.pc = b.pc) && (zr_list zr_slot a.locals.toList b.locals.toList && (zr_list zr_val a.stack b.stack && (decide (a.locked = b.locked) && (decide (a.entered = b.entered) && decide (a.monitorRoom = b.monitorRoom))))))
theorem zr_java_eq (a b : JFrame) (h : zr_java a b = true) : a = b := by
  simp only [zr_java, Bool.and_eq_true, decide_eq_true_eq] at h
  obtain ⟨h1, h2, h3, h4, h5, h6, h7⟩ := h
  replace h3 : a.locals = b.locals := Array.toList_inj.mp (zr_list_eq (fun x y h => of_decide_eq_true h) _ _ h3)
  replace h4 : a.stack = b.stack := zr_list_eq zr_val_eq _ _ h4
  cases a; cases b
  simp only at h1 h2 h3 h4 h5 h6 h7
  subst h1 h2 h3 h4 h5 h6 h7
  rfl
def zr_bot : Frame → Bool
  | .native ⟨⟨0, 0⟩, ⟨[]⟩, 0, ⟨[]⟩, false, none, none, 0⟩ => true
  | _ => false
theorem zr_bot_eq {f : Frame} (h : zr_bot f = true) : f = .native { method := ⟨0, 0⟩, args := #[] } := by
  revert h; unfold zr_bot; split <;> intro h <;> first | rfl | cases h
def zr_frame (a b : Frame) : Bool := match a, b with
  | .java f, .java g => zr_java f g
  | .native f, .native g => zr_bot (.native f) && zr_bot (.native g)
  | _, _ => false
theorem zr_frame_eq (a b : Frame) (h : zr_frame a b = true) : a = b := by
  unfold zr_frame at h
  split at h
  · rw [zr_java_eq _ _ h]
  · rw [Bool.and_eq_true] at h
    rw [zr_bot_eq h.1, zr_bot_eq h.2]
  · cases h
def zr_fr : Thread → Option (List Frame)
  | ⟨fs, .runnable, none, false, false, .other, none, .null, 0⟩ => some fs
  | _ => none
theorem zr_fr_eq {t : Thread} {fs : List Frame} (h : zr_fr t = some fs) : t = { frames := fs } := by
  revert h; unfold zr_fr; split <;> intro h <;> first | (cases h; done) | (injection h with h; subst h; rfl)
def zr_res : Option Resolved → Option Resolved → Bool
  | none, none => true
  | some (.cls a), some (.cls b) => Nat.beq a b
  | some (.field a i), some (.field b j) => Nat.beq a b && Nat.beq i j
  | some (.method ⟨a, i⟩), some (.method ⟨b, j⟩) => Nat.beq a b && Nat.beq i j
  | some (.string a), some (.string b) => Nat.beq a b
  | _, _ => false
theorem zr_res_eq (a b : Option Resolved) (h : zr_res a b = true) : a = b := by
  unfold zr_res at h
  split at h
  · rfl
  · rw [Nat.eq_of_beq_eq_true h]
  · rw [Bool.and_eq_true] at h
    rw [Nat.eq_of_beq_eq_true h.1, Nat.eq_of_beq_eq_true h.2]
  · rw [Bool.and_eq_true] at h
    rw [Nat.eq_of_beq_eq_true h.1, Nat.eq_of_beq_eq_true h.2]
  · rw [Nat.eq_of_beq_eq_true h]
  · cases h
def zr_cls (a b : Class) : Bool := decide (a.accessFlags = b.accessFlags) && (decide (a.super = b.super) && (decide (a.interfaces.toList = b.interfaces.toList) && (decide (a.instanceTypes.toList = b.instanceTypes.toList) && (decide (a.staticTypes.toList = b.staticTypes.toList) && (zr_list zr_res a.resolved.toList b.resolved.toList && (decide (a.callSites = b.callSites) && (decide (a.invokers = b.invokers) && (decide (a.handedOver = b.handedOver) && (decide (a.initiators = b.initiators) && (decide (a.protectionDomain = b.protectionDomain) && (decide (a.signers = b.signers) && (decide (a.nestHost = b.nestHost) && (decide (a.nestHostError = b.nestHostError) && (decide (a.linked = b.linked) && (decide (a.init = b.init) && (decide (a.statics = b.statics) && decide (a.mirror = b.mirror)))))))))))))))))
theorem zr_cls_eq (a b : Class) (hs : a.Stays b) (h : zr_cls a b = true) : a = b := by
  simp only [zr_cls, Bool.and_eq_true, decide_eq_true_eq] at h
  obtain ⟨h1, h2, h3, h4, h5, h6, h7, h8, h9, h10, h11, h12, h13, h14, h15, h16, h17, h18⟩ := h
  obtain ⟨s1, s2, s3, s4, s5, -, -, s8, s9, -⟩ := hs
  replace h3 : a.interfaces = b.interfaces := Array.toList_inj.mp h3
  replace h4 : a.instanceTypes = b.instanceTypes := Array.toList_inj.mp h4
  replace h5 : a.staticTypes = b.staticTypes := Array.toList_inj.mp h5
  replace h6 : a.resolved = b.resolved := Array.toList_inj.mp (zr_list_eq zr_res_eq _ _ h6)
  cases a; cases b
  simp only at h1 h2 h3 h4 h5 h6 h7 h8 h9 h10 h11 h12 h13 h14 h15 h16 h17 h18 s1 s2 s3 s4 s5 s8 s9
  subst h1 h2 h3 h4 h5 h6 h7 h8 h9 h10 h11 h12 h13 h14 h15 h16 h17 h18 s1 s2 s3 s4 s5 s8 s9
  rfl
theorem zr_clss : ∀ (l r : List Class), zr_list zr_cls l r = true → (∀ (i : Nat) (k : Class), l[i]? = some k → ∃ k', r[i]? = some k' ∧ k.Stays k') → l = r
  | [], [], _, _ => rfl
  | [], _ :: _, h1, _ => by simp [zr_list] at h1
  | _ :: _, [], h1, _ => by simp [zr_list] at h1
  | a :: l, b :: r, h1, hs => by
    unfold zr_list at h1
    split at h1
    · rename_i h2
      obtain ⟨k', e, h3⟩ := hs 0 a rfl
      have e : b = k' := by simpa using e
      subst e
      rw [zr_cls_eq a b h3 h2, zr_clss l r h1 (fun i k hk => by
        obtain ⟨k', e, h4⟩ := hs (i + 1) k (by simpa using hk)
        exact ⟨k', by simpa using e, h4⟩)]
    · cases h1
/-- tables with classes alone -/
def zr_bare : Vm → Option (Array Class)
  | ⟨cs, ⟨[]⟩, ⟨[]⟩, none, none, [], [], [], l0, [], [], [], [], 0, ⟨[]⟩, none, [], false, []⟩ => match decide (l0 = 0) with
    | true => some cs
    | false => none
  | _ => none
theorem zr_bare_eq {v : Vm} {cs : Array Class} (h : zr_bare v = some cs) : v = { classes := cs } := by
  revert h; unfold zr_bare; split
  · split
    · rename_i h1
      have h1 := of_decide_eq_true h1
      intro h
      injection h with h
      subst h1 h
      rfl
    · intro h; cases h
  · intro h; cases h
def zr_vmeq (a b : Vm) : Bool := match zr_bare a, zr_bare b with
  | some x, some y => zr_list zr_cls x.toList y.toList
  | _, _ => false
theorem zr_vmeq_eq (a b : Vm) (h : zr_vmeq a b = true) (hs : ∀ (i : Nat) (k : Class), a.classes[i]? = some k → ∃ k', b.classes[i]? = some k' ∧ k.Stays k') : a = b := by
  unfold zr_vmeq at h
  split at h
  · rename_i x y hx hy
    have ex := zr_bare_eq hx
    have ey := zr_bare_eq hy
    subst ex ey
    have : x = y := Array.toList_inj.mp (zr_clss _ _ h (fun i k hk => by
      obtain ⟨k', e, h3⟩ := hs i k (by rw [← Array.getElem?_toList]; exact hk)
      exact ⟨k', by rw [Array.getElem?_toList]; exact e, h3⟩))
    rw [this]
  · cases h
theorem zr_stays (tb : Tables) (e : Env) : ∀ (n : Nat) (s : State) (i : Nat) (k : Class), s.vm.classes[i]? = some k → ∃ k', (stepsAlone tb e n s).vm.classes[i]? = some k' ∧ k.Stays k'
  | 0, s, i, k, h => ⟨k, h, .refl k⟩
  | n + 1, s, i, k, h => by
    rw [stepsAlone]
    split
    · obtain ⟨k1, h1, h2⟩ := (stepThread_hm (e := e) tb (s := s) (cH := i) (msH := k) ⟨k, h, .refl k⟩).out
      obtain ⟨k2, h3, h4⟩ := zr_stays tb e n _ i k1 h1
      exact ⟨k2, h3, h2.trans h4⟩
    · exact ⟨k, h, .refl k⟩
theorem zr_with {c : Class} {l : List (Option Resolved)} (h : l = c.resolved.toList) : ({ c with resolved := ⟨l⟩ } : Class) = c := by subst h; rfl
end
section
def zr_l0 : List (Option Resolved) := [none, none, none, none, none, none, none, none, some (.method ⟨2, 1⟩), some (.cls 2), none, none, none, none, some (.cls 17), none, some (.cls 16), none, some (.method ⟨2, 2⟩), none, none, none, some (.cls 15), none, some (.method ⟨2, 3⟩), none, none, none, some (.method ⟨2, 4⟩), none, none, none, some (.method ⟨2, 5⟩), none, none, none, some (.method ⟨2, 6⟩), none, none, none, some (.method ⟨2, 8⟩), none, none, some (.method ⟨2, 9⟩), none, none, none, some (.method ⟨2, 10⟩), none, none, some (.method ⟨2, 11⟩), none, none, some (.method ⟨2, 12⟩), none, none, some (.method ⟨2, 13⟩), none, none, none, some (.method ⟨2, 14⟩), none, none, some (.method ⟨2, 15⟩), none, none, none, some (.method ⟨2, 16⟩), none, none, some (.method ⟨2, 17⟩), none, none, some (.cls 18), none, some (.method ⟨0, 19⟩), none, none, none, none, none, some (.method ⟨0, 20⟩), none, none, none, some (.method ⟨0, 2⟩), none, none, some (.method ⟨0, 3⟩), none, none, some (.method ⟨0, 4⟩), none, none, some (.method ⟨0, 5⟩), none, none, some (.method ⟨0, 6⟩), none, none, some (.method ⟨0, 7⟩), none, none, some (.method ⟨0, 9⟩), none, some (.method ⟨0, 8⟩), none, none, some (.method ⟨2, 7⟩), none, none, some (.method ⟨0, 21⟩), none, none, none, some (.method ⟨0, 10⟩), none, none, some (.method ⟨0, 13⟩), none, some (.method ⟨0, 11⟩), none, some (.method ⟨0, 18⟩), none, some (.method ⟨0, 14⟩), none, some (.method ⟨0, 15⟩), none, some (.method ⟨0, 16⟩), none, none, some (.method ⟨0, 12⟩), none, some (.method ⟨0, 17⟩), none, some (.method ⟨0, 22⟩), none, none, none, some (.method ⟨0, 25⟩), none, none, none, none, none, some (.method ⟨2, 0⟩), some (.method ⟨0, 24⟩), none, none, none, some (.method ⟨0, 1⟩), none, none, some (.method ⟨0, 23⟩), none, none, none, none, none, none, none, some (.cls 2), none, none, none, none, none, none, none, none, none, none, none, none, none, none, none, none, none, none, none, none, none, none, none, none, none, none, none, some (.cls 2), none, none, none, none, none, none, none, none, none, none, none, none, none, some (.cls 2), none, none, none, none, none, none, some (.cls 2), none, none, none, none, none, none, some (.cls 2), none, none, none, none, none, none, some (.cls 2), none, none, none, none, none, none, some (.cls 2), none, none, none, none, none, none, some (.cls 2), none, none, none, none, none, none, some (.cls 2), none, none, none, none, none, none, some (.cls 2), none, none, none, none, none, none, some (.cls 2), none, none, none, none, none, none, some (.cls 2), none, none, none, none, none, none, some (.cls 2), none, none, none, none, none, none, some (.cls 2), none, none, none, none, none, none, some (.cls 2), none, none, none, none, none, none, some (.cls 2), none, none, none, none, none, none, none, none, none, none, none, none, none, some (.cls 0), none, none, none, none, none, none, some (.cls 0), none, none, none, none, none, none, some (.cls 0), none, none, none, none, none, none, some (.cls 0), none, none, none, none, none, none, some (.cls 0), none, none, none, none, none, none, some (.cls 0), none, none, none, none, none, none, some (.cls 0), none, none, none, none, none, none, some (.cls 0), none, none, none, none, none, none, some (.cls 0), none, none, none, none, none, none, some (.cls 0), none, none, none, none, none, none, some (.cls 2), none, none, none, none, none, none, some (.cls 0), none, none, none, none, none, none, some (.cls 0), none, none, none, none, none, none, some (.cls 0), none, none, none, none, none, none, some (.cls 0), none, none, none, none, none, none, some (.cls 0), none, none, none, none, none, none, some (.cls 0), none, none, none, none, none, none, some (.cls 0), none, none, none, none, none, none, some (.cls 0), none, none, none, none, none, none, some (.cls 0), none, none, none, none, none, none, some (.cls 0), none, none, none, none, none, none, some (.cls 0), none, none, none, none, none, none, some (.cls 0), none, none, none, none, none, none, none, none, none, none, none, none, none, some (.cls 2), none, none, none, none, none, none, some (.cls 0), none, none, none, none, none, none, some (.cls 0), none, none, none, none, none, none, some (.cls 0), none, none, none, none, none, none]
def zr_c0 : Class := { start1.c0 with resolved := ⟨zr_l0⟩ }
set_option maxRecDepth 16384 in
theorem zr_c0_eq : zr_c0 = start1.c0 := zr_with (zr_list_eq zr_res_eq _ _ (by decide +kernel : zr_list zr_res zr_l0 start1.c0.resolved.toList = true))
def zr_l2 : List (Option Resolved) := [none, none, none, some (.method ⟨1, 0⟩), none, none, none, none, none, some (.cls 3), none, some (.method ⟨3, 0⟩), some (.cls 5), none, some (.method ⟨5, 0⟩), some (.cls 6), none, some (.method ⟨6, 0⟩), none, none, some (.field 2 0), none, none, none, some (.field 2 1), none, none, none, some (.field 2 2), none, none, none, some (.cls 7), none, some (.method ⟨7, 0⟩), none, none, some (.field 2 3), none, none, none, some (.field 2 4), none, none, some (.method ⟨2, 25⟩), none, none, none, some (.method ⟨2, 19⟩), none, none, none, some (.cls 17), none, some (.string 4), none, some (.method ⟨17, 0⟩), none, none, some (.method ⟨3, 1⟩), none, none, none, some (.cls 16), none, some (.string 6), none, some (.method ⟨16, 0⟩), some (.method ⟨3, 2⟩), none, none, none, some (.method ⟨2, 24⟩), none, none, some (.method ⟨2, 27⟩), none, none, none, some (.method ⟨6, 1⟩), none, none, some (.method ⟨2, 22⟩), none, none, none, some (.method ⟨3, 6⟩), none, none, none, some (.method ⟨2, 26⟩), none, none, some (.method ⟨3, 7⟩), none, none, none, some (.string 14), none, some (.method ⟨3, 9⟩), none, none, none, some (.method ⟨3, 11⟩), none, none, none, some (.method ⟨5, 1⟩), none, none, some (.method ⟨2, 28⟩), none, none, some (.method ⟨2, 30⟩), none, none, some (.string 18), none, some (.method ⟨5, 7⟩), none, none, some (.string 20), none, some (.method ⟨5, 8⟩), none, some (.method ⟨5, 3⟩), none, none, none, some (.method ⟨5, 6⟩), none, none, some (.method ⟨2, 29⟩), none, none, some (.method ⟨6, 3⟩), none, none, some (.method ⟨6, 4⟩), none, none, some (.method ⟨2, 23⟩), none, none, some (.method ⟨3, 10⟩), none, none, some (.method ⟨7, 1⟩), none, none, some (.method ⟨7, 3⟩), none, none, some (.method ⟨7, 2⟩), none, none, none, some (.method ⟨7, 4⟩), none, none, some (.string 26), none, some (.string 28), none, some (.method ⟨9, 0⟩), none, none, none, none, some (.method ⟨7, 5⟩), none, none, none, some (.cls 18), none, some (.string 24), none, some (.method ⟨18, 0⟩), some (.method ⟨2, 18⟩), none, none, some (.string 8), none, some (.string 2), none, some (.method ⟨2, 20⟩), none, none, some (.string 12), none, some (.cls 15), none, some (.string 10), none, some (.method ⟨15, 0⟩), some (.method ⟨5, 4⟩), none, none, some (.string 16), none, some (.method ⟨6, 2⟩), none, none, some (.string 22), none, some (.method ⟨5, 2⟩), none, none, some (.method ⟨3, 3⟩), some (.cls 1), none, none, none, none, none, none, none, none, none, none, none, none, none, some (.cls 3), none, none, none, none, none, none, none, none, none, none, none, none, none, some (.cls 5), none, none, none, none, none, none, none, none, none, none, none, none, none, some (.cls 6), none, none, none, none, none, none, some (.cls 2), none, none, none, none, none, none, some (.cls 2), none, none, none, none, none, none, some (.cls 2), none, none, none, none, none, none, none, none, none, none, none, none, none, some (.cls 7), none, none, none, none, none, none, some (.cls 2), none, none, none, none, none, none, some (.cls 2), none, none, none, none, none, none, some (.cls 2), none, none, none, none, none, none, some (.cls 2), none, none, none, none, none, none, none, none, none, none, none, none, none, none, none, none, none, none, none, none, some (.cls 17), none, none, none, none, none, none, some (.cls 3), none, none, none, none, none, none, none, none, none, none, none, none, none, none, none, none, none, none, none, none, some (.cls 16), none, none, none, none, none, none, some (.cls 3), none, none, none, none, none, none, some (.cls 2), none, none, none, none, none, none, some (.cls 2), none, none, none, none, none, none, some (.cls 6), none, none, none, none, none, none, some (.cls 2), none, none, none, none, none, none, some (.cls 3), none, none, none, none, none, none, some (.cls 2), none, none, none, none, none, none, some (.cls 3), none, none, none, none, none, none, none, none, none, none, none, none, none, some (.cls 3), none, none, none, none, none, none, some (.cls 3), none, none, none, none, none, none, some (.cls 5), none, none, none, none, none, none, some (.cls 2), none, none, none, none, none, none, some (.cls 2), none, none, none, none, none, none, none, none, none, none, none, none, none, some (.cls 5), none, none, none, none, none, none, none, none, none, none, none, none, none, some (.cls 5), none, none, none, none, none, none, some (.cls 5), none, none, none, none, none, none, some (.cls 5), none, none, none, none, none, none, some (.cls 2), none, none, none, none, none, none, some (.cls 6), none, none, none, none, none, none, some (.cls 6), none, none, none, none, none, none, some (.cls 2), none, none, none, none, none, none, some (.cls 3), none, none, none, none, none, none, some (.cls 7), none, none, none, none, none, none, some (.cls 7), none, none, none, none, none, none, some (.cls 7), none, none, none, none, none, none, some (.cls 7), none, none, none, none, none, none, none, none, none, none, none, none, none, none, none, none, none, none, none, none, some (.cls 9), none, none, none, none, none, none, some (.cls 7), none, none, none, none, none, none, none, none, none, none, none, none, none, none, none, none, none, none, none, none, some (.cls 18), none, none, none, none, none, none, some (.cls 2), none, none, none, none, none, none, none, none, none, none, none, none, none, none, none, none, none, none, none, none, some (.cls 2), none, none, none, none, none, none, none, none, none, none, none, none, none, none, none, none, none, none, none, none, none, none, none, none, none, none, none, some (.cls 15), none, none, none, none, none, none, some (.cls 5), none, none, none, none, none, none, none, none, none, none, none, none, none, some (.cls 6), none, none, none, none, none, none, none, none, none, none, none, none, none, some (.cls 5), none, none, none, none, none, none, some (.cls 3), none, none, none, none, none, none]
def zr_c2 : Class := { start1.c2 with resolved := ⟨zr_l2⟩ }
set_option maxRecDepth 16384 in
theorem zr_c2_eq : zr_c2 = start1.c2 := zr_with (zr_list_eq zr_res_eq _ _ (by decide +kernel : zr_list zr_res zr_l2 start1.c2.resolved.toList = true))
def zr_l3 : List (Option Resolved) := [none, none, none, some (.method ⟨1, 0⟩), none, none, none, none, none, some (.field 3 0), none, none, none, none, none, some (.field 3 1), none, none, some (.field 3 2), none, none, none, some (.field 3 3), none, none, some (.field 3 4), none, none, some (.method ⟨4, 0⟩), none, none, none, none, none, some (.method ⟨2, 19⟩), none, none, none, some (.method ⟨3, 1⟩), none, none, none, some (.method ⟨2, 22⟩), none, none, none, some (.method ⟨2, 21⟩), none, none, some (.method ⟨2, 23⟩), none, none, some (.method ⟨3, 3⟩), none, none, some (.method ⟨2, 20⟩), none, none, some (.method ⟨3, 8⟩), none, none, some (.field 3 5), some (.cls 1), none, none, none, none, none, none, some (.cls 3), none, none, none, none, none, none, some (.cls 3), none, none, none, none, none, none, some (.cls 3), none, none, none, none, none, none, some (.cls 3), none, none, none, none, none, none, some (.cls 3), none, none, none, none, none, none, some (.cls 4), none, none, none, none, none, none, some (.cls 2), none, none, none, none, none, none, some (.cls 3), none, none, none, none, none, none, some (.cls 2), none, none, none, none, none, none, some (.cls 2), none, none, none, none, none, none, some (.cls 2), none, none, none, none, none, none, some (.cls 3), none, none, none, none, none, none, some (.cls 2), none, none, none, none, none, none, some (.cls 3), none, none, none, none, none, none, some (.cls 3), none, none, none, none, none, none]
def zr_c3 : Class := { start1.c3 with resolved := ⟨zr_l3⟩ }
set_option maxRecDepth 16384 in
theorem zr_c3_eq : zr_c3 = start1.c3 := zr_with (zr_list_eq zr_res_eq _ _ (by decide +kernel : zr_list zr_res zr_l3 start1.c3.resolved.toList = true))
def zr_l4 : List (Option Resolved) := [none]
def zr_c4 : Class := { start1.c4 with resolved := ⟨zr_l4⟩ }
set_option maxRecDepth 16384 in
theorem zr_c4_eq : zr_c4 = start1.c4 := zr_with (zr_list_eq zr_res_eq _ _ (by decide +kernel : zr_list zr_res zr_l4 start1.c4.resolved.toList = true))
def zr_l5 : List (Option Resolved) := [none, none, none, some (.method ⟨1, 0⟩), none, none, none, none, none, some (.field 5 0), none, none, none, none, none, some (.field 5 1), none, none, some (.field 5 3), none, none, none, some (.field 5 2), none, none, some (.method ⟨5, 4⟩), none, none, none, some (.method ⟨5, 5⟩), none, none, none, some (.method ⟨5, 6⟩), some (.cls 1), none, none, none, none, none, none, some (.cls 5), none, none, none, none, none, none, some (.cls 5), none, none, none, none, none, none, some (.cls 5), none, none, none, none, none, none, some (.cls 5), none, none, none, none, none, none, some (.cls 5), none, none, none, none, none, none, some (.cls 5), none, none, none, none, none, none, some (.cls 5), none, none, none, none, none, none]
def zr_c5 : Class := { start1.c5 with resolved := ⟨zr_l5⟩ }
set_option maxRecDepth 16384 in
theorem zr_c5_eq : zr_c5 = start1.c5 := zr_with (zr_list_eq zr_res_eq _ _ (by decide +kernel : zr_list zr_res zr_l5 start1.c5.resolved.toList = true))
def zr_l6 : List (Option Resolved) := [none, none, none, some (.method ⟨1, 0⟩), none, none, none, none, none, some (.field 6 0), none, none, none, none, none, some (.field 6 1), none, none, none, some (.field 6 2), none, none, none, some (.field 6 3), none, none, some (.field 6 4), none, none, some (.field 6 5), none, none, some (.field 6 8), none, none, none, some (.method ⟨6, 5⟩), none, none, none, some (.field 6 9), none, none, some (.method ⟨6, 6⟩), none, none, some (.method ⟨6, 8⟩), none, none, none, some (.field 6 7), none, none, none, some (.method ⟨6, 7⟩), none, none, some (.method ⟨5, 4⟩), none, none, none, none, none, some (.method ⟨5, 3⟩), none, none, none, some (.method ⟨8, 0⟩), none, none, none, none, some (.field 6 6), none, none, some (.method ⟨5, 5⟩), none, none, none, some (.method ⟨5, 6⟩), none, none, some (.method ⟨3, 5⟩), none, none, none, none, some (.method ⟨6, 4⟩), none, none, some (.method ⟨2, 23⟩), none, none, some (.method ⟨9, 0⟩), none, none, none, none, some (.method ⟨6, 9⟩), some (.cls 1), none, none, none, none, none, none, some (.cls 6), none, none, none, none, none, none, some (.cls 6), none, none, none, none, none, none, some (.cls 6), none, none, none, none, none, none, some (.cls 6), none, none, none, none, none, none, some (.cls 6), none, none, none, none, none, none, some (.cls 6), none, none, none, none, none, none, some (.cls 6), none, none, none, none, none, none, some (.cls 6), none, none, none, none, none, none, some (.cls 6), none, none, none, none, none, none, some (.cls 6), none, none, none, none, none, none, some (.cls 6), none, none, none, none, none, none, some (.cls 6), none, none, none, none, none, none, some (.cls 6), none, none, none, none, none, none, some (.cls 5), none, none, none, none, none, none, some (.cls 5), none, none, none, none, none, none, some (.cls 8), none, none, none, none, none, none, some (.cls 6), none, none, none, none, none, none, some (.cls 5), none, none, none, none, none, none, some (.cls 5), none, none, none, none, none, none, some (.cls 3), none, none, none, none, none, none, some (.cls 6), none, none, none, none, none, none, some (.cls 2), none, none, none, none, none, none, some (.cls 9), none, none, none, none, none, none, some (.cls 6), none, none, none, none, none, none]
def zr_c6 : Class := { start1.c6 with resolved := ⟨zr_l6⟩ }
set_option maxRecDepth 16384 in
theorem zr_c6_eq : zr_c6 = start1.c6 := zr_with (zr_list_eq zr_res_eq _ _ (by decide +kernel : zr_list zr_res zr_l6 start1.c6.resolved.toList = true))
def zr_l7 : List (Option Resolved) := [none, none, none, some (.method ⟨1, 0⟩), none, none, none, none, none, some (.field 7 0), none, none, none, none, none, some (.field 7 1), none, none, none, some (.field 7 2), none, none, none, some (.field 7 3), none, none, none, some (.field 7 4), none, none, some (.field 7 5), none, none, none, some (.method ⟨7, 6⟩), none, none, none, some (.method ⟨7, 7⟩), none, none, some (.method ⟨7, 8⟩), none, none, some (.field 7 6), none, none, none, some (.method ⟨5, 4⟩), none, none, none, none, none, some (.method ⟨5, 3⟩), none, none, none, some (.method ⟨7, 2⟩), none, none, none, some (.method ⟨7, 3⟩), none, none, none, some (.method ⟨5, 5⟩), none, none, some (.method ⟨6, 4⟩), none, none, none, none, some (.method ⟨2, 23⟩), none, none, some (.method ⟨5, 6⟩), none, none, some (.method ⟨3, 8⟩), none, none, none, none, none, some (.method ⟨8, 0⟩), none, none, none, none, some (.method ⟨3, 4⟩), some (.cls 1), none, none, none, none, none, none, some (.cls 7), none, none, none, none, none, none, some (.cls 7), none, none, none, none, none, none, some (.cls 7), none, none, none, none, none, none, some (.cls 7), none, none, none, none, none, none, some (.cls 7), none, none, none, none, none, none, some (.cls 7), none, none, none, none, none, none, some (.cls 7), none, none, none, none, none, none, some (.cls 7), none, none, none, none, none, none, some (.cls 7), none, none, none, none, none, none, some (.cls 7), none, none, none, none, none, none, some (.cls 5), none, none, none, none, none, none, some (.cls 5), none, none, none, none, none, none, some (.cls 7), none, none, none, none, none, none, some (.cls 7), none, none, none, none, none, none, some (.cls 5), none, none, none, none, none, none, some (.cls 6), none, none, none, none, none, none, some (.cls 2), none, none, none, none, none, none, some (.cls 5), none, none, none, none, none, none, some (.cls 3), none, none, none, none, none, none, some (.cls 8), none, none, none, none, none, none, some (.cls 3), none, none, none, none, none, none]
def zr_c7 : Class := { start1.c7 with resolved := ⟨zr_l7⟩ }
set_option maxRecDepth 16384 in
theorem zr_c7_eq : zr_c7 = start1.c7 := zr_with (zr_list_eq zr_res_eq _ _ (by decide +kernel : zr_list zr_res zr_l7 start1.c7.resolved.toList = true))
def zr_l8 : List (Option Resolved) := [none]
def zr_c8 : Class := { start1.c8 with resolved := ⟨zr_l8⟩ }
set_option maxRecDepth 16384 in
theorem zr_c8_eq : zr_c8 = start1.c8 := zr_with (zr_list_eq zr_res_eq _ _ (by decide +kernel : zr_list zr_res zr_l8 start1.c8.resolved.toList = true))
def zr_l9 : List (Option Resolved) := [none, none, none, none, none, none, none, none, none, none, none, none, none, none, none, none, none, none, none, none, none, none, none, none, none, none, none, none, none, none, none, none, none, none, none, none, none, none, none, none, none, none, none, none, none, none, none, none, none, none, none, none, none, none, none, none, none, none, none, none, none, none, none, none, none, none, none, none, none, none, none, none, none, none, none, none, none, none, none, none, none, none, none, none, none, none, none, none, none, none, none, none, none, none, none, none, none, none, none, none, none, none, none, none, none, none, none, none, none, none, none, none, none, none, none, none, none, none, none, none, none, none, none, none, none, none, none, none, none, none, none, none, none, none, none, none, none, none, none, none, none, none, none, none, none, none, none, none, none, none, none, none, none, none, none, none, none, none, none, none, none, none, none, none, none, none, none, none, none, none, none, none, none, none, none, none, none, none, none, none, none, none, none, none, none, none, none, none, none, none, none, none, none, none, none, none, none, none, none, none, none, none, none, none, none, none, none, none, none, none, none, none, none, none, none, none, none, none, none, none, none, none, none, none, none, none, none, none, none, none, none, none, none, none, none, none, none, none, none, none, none, none, none, none, none, none, none, none, none, none, none, none, none, none, none, none, none, none, none, none, none, none, none, none, none, none, none, none, none, none, none, none, none, none, none, none, none, none, none, none, none, none, none, none, none, none, none, none, none]
def zr_c9 : Class := { start1.c9 with resolved := ⟨zr_l9⟩ }
set_option maxRecDepth 16384 in
theorem zr_c9_eq : zr_c9 = start1.c9 := zr_with (zr_list_eq zr_res_eq _ _ (by decide +kernel : zr_list zr_res zr_l9 start1.c9.resolved.toList = true))
def zr_l10 : List (Option Resolved) := [none]
def zr_c10 : Class := { start1.c10 with resolved := ⟨zr_l10⟩ }
set_option maxRecDepth 16384 in
theorem zr_c10_eq : zr_c10 = start1.c10 := zr_with (zr_list_eq zr_res_eq _ _ (by decide +kernel : zr_list zr_res zr_l10 start1.c10.resolved.toList = true))
def zr_l11 : List (Option Resolved) := [none, some (.method ⟨1, 0⟩), none, none, none, none, none, some (.field 11 2), none, none, none, none, none, some (.field 11 7), none, none, none, some (.field 11 3), none, none, some (.field 11 8), none, none, none, some (.field 11 5), none, none, some (.method ⟨11, 2⟩), none, none, none, some (.field 11 1), none, none, none, none, none, none, none, none, none, none, none, none, none, none, none, none, none, none, none, none, none, none, none, none, none, none, none, none, none, none, none, none, none, none, none, none, none, none, none, none, none, none, none, none, none, none, none, none, none, none, none, none, none, none, none, none, none, none, none, none, none, none, none, none, none, none, none, none, none, none, none, none, none, none, none, none, none, none, none, none, none, none, none, none, none, none, none, none, none, none, none, none, none, none, none, none, none, none, none, none, none, none, none, none, none, none, none, none, none, none, none, none, none, none, none, none, none, none, none, none, none, none, none, none, none, none, none, none, none, none, none, none, none, none, none, none, none, none, none, none, none, none, none, none, none, none, none, none, none, none, none, none, none, none, none, none, none, none, none, none, none, none, none, none, none, none, some (.field 11 0), none, none, none, some (.method ⟨11, 3⟩), some (.cls 1), none, none, none, none, none, none, some (.cls 11), none, none, none, none, none, none, some (.cls 11), none, none, none, none, none, none, some (.cls 11), none, none, none, none, none, none, some (.cls 11), none, none, none, none, none, none, some (.cls 11), none, none, none, none, none, none, some (.cls 11), none, none, none, none, none, none, some (.cls 11), none, none, none, none, none, none, some (.cls 11), none, none, none, none, none, none, some (.cls 11), none, none, none, none, none, none]
def zr_c11 : Class := { start1.c11 with resolved := ⟨zr_l11⟩ }
set_option maxRecDepth 16384 in
theorem zr_c11_eq : zr_c11 = start1.c11 := zr_with (zr_list_eq zr_res_eq _ _ (by decide +kernel : zr_list zr_res zr_l11 start1.c11.resolved.toList = true))
def zr_l12 : List (Option Resolved) := [none]
def zr_c12 : Class := { start1.c12 with resolved := ⟨zr_l12⟩ }
set_option maxRecDepth 16384 in
theorem zr_c12_eq : zr_c12 = start1.c12 := zr_with (zr_list_eq zr_res_eq _ _ (by decide +kernel : zr_list zr_res zr_l12 start1.c12.resolved.toList = true))
def zr_l13 : List (Option Resolved) := [none, none, none, none, none, none, none, some (.method ⟨11, 1⟩), some (.cls 11), none, none, none, none, none, none]
def zr_c13 : Class := { start1.c13 with resolved := ⟨zr_l13⟩ }
set_option maxRecDepth 16384 in
theorem zr_c13_eq : zr_c13 = start1.c13 := zr_with (zr_list_eq zr_res_eq _ _ (by decide +kernel : zr_list zr_res zr_l13 start1.c13.resolved.toList = true))
def zr_l14 : List (Option Resolved) := [none, none, none, none, none, none, none, some (.method ⟨13, 1⟩), some (.cls 13), none, none, none, none, none, none]
def zr_c14 : Class := { start1.c14 with resolved := ⟨zr_l14⟩ }
set_option maxRecDepth 16384 in
theorem zr_c14_eq : zr_c14 = start1.c14 := zr_with (zr_list_eq zr_res_eq _ _ (by decide +kernel : zr_list zr_res zr_l14 start1.c14.resolved.toList = true))
def zr_l15 : List (Option Resolved) := [none, none, none, none, none, none, none, some (.method ⟨14, 1⟩), some (.cls 14), none, none, none, none, none, none]
def zr_c15 : Class := { start1.c15 with resolved := ⟨zr_l15⟩ }
set_option maxRecDepth 16384 in
theorem zr_c15_eq : zr_c15 = start1.c15 := zr_with (zr_list_eq zr_res_eq _ _ (by decide +kernel : zr_list zr_res zr_l15 start1.c15.resolved.toList = true))
def zr_l16 : List (Option Resolved) := [none, none, none, none, none, none, none, some (.method ⟨14, 1⟩), some (.cls 14), none, none, none, none, none, none]
def zr_c16 : Class := { start1.c16 with resolved := ⟨zr_l16⟩ }
set_option maxRecDepth 16384 in
theorem zr_c16_eq : zr_c16 = start1.c16 := zr_with (zr_list_eq zr_res_eq _ _ (by decide +kernel : zr_list zr_res zr_l16 start1.c16.resolved.toList = true))
def zr_l17 : List (Option Resolved) := [none, none, none, none, none, none, none, some (.method ⟨14, 1⟩), some (.cls 14), none, none, none, none, none, none]
def zr_c17 : Class := { start1.c17 with resolved := ⟨zr_l17⟩ }
set_option maxRecDepth 16384 in
theorem zr_c17_eq : zr_c17 = start1.c17 := zr_with (zr_list_eq zr_res_eq _ _ (by decide +kernel : zr_list zr_res zr_l17 start1.c17.resolved.toList = true))
def zr_l18 : List (Option Resolved) := [none, none, none, none, none, none, none, none, none, none, none, none, none, some (.method ⟨14, 1⟩), some (.cls 14), none, none, none, none, none, none]
def zr_c18 : Class := { start1.c18 with resolved := ⟨zr_l18⟩ }
set_option maxRecDepth 16384 in
theorem zr_c18_eq : zr_c18 = start1.c18 := zr_with (zr_list_eq zr_res_eq _ _ (by decide +kernel : zr_list zr_res zr_l18 start1.c18.resolved.toList = true))
/-- the tables of the start, with what is resolved written out -/
def zr_V : Vm := { classes := #[zr_c0, Lib.HandBits.cObject, zr_c2, zr_c3, zr_c4, zr_c5, zr_c6, zr_c7, zr_c8, zr_c9, zr_c10, zr_c11, zr_c12, zr_c13, zr_c14, zr_c15, zr_c16, zr_c17, zr_c18, start1.cPrim "int" 'I', start1.cArr "[I" 19 .int, start1.cPrim "boolean" 'Z', start1.cArr "[Z" 21 .boolean, start1.cPrim "byte" 'B', start1.cArr "[B" 23 .byte] }
theorem zr_V_eq : zr_V = start1.about.vm := by
  unfold zr_V
  rw [zr_c0_eq, zr_c2_eq, zr_c3_eq, zr_c4_eq, zr_c5_eq, zr_c6_eq, zr_c7_eq, zr_c8_eq, zr_c9_eq, zr_c10_eq, zr_c11_eq, zr_c12_eq, zr_c13_eq, zr_c14_eq, zr_c15_eq, zr_c16_eq, zr_c17_eq, zr_c18_eq]
  rfl
end
section
/-- a state written out over another's outside -/
def zr_mk (w : State) (h : List Cell) (f : List Frame) (u : Nat) : State := { w with heap := ⟨start1.about.heap.toList ++ h⟩, vm := zr_V, threads := #[{ frames := f }], cur := 0, slotsUsed := u, status := .running }
def zr_run0 (s : State) : Bool := match s.status with | .running => true | _ => false
def zr_same (h : List Cell) (f : List Frame) (u : Nat) (s : State) : Bool := decide (s.cur = 0) && (decide (s.slotsUsed = u) && (zr_run0 s && ((match s.threads with
  | ⟨[t]⟩ => (match zr_fr t with | some fs => zr_list zr_frame fs f | none => false)
  | _ => false) && (zr_list zr_cell s.heap.toList (start1.about.heap.toList ++ h) && zr_vmeq zr_V s.vm))))
theorem zr_same_eq {h : List Cell} {f : List Frame} {u : Nat} {s : State} (hs : ∀ (i : Nat) (k : Class), zr_V.classes[i]? = some k → ∃ k', s.vm.classes[i]? = some k' ∧ k.Stays k') (hh : zr_same h f u s = true) : s = zr_mk s h f u := by
  simp only [zr_same, Bool.and_eq_true, decide_eq_true_eq] at hh
  obtain ⟨h1, h2, h3, h4, h5, h6⟩ := hh
  replace h3 : s.status = .running := by
    revert h3; unfold zr_run0; split <;> intro h3 <;> first | assumption | cases h3
  replace h5 : s.heap = ⟨start1.about.heap.toList ++ h⟩ := by
    have := zr_list_eq zr_cell_eq _ _ h5
    rw [← this]
  replace h6 := zr_vmeq_eq _ _ h6 hs
  replace h4 : s.threads = #[{ frames := f }] := by
    split at h4
    · rename_i t ht
      split at h4
      · rename_i fs hf
        rw [ht, zr_fr_eq hf, zr_list_eq zr_frame_eq _ _ h4]
      · cases h4
    · cases h4
  unfold zr_mk
  rw [← h2, ← h5, h6, ← h4]
  cases s
  simp only at h1 h3
  subst h1 h3
  rfl
/-- one stretch of the run -/
theorem zr_leg {tb : Tables} {e : Env} {w : State} {h h' : List Cell} {f f' : List Frame} {u u' n : Nat} (hr : zr_run tb e (zr_same h' f' u') n (zr_mk w h f u) = true) : ∃ w', stepsAlone tb e n (zr_mk w h f u) = zr_mk w' h' f' u' ∧ ∀ j, j < n → zr_two (stepsAlone tb e j (zr_mk w h f u)).frames = true := by
  obtain ⟨a, b⟩ := zr_run_ok n _ hr
  exact ⟨_, zr_same_eq (fun i k hk => zr_stays tb e n (zr_mk w h f u) i k hk) b, a⟩
/-- the first stretch: from the witness' start itself -/
theorem zr_leg0 {tb : Tables} {e : Env} {h' : List Cell} {f' : List Frame} {u' n : Nat} (hr : zr_run tb e (zr_same h' f' u') n start1.about = true) : ∃ w', stepsAlone tb e n start1.about = zr_mk w' h' f' u' ∧ ∀ j, j < n → zr_two (stepsAlone tb e j start1.about).frames = true := by
  obtain ⟨a, b⟩ := zr_run_ok n _ hr
  exact ⟨_, zr_same_eq (fun i k hk => zr_stays tb e n start1.about i k (by rw [← zr_V_eq]; exact hk)) b, a⟩
end
section
def zr_h1 : List Cell := [{ cls := 2, slots := #[.null, .null, .null, .null, .null], vm := .none },
  { cls := 3, slots := #[.ref 32, .ref 33, .ref 34, .ref 35, .ref 36, .int 0], vm := .none },
  { cls := 20, slots := #[.int 0, .int 0, .int 0, .int 0], vm := .none },
  { cls := 20, slots := #[.int (-1), .int (-1), .int 0, .int 0, .int 0, .int 0, .int 0, .int 0, .int 0, .int 0, .int 0, .int 0, .int 0, .int 0, .int 0, .int 0, .int 0, .int 0, .int 0, .int 0, .int 0, .int 0, .int 0, .int 0, .int 0, .int 0, .int 0, .int 0, .int 0, .int 0, .int 0, .int 0], vm := .none },
  { cls := 22, slots := #[.int 0, .int 0, .int 0, .int 0, .int 0, .int 0, .int 0, .int 0, .int 0, .int 0, .int 0, .int 0, .int 0, .int 0, .int 0, .int 0, .int 0, .int 0, .int 0, .int 0, .int 0, .int 0, .int 0, .int 0, .int 0, .int 0, .int 0, .int 0, .int 0, .int 0, .int 0, .int 0], vm := .none },
  { cls := 20, slots := #[.int 0, .int 0, .int 0, .int 0, .int 0, .int 0, .int 0, .int 0, .int 0, .int 0, .int 0, .int 0, .int 0, .int 0, .int 0, .int 0, .int 0, .int 0, .int 0, .int 0, .int 0, .int 0, .int 0, .int 0, .int 0, .int 0, .int 0, .int 0, .int 0, .int 0, .int 0, .int 0], vm := .none },
  { cls := 20, slots := #[.int 0, .int 0, .int 0, .int 0, .int 0, .int 0, .int 0, .int 0, .int 0, .int 0, .int 0, .int 0, .int 0, .int 0, .int 0, .int 0, .int 0, .int 0, .int 0, .int 0, .int 0, .int 0, .int 0, .int 0, .int 0, .int 0, .int 0, .int 0, .int 0, .int 0, .int 0, .int 0, .int 0, .int 0, .int 0, .int 0, .int 0, .int 0, .int 0, .int 0, .int 0, .int 0, .int 0, .int 0, .int 0, .int 0, .int 0, .int 0, .int 0, .int 0, .int 0, .int 0, .int 0, .int 0, .int 0, .int 0, .int 0, .int 0, .int 0, .int 0, .int 0, .int 0, .int 0, .int 0, .int 0, .int 0, .int 0, .int 0, .int 0, .int 0, .int 0, .int 0, .int 0, .int 0, .int 0, .int 0, .int 0, .int 0, .int 0, .int 0, .int 0, .int 0, .int 0, .int 0, .int 0, .int 0, .int 0, .int 0, .int 0, .int 0, .int 0, .int 0, .int 0, .int 0, .int 0, .int 0, .int 0, .int 0, .int 0, .int 0, .int 0, .int 0, .int 0, .int 0, .int 0, .int 0, .int 0, .int 0, .int 0, .int 0, .int 0, .int 0, .int 0, .int 0, .int 0, .int 0, .int 0, .int 0, .int 0, .int 0, .int 0, .int 0, .int 0, .int 0, .int 0, .int 0, .int 0, .int 0, .int 0, .int 0, .int 0, .int 0, .int 0, .int 0, .int 0, .int 0, .int 0, .int 0, .int 0, .int 0, .int 0, .int 0, .int 0, .int 0, .int 0, .int 0, .int 0, .int 0, .int 0, .int 0, .int 0, .int 0, .int 0, .int 0, .int 0, .int 0, .int 0, .int 0, .int 0, .int 0, .int 0, .int 0, .int 0, .int 0, .int 0, .int 0, .int 0, .int 0, .int 0, .int 0, .int 0, .int 0, .int 0, .int 0, .int 0, .int 0, .int 0, .int 0, .int 0, .int 0, .int 0, .int 0, .int 0, .int 0, .int 0, .int 0, .int 0, .int 0, .int 0, .int 0, .int 0, .int 0, .int 0, .int 0, .int 0, .int 0, .int 0, .int 0, .int 0, .int 0, .int 0, .int 0, .int 0, .int 0, .int 0, .int 0, .int 0, .int 0, .int 0, .int 0, .int 0, .int 0, .int 0, .int 0, .int 0, .int 0, .int 0, .int 0, .int 0, .int 0, .int 0, .int 0, .int 0, .int 0, .int 0, .int 0, .int 0, .int 0, .int 0, .int 0, .int 0, .int 0, .int 0, .int 0, .int 0, .int 0, .int 0, .int 0, .int 0, .int 0, .int 0, .int 0, .int 0, .int 0, .int 0, .int 0, .int 0, .int 0, .int 0, .int 0, .int 0, .int 0, .int 0, .int 0, .int 0, .int 0, .int 0, .int 0, .int 0, .int 0, .int 0, .int 0, .int 0, .int 0, .int 0, .int 0, .int 0, .int 0, .int 0, .int 0, .int 0, .int 0, .int 0, .int 0, .int 0, .int 0, .int 0, .int 0, .int 0, .int 0, .int 0, .int 0, .int 0, .int 0, .int 0, .int 0, .int 0, .int 0, .int 0, .int 0, .int 0, .int 0, .int 0, .int 0, .int 0, .int 0, .int 0, .int 0, .int 0, .int 0, .int 0, .int 0, .int 0, .int 0, .int 0, .int 0, .int 0, .int 0, .int 0, .int 0, .int 0, .int 0, .int 0, .int 0, .int 0, .int 0, .int 0, .int 0, .int 0, .int 0, .int 0, .int 0, .int 0, .int 0, .int 0, .int 0, .int 0, .int 0, .int 0, .int 0, .int 0, .int 0, .int 0, .int 0, .int 0, .int 0, .int 0, .int 0, .int 0, .int 0, .int 0, .int 0, .int 0, .int 0, .int 0, .int 0, .int 0, .int 0, .int 0, .int 0, .int 0, .int 0, .int 0, .int 0, .int 0, .int 0, .int 0, .int 0, .int 0, .int 0, .int 0, .int 0, .int 0, .int 0, .int 0, .int 0, .int 0, .int 0, .int 0, .int 0, .int 0, .int 0, .int 0, .int 0, .int 0, .int 0, .int 0, .int 0, .int 0, .int 0, .int 0, .int 0, .int 0, .int 0, .int 0, .int 0, .int 0, .int 0, .int 0, .int 0, .int 0, .int 0, .int 0, .int 0, .int 0, .int 0, .int 0, .int 0, .int 0, .int 0, .int 0, .int 0, .int 0, .int 0, .int 0, .int 0, .int 0, .int 0, .int 0, .int 0, .int 0, .int 0, .int 0, .int 0, .int 0, .int 0, .int 0, .int 0, .int 0, .int 0, .int 0, .int 0, .int 0, .int 0, .int 0, .int 0, .int 0, .int 0, .int 0, .int 0, .int 0, .int 0, .int 0, .int 0, .int 0, .int 0, .int 0, .int 0, .int 0, .int 0, .int 0, .int 0, .int 0, .int 0, .int 0, .int 0, .int 0, .int 0, .int 0, .int 0, .int 0, .int 0, .int 0, .int 0, .int 0, .int 0, .int 0, .int 0, .int 0, .int 0, .int 0, .int 0, .int 0, .int 0, .int 0, .int 0, .int 0, .int 0, .int 0, .int 0, .int 0, .int 0, .int 0, .int 0, .int 0, .int 0, .int 0, .int 0, .int 0, .int 0, .int 0, .int 0, .int 0, .int 0, .int 0, .int 0, .int 0, .int 0, .int 0, .int 0, .int 0, .int 0, .int 0, .int 0, .int 0, .int 0, .int 0, .int 0, .int 0, .int 0, .int 0, .int 0, .int 0, .int 0, .int 0, .int 0, .int 0, .int 0, .int 0, .int 0, .int 0, .int 0, .int 0, .int 0, .int 0, .int 0, .int 0, .int 0, .int 0, .int 0, .int 0, .int 0, .int 0, .int 0, .int 0, .int 0, .int 0, .int 0, .int 0, .int 0, .int 0, .int 0, .int 0, .int 0, .int 0, .int 0, .int 0, .int 0, .int 0, .int 0, .int 0, .int 0, .int 0, .int 0, .int 0, .int 0, .int 0, .int 0, .int 0, .int 0, .int 0, .int 0, .int 0, .int 0, .int 0, .int 0, .int 0, .int 0, .int 0, .int 0, .int 0, .int 0, .int 0, .int 0, .int 0, .int 0, .int 0, .int 0, .int 0, .int 0, .int 0, .int 0, .int 0, .int 0, .int 0, .int 0, .int 0, .int 0, .int 0, .int 0, .int 0, .int 0, .int 0, .int 0, .int 0, .int 0, .int 0, .int 0, .int 0, .int 0, .int 0, .int 0, .int 0, .int 0, .int 0, .int 0, .int 0, .int 0, .int 0, .int 0, .int 0, .int 0, .int 0, .int 0, .int 0, .int 0, .int 0, .int 0, .int 0, .int 0, .int 0, .int 0, .int 0, .int 0, .int 0, .int 0, .int 0, .int 0, .int 0, .int 0, .int 0, .int 0, .int 0, .int 0, .int 0, .int 0, .int 0, .int 0, .int 0, .int 0, .int 0, .int 0, .int 0, .int 0, .int 0, .int 0, .int 0, .int 0, .int 0, .int 0], vm := .none }]
def zr_f1 : List Frame := [.java { method := ⟨4, 0⟩, pc := 5, locals := #[.val (.ref 33), .val (.int (-1)), .val (.int 2), .val (.int 32)], stack := [], locked := none },
  .java { method := ⟨3, 0⟩, pc := 49, locals := #[.val (.ref 31)], stack := [], locked := none },
  .java { method := ⟨2, 0⟩, pc := 8, locals := #[.val (.ref 30), .unset, .unset, .unset], stack := [.ref 31], locked := none },
  .java { method := ⟨0, 0⟩, pc := 4, locals := #[.val (.ref 0), .unset, .unset, .unset, .unset, .unset, .unset, .unset, .unset, .unset, .unset, .unset, .unset, .unset], stack := [.ref 30], locked := none },
  .native { method := ⟨0, 0⟩, args := #[] }]
def zr_u1 : Nat := 1296
def zr_w1 : State := stepsAlone start1.p0.tables start1.e0 60 start1.about
set_option maxRecDepth 16384 in
theorem zr_s1 : zr_run start1.p0.tables start1.e0 (zr_same zr_h1 zr_f1 zr_u1) 60 start1.about = true := by decide +kernel
end
section
def zr_h2 : List Cell := [{ cls := 2, slots := #[.null, .null, .null, .null, .null], vm := .none },
  { cls := 3, slots := #[.ref 32, .ref 33, .ref 34, .ref 35, .ref 36, .int 0], vm := .none },
  { cls := 20, slots := #[.int 0, .int 0, .int 0, .int 0], vm := .none },
  { cls := 20, slots := #[.int (-1), .int (-1), .int (-1), .int (-1), .int (-1), .int (-1), .int (-1), .int (-1), .int (-1), .int (-1), .int (-1), .int (-1), .int (-1), .int (-1), .int (-1), .int (-1), .int (-1), .int (-1), .int (-1), .int (-1), .int (-1), .int (-1), .int (-1), .int (-1), .int (-1), .int (-1), .int (-1), .int (-1), .int (-1), .int (-1), .int (-1), .int (-1)], vm := .none },
  { cls := 22, slots := #[.int 0, .int 0, .int 0, .int 0, .int 0, .int 0, .int 0, .int 0, .int 0, .int 0, .int 0, .int 0, .int 0, .int 0, .int 0, .int 0, .int 0, .int 0, .int 0, .int 0, .int 0, .int 0, .int 0, .int 0, .int 0, .int 0, .int 0, .int 0, .int 0, .int 0, .int 0, .int 0], vm := .none },
  { cls := 20, slots := #[.int 0, .int 0, .int 0, .int 0, .int 0, .int 0, .int 0, .int 0, .int 0, .int 0, .int 0, .int 0, .int 0, .int 0, .int 0, .int 0, .int 0, .int 0, .int 0, .int 0, .int 0, .int 0, .int 0, .int 0, .int 0, .int 0, .int 0, .int 0, .int 0, .int 0, .int 0, .int 0], vm := .none },
  { cls := 20, slots := #[.int (-1), .int (-1), .int (-1), .int (-1), .int (-1), .int (-1), .int (-1), .int (-1), .int (-1), .int (-1), .int (-1), .int (-1), .int (-1), .int (-1), .int (-1), .int (-1), .int (-1), .int (-1), .int (-1), .int (-1), .int (-1), .int (-1), .int (-1), .int (-1), .int (-1), .int (-1), .int (-1), .int (-1), .int (-1), .int (-1), .int (-1), .int (-1), .int (-1), .int (-1), .int (-1), .int (-1), .int (-1), .int (-1), .int (-1), .int (-1), .int (-1), .int (-1), .int (-1), .int (-1), .int (-1), .int (-1), .int (-1), .int (-1), .int (-1), .int (-1), .int (-1), .int (-1), .int (-1), .int (-1), .int (-1), .int (-1), .int (-1), .int (-1), .int (-1), .int (-1), .int (-1), .int (-1), .int (-1), .int (-1), .int (-1), .int (-1), .int (-1), .int (-1), .int (-1), .int (-1), .int (-1), .int (-1), .int (-1), .int (-1), .int (-1), .int (-1), .int (-1), .int (-1), .int (-1), .int (-1), .int (-1), .int (-1), .int (-1), .int (-1), .int (-1), .int (-1), .int (-1), .int (-1), .int (-1), .int (-1), .int (-1), .int (-1), .int (-1), .int (-1), .int (-1), .int (-1), .int (-1), .int (-1), .int (-1), .int (-1), .int (-1), .int (-1), .int (-1), .int (-1), .int (-1), .int (-1), .int (-1), .int (-1), .int (-1), .int (-1), .int (-1), .int (-1), .int (-1), .int (-1), .int (-1), .int (-1), .int (-1), .int (-1), .int (-1), .int (-1), .int (-1), .int (-1), .int (-1), .int (-1), .int (-1), .int (-1), .int (-1), .int (-1), .int (-1), .int (-1), .int (-1), .int (-1), .int (-1), .int (-1), .int (-1), .int (-1), .int (-1), .int (-1), .int (-1), .int (-1), .int (-1), .int (-1), .int (-1), .int (-1), .int (-1), .int (-1), .int (-1), .int (-1), .int (-1), .int (-1), .int (-1), .int (-1), .int (-1), .int (-1), .int (-1), .int (-1), .int (-1), .int (-1), .int (-1), .int (-1), .int (-1), .int (-1), .int (-1), .int (-1), .int (-1), .int (-1), .int (-1), .int (-1), .int (-1), .int (-1), .int (-1), .int (-1), .int (-1), .int (-1), .int (-1), .int (-1), .int (-1), .int (-1), .int (-1), .int (-1), .int (-1), .int (-1), .int (-1), .int (-1), .int (-1), .int (-1), .int (-1), .int (-1), .int (-1), .int (-1), .int (-1), .int (-1), .int (-1), .int (-1), .int (-1), .int (-1), .int (-1), .int (-1), .int (-1), .int (-1), .int (-1), .int (-1), .int (-1), .int (-1), .int (-1), .int (-1), .int (-1), .int (-1), .int (-1), .int (-1), .int (-1), .int (-1), .int (-1), .int (-1), .int (-1), .int (-1), .int (-1), .int (-1), .int (-1), .int (-1), .int (-1), .int (-1), .int (-1), .int (-1), .int 0, .int 0, .int 0, .int 0, .int 0, .int 0, .int 0, .int 0, .int 0, .int 0, .int 0, .int 0, .int 0, .int 0, .int 0, .int 0, .int 0, .int 0, .int 0, .int 0, .int 0, .int 0, .int 0, .int 0, .int 0, .int 0, .int 0, .int 0, .int 0, .int 0, .int 0, .int 0, .int 0, .int 0, .int 0, .int 0, .int 0, .int 0, .int 0, .int 0, .int 0, .int 0, .int 0, .int 0, .int 0, .int 0, .int 0, .int 0, .int 0, .int 0, .int 0, .int 0, .int 0, .int 0, .int 0, .int 0, .int 0, .int 0, .int 0, .int 0, .int 0, .int 0, .int 0, .int 0, .int 0, .int 0, .int 0, .int 0, .int 0, .int 0, .int 0, .int 0, .int 0, .int 0, .int 0, .int 0, .int 0, .int 0, .int 0, .int 0, .int 0, .int 0, .int 0, .int 0, .int 0, .int 0, .int 0, .int 0, .int 0, .int 0, .int 0, .int 0, .int 0, .int 0, .int 0, .int 0, .int 0, .int 0, .int 0, .int 0, .int 0, .int 0, .int 0, .int 0, .int 0, .int 0, .int 0, .int 0, .int 0, .int 0, .int 0, .int 0, .int 0, .int 0, .int 0, .int 0, .int 0, .int 0, .int 0, .int 0, .int 0, .int 0, .int 0, .int 0, .int 0, .int 0, .int 0, .int 0, .int 0, .int 0, .int 0, .int 0, .int 0, .int 0, .int 0, .int 0, .int 0, .int 0, .int 0, .int 0, .int 0, .int 0, .int 0, .int 0, .int 0, .int 0, .int 0, .int 0, .int 0, .int 0, .int 0, .int 0, .int 0, .int 0, .int 0, .int 0, .int 0, .int 0, .int 0, .int 0, .int 0, .int 0, .int 0, .int 0, .int 0, .int 0, .int 0, .int 0, .int 0, .int 0, .int 0, .int 0, .int 0, .int 0, .int 0, .int 0, .int 0, .int 0, .int 0, .int 0, .int 0, .int 0, .int 0, .int 0, .int 0, .int 0, .int 0, .int 0, .int 0, .int 0, .int 0, .int 0, .int 0, .int 0, .int 0, .int 0, .int 0, .int 0, .int 0, .int 0, .int 0, .int 0, .int 0, .int 0, .int 0, .int 0, .int 0, .int 0, .int 0, .int 0, .int 0, .int 0, .int 0, .int 0, .int 0, .int 0, .int 0, .int 0, .int 0, .int 0, .int 0, .int 0, .int 0, .int 0, .int 0, .int 0, .int 0, .int 0, .int 0, .int 0, .int 0, .int 0, .int 0, .int 0, .int 0, .int 0, .int 0, .int 0, .int 0, .int 0, .int 0, .int 0, .int 0, .int 0, .int 0, .int 0, .int 0, .int 0, .int 0, .int 0, .int 0, .int 0, .int 0, .int 0, .int 0, .int 0, .int 0, .int 0, .int 0, .int 0, .int 0, .int 0, .int 0, .int 0, .int 0, .int 0, .int 0, .int 0, .int 0, .int 0, .int 0, .int 0, .int 0, .int 0, .int 0, .int 0, .int 0, .int 0, .int 0, .int 0, .int 0, .int 0, .int 0, .int 0, .int 0, .int 0, .int 0, .int 0, .int 0, .int 0, .int 0, .int 0, .int 0, .int 0, .int 0, .int 0, .int 0, .int 0, .int 0, .int 0, .int 0, .int 0, .int 0, .int 0, .int 0, .int 0, .int 0, .int 0, .int 0, .int 0, .int 0, .int 0, .int 0, .int 0, .int 0, .int 0, .int 0, .int 0, .int 0, .int 0, .int 0, .int 0, .int 0, .int 0, .int 0, .int 0, .int 0, .int 0, .int 0, .int 0, .int 0, .int 0, .int 0, .int 0, .int 0, .int 0, .int 0, .int 0, .int 0, .int 0, .int 0, .int 0, .int 0, .int 0, .int 0, .int 0, .int 0, .int 0, .int 0, .int 0, .int 0, .int 0, .int 0, .int 0, .int 0, .int 0, .int 0, .int 0, .int 0, .int 0, .int 0, .int 0, .int 0, .int 0, .int 0, .int 0, .int 0, .int 0, .int 0, .int 0, .int 0, .int 0, .int 0, .int 0, .int 0, .int 0, .int 0, .int 0, .int 0, .int 0, .int 0, .int 0, .int 0, .int 0, .int 0, .int 0, .int 0, .int 0, .int 0, .int 0, .int 0, .int 0, .int 0, .int 0, .int 0, .int 0, .int 0, .int 0, .int 0, .int 0, .int 0, .int 0, .int 0, .int 0, .int 0, .int 0, .int 0, .int 0, .int 0, .int 0, .int 0, .int 0, .int 0, .int 0, .int 0, .int 0], vm := .none }]
def zr_f2 : List Frame := [.java { method := ⟨4, 0⟩, pc := 6, locals := #[.val (.ref 36), .val (.int (-1)), .val (.int 224), .val (.int 640)], stack := [.int 224], locked := none },
  .java { method := ⟨3, 0⟩, pc := 57, locals := #[.val (.ref 31)], stack := [], locked := none },
  .java { method := ⟨2, 0⟩, pc := 8, locals := #[.val (.ref 30), .unset, .unset, .unset], stack := [.ref 31], locked := none },
  .java { method := ⟨0, 0⟩, pc := 4, locals := #[.val (.ref 0), .unset, .unset, .unset, .unset, .unset, .unset, .unset, .unset, .unset, .unset, .unset, .unset, .unset], stack := [.ref 30], locked := none },
  .native { method := ⟨0, 0⟩, args := #[] }]
def zr_u2 : Nat := 1296
def zr_w2 : State := stepsAlone start1.p0.tables start1.e0 2300 (zr_mk zr_w1 zr_h1 zr_f1 zr_u1)
set_option maxRecDepth 16384 in
theorem zr_s2 : zr_run start1.p0.tables start1.e0 (zr_same zr_h2 zr_f2 zr_u2) 2300 (zr_mk zr_w1 zr_h1 zr_f1 zr_u1) = true := by decide +kernel
end
section
def zr_h3 : List Cell := [{ cls := 2, slots := #[.null, .null, .null, .null, .null], vm := .none },
  { cls := 3, slots := #[.ref 32, .ref 33, .ref 34, .ref 35, .ref 36, .int 0], vm := .none },
  { cls := 20, slots := #[.int 0, .int 0, .int 0, .int 0], vm := .none },
  { cls := 20, slots := #[.int (-1), .int (-1), .int (-1), .int (-1), .int (-1), .int (-1), .int (-1), .int (-1), .int (-1), .int (-1), .int (-1), .int (-1), .int (-1), .int (-1), .int (-1), .int (-1), .int (-1), .int (-1), .int (-1), .int (-1), .int (-1), .int (-1), .int (-1), .int (-1), .int (-1), .int (-1), .int (-1), .int (-1), .int (-1), .int (-1), .int (-1), .int (-1)], vm := .none },
  { cls := 22, slots := #[.int 0, .int 0, .int 0, .int 0, .int 0, .int 0, .int 0, .int 0, .int 0, .int 0, .int 0, .int 0, .int 0, .int 0, .int 0, .int 0, .int 0, .int 0, .int 0, .int 0, .int 0, .int 0, .int 0, .int 0, .int 0, .int 0, .int 0, .int 0, .int 0, .int 0, .int 0, .int 0], vm := .none },
  { cls := 20, slots := #[.int 0, .int 0, .int 0, .int 0, .int 0, .int 0, .int 0, .int 0, .int 0, .int 0, .int 0, .int 0, .int 0, .int 0, .int 0, .int 0, .int 0, .int 0, .int 0, .int 0, .int 0, .int 0, .int 0, .int 0, .int 0, .int 0, .int 0, .int 0, .int 0, .int 0, .int 0, .int 0], vm := .none },
  { cls := 20, slots := #[.int (-1), .int (-1), .int (-1), .int (-1), .int (-1), .int (-1), .int (-1), .int (-1), .int (-1), .int (-1), .int (-1), .int (-1), .int (-1), .int (-1), .int (-1), .int (-1), .int (-1), .int (-1), .int (-1), .int (-1), .int (-1), .int (-1), .int (-1), .int (-1), .int (-1), .int (-1), .int (-1), .int (-1), .int (-1), .int (-1), .int (-1), .int (-1), .int (-1), .int (-1), .int (-1), .int (-1), .int (-1), .int (-1), .int (-1), .int (-1), .int (-1), .int (-1), .int (-1), .int (-1), .int (-1), .int (-1), .int (-1), .int (-1), .int (-1), .int (-1), .int (-1), .int (-1), .int (-1), .int (-1), .int (-1), .int (-1), .int (-1), .int (-1), .int (-1), .int (-1), .int (-1), .int (-1), .int (-1), .int (-1), .int (-1), .int (-1), .int (-1), .int (-1), .int (-1), .int (-1), .int (-1), .int (-1), .int (-1), .int (-1), .int (-1), .int (-1), .int (-1), .int (-1), .int (-1), .int (-1), .int (-1), .int (-1), .int (-1), .int (-1), .int (-1), .int (-1), .int (-1), .int (-1), .int (-1), .int (-1), .int (-1), .int (-1), .int (-1), .int (-1), .int (-1), .int (-1), .int (-1), .int (-1), .int (-1), .int (-1), .int (-1), .int (-1), .int (-1), .int (-1), .int (-1), .int (-1), .int (-1), .int (-1), .int (-1), .int (-1), .int (-1), .int (-1), .int (-1), .int (-1), .int (-1), .int (-1), .int (-1), .int (-1), .int (-1), .int (-1), .int (-1), .int (-1), .int (-1), .int (-1), .int (-1), .int (-1), .int (-1), .int (-1), .int (-1), .int (-1), .int (-1), .int (-1), .int (-1), .int (-1), .int (-1), .int (-1), .int (-1), .int (-1), .int (-1), .int (-1), .int (-1), .int (-1), .int (-1), .int (-1), .int (-1), .int (-1), .int (-1), .int (-1), .int (-1), .int (-1), .int (-1), .int (-1), .int (-1), .int (-1), .int (-1), .int (-1), .int (-1), .int (-1), .int (-1), .int (-1), .int (-1), .int (-1), .int (-1), .int (-1), .int (-1), .int (-1), .int (-1), .int (-1), .int (-1), .int (-1), .int (-1), .int (-1), .int (-1), .int (-1), .int (-1), .int (-1), .int (-1), .int (-1), .int (-1), .int (-1), .int (-1), .int (-1), .int (-1), .int (-1), .int (-1), .int (-1), .int (-1), .int (-1), .int (-1), .int (-1), .int (-1), .int (-1), .int (-1), .int (-1), .int (-1), .int (-1), .int (-1), .int (-1), .int (-1), .int (-1), .int (-1), .int (-1), .int (-1), .int (-1), .int (-1), .int (-1), .int (-1), .int (-1), .int (-1), .int (-1), .int (-1), .int (-1), .int (-1), .int (-1), .int (-1), .int (-1), .int (-1), .int (-1), .int (-1), .int (-1), .int (-1), .int (-1), .int (-1), .int (-1), .int (-1), .int (-1), .int (-1), .int (-1), .int (-1), .int (-1), .int (-1), .int (-1), .int (-1), .int (-1), .int (-1), .int (-1), .int (-1), .int (-1), .int (-1), .int (-1), .int (-1), .int (-1), .int (-1), .int (-1), .int (-1), .int (-1), .int (-1), .int (-1), .int (-1), .int (-1), .int (-1), .int (-1), .int (-1), .int (-1), .int (-1), .int (-1), .int (-1), .int (-1), .int (-1), .int (-1), .int (-1), .int (-1), .int (-1), .int (-1), .int (-1), .int (-1), .int (-1), .int (-1), .int (-1), .int (-1), .int (-1), .int (-1), .int (-1), .int (-1), .int (-1), .int (-1), .int (-1), .int (-1), .int (-1), .int (-1), .int (-1), .int (-1), .int (-1), .int (-1), .int (-1), .int (-1), .int (-1), .int (-1), .int (-1), .int (-1), .int (-1), .int (-1), .int (-1), .int (-1), .int (-1), .int (-1), .int (-1), .int (-1), .int (-1), .int (-1), .int (-1), .int (-1), .int (-1), .int (-1), .int (-1), .int (-1), .int (-1), .int (-1), .int (-1), .int (-1), .int (-1), .int (-1), .int (-1), .int (-1), .int (-1), .int (-1), .int (-1), .int (-1), .int (-1), .int (-1), .int (-1), .int (-1), .int (-1), .int (-1), .int (-1), .int (-1), .int (-1), .int (-1), .int (-1), .int (-1), .int (-1), .int (-1), .int (-1), .int (-1), .int (-1), .int (-1), .int (-1), .int (-1), .int (-1), .int (-1), .int (-1), .int (-1), .int (-1), .int (-1), .int (-1), .int (-1), .int (-1), .int (-1), .int (-1), .int (-1), .int (-1), .int (-1), .int (-1), .int (-1), .int (-1), .int (-1), .int (-1), .int (-1), .int (-1), .int (-1), .int (-1), .int (-1), .int (-1), .int (-1), .int (-1), .int (-1), .int (-1), .int (-1), .int (-1), .int (-1), .int (-1), .int (-1), .int (-1), .int (-1), .int (-1), .int (-1), .int (-1), .int (-1), .int (-1), .int (-1), .int (-1), .int (-1), .int (-1), .int (-1), .int (-1), .int (-1), .int (-1), .int (-1), .int (-1), .int (-1), .int (-1), .int (-1), .int (-1), .int (-1), .int (-1), .int (-1), .int (-1), .int (-1), .int (-1), .int (-1), .int (-1), .int (-1), .int (-1), .int (-1), .int (-1), .int (-1), .int (-1), .int (-1), .int (-1), .int (-1), .int (-1), .int (-1), .int (-1), .int (-1), .int (-1), .int (-1), .int (-1), .int (-1), .int (-1), .int (-1), .int (-1), .int (-1), .int (-1), .int (-1), .int (-1), .int (-1), .int (-1), .int (-1), .int (-1), .int (-1), .int (-1), .int (-1), .int (-1), .int (-1), .int (-1), .int (-1), .int (-1), .int (-1), .int (-1), .int (-1), .int (-1), .int (-1), .int (-1), .int (-1), .int (-1), .int (-1), .int (-1), .int (-1), .int (-1), .int (-1), .int (-1), .int (-1), .int (-1), .int (-1), .int (-1), .int (-1), .int (-1), .int (-1), .int (-1), .int (-1), .int (-1), .int (-1), .int (-1), .int (-1), .int (-1), .int (-1), .int (-1), .int (-1), .int (-1), .int (-1), .int (-1), .int (-1), .int (-1), .int (-1), .int (-1), .int (-1), .int (-1), .int (-1), .int (-1), .int 0, .int 0, .int 0, .int 0, .int 0, .int 0, .int 0, .int 0, .int 0, .int 0, .int 0, .int 0, .int 0, .int 0, .int 0, .int 0, .int 0, .int 0, .int 0, .int 0, .int 0, .int 0, .int 0, .int 0, .int 0, .int 0, .int 0, .int 0, .int 0, .int 0, .int 0, .int 0, .int 0, .int 0, .int 0, .int 0, .int 0, .int 0, .int 0, .int 0, .int 0, .int 0, .int 0, .int 0, .int 0, .int 0, .int 0, .int 0, .int 0, .int 0, .int 0, .int 0, .int 0, .int 0, .int 0, .int 0, .int 0, .int 0, .int 0, .int 0, .int 0, .int 0, .int 0, .int 0, .int 0, .int 0, .int 0, .int 0, .int 0, .int 0, .int 0, .int 0, .int 0, .int 0, .int 0, .int 0, .int 0, .int 0, .int 0, .int 0, .int 0, .int 0, .int 0, .int 0, .int 0, .int 0, .int 0, .int 0, .int 0, .int 0, .int 0, .int 0, .int 0, .int 0, .int 0, .int 0, .int 0, .int 0, .int 0, .int 0, .int 0, .int 0, .int 0, .int 0, .int 0, .int 0, .int 0, .int 0, .int 0, .int 0, .int 0, .int 0, .int 0, .int 0, .int 0, .int 0, .int 0, .int 0, .int 0, .int 0, .int 0, .int 0, .int 0, .int 0, .int 0, .int 0, .int 0, .int 0, .int 0, .int 0, .int 0, .int 0, .int 0, .int 0, .int 0, .int 0, .int 0, .int 0, .int 0, .int 0, .int 0, .int 0, .int 0, .int 0, .int 0, .int 0, .int 0, .int 0, .int 0, .int 0, .int 0, .int 0, .int 0, .int 0, .int 0, .int 0, .int 0, .int 0, .int 0, .int 0, .int 0], vm := .none }]
def zr_f3 : List Frame := [.java { method := ⟨4, 0⟩, pc := 13, locals := #[.val (.ref 36), .val (.int (-1)), .val (.int 479), .val (.int 640)], stack := [.int (-1), .int 479, .ref 36], locked := none },
  .java { method := ⟨3, 0⟩, pc := 57, locals := #[.val (.ref 31)], stack := [], locked := none },
  .java { method := ⟨2, 0⟩, pc := 8, locals := #[.val (.ref 30), .unset, .unset, .unset], stack := [.ref 31], locked := none },
  .java { method := ⟨0, 0⟩, pc := 4, locals := #[.val (.ref 0), .unset, .unset, .unset, .unset, .unset, .unset, .unset, .unset, .unset, .unset, .unset, .unset, .unset], stack := [.ref 30], locked := none },
  .native { method := ⟨0, 0⟩, args := #[] }]
def zr_u3 : Nat := 1296
def zr_w3 : State := stepsAlone start1.p0.tables start1.e0 2300 (zr_mk zr_w2 zr_h2 zr_f2 zr_u2)
set_option maxRecDepth 16384 in
theorem zr_s3 : zr_run start1.p0.tables start1.e0 (zr_same zr_h3 zr_f3 zr_u3) 2300 (zr_mk zr_w2 zr_h2 zr_f2 zr_u2) = true := by decide +kernel
end
section
def zr_h4 : List Cell := [{ cls := 2, slots := #[.null, .null, .null, .null, .null], vm := .none },
  { cls := 3, slots := #[.ref 32, .ref 33, .ref 34, .ref 35, .ref 36, .int 0], vm := .none },
  { cls := 20, slots := #[.int 0, .int 0, .int 0, .int 0], vm := .none },
  { cls := 20, slots := #[.int (-1), .int (-1), .int (-1), .int (-1), .int (-1), .int (-1), .int (-1), .int (-1), .int (-1), .int (-1), .int (-1), .int (-1), .int (-1), .int (-1), .int (-1), .int (-1), .int (-1), .int (-1), .int (-1), .int (-1), .int (-1), .int (-1), .int (-1), .int (-1), .int (-1), .int (-1), .int (-1), .int (-1), .int (-1), .int (-1), .int (-1), .int (-1)], vm := .none },
  { cls := 22, slots := #[.int 0, .int 0, .int 0, .int 0, .int 0, .int 0, .int 0, .int 0, .int 0, .int 0, .int 0, .int 0, .int 0, .int 0, .int 0, .int 0, .int 0, .int 0, .int 0, .int 0, .int 0, .int 0, .int 0, .int 0, .int 0, .int 0, .int 0, .int 0, .int 0, .int 0, .int 0, .int 0], vm := .none },
  { cls := 20, slots := #[.int 0, .int 0, .int 0, .int 0, .int 0, .int 0, .int 0, .int 0, .int 0, .int 0, .int 0, .int 0, .int 0, .int 0, .int 0, .int 0, .int 0, .int 0, .int 0, .int 0, .int 0, .int 0, .int 0, .int 0, .int 0, .int 0, .int 0, .int 0, .int 0, .int 0, .int 0, .int 0], vm := .none },
  { cls := 20, slots := #[.int (-1), .int (-1), .int (-1), .int (-1), .int (-1), .int (-1), .int (-1), .int (-1), .int (-1), .int (-1), .int (-1), .int (-1), .int (-1), .int (-1), .int (-1), .int (-1), .int (-1), .int (-1), .int (-1), .int (-1), .int (-1), .int (-1), .int (-1), .int (-1), .int (-1), .int (-1), .int (-1), .int (-1), .int (-1), .int (-1), .int (-1), .int (-1), .int (-1), .int (-1), .int (-1), .int (-1), .int (-1), .int (-1), .int (-1), .int (-1), .int (-1), .int (-1), .int (-1), .int (-1), .int (-1), .int (-1), .int (-1), .int (-1), .int (-1), .int (-1), .int (-1), .int (-1), .int (-1), .int (-1), .int (-1), .int (-1), .int (-1), .int (-1), .int (-1), .int (-1), .int (-1), .int (-1), .int (-1), .int (-1), .int (-1), .int (-1), .int (-1), .int (-1), .int (-1), .int (-1), .int (-1), .int (-1), .int (-1), .int (-1), .int (-1), .int (-1), .int (-1), .int (-1), .int (-1), .int (-1), .int (-1), .int (-1), .int (-1), .int (-1), .int (-1), .int (-1), .int (-1), .int (-1), .int (-1), .int (-1), .int (-1), .int (-1), .int (-1), .int (-1), .int (-1), .int (-1), .int (-1), .int (-1), .int (-1), .int (-1), .int (-1), .int (-1), .int (-1), .int (-1), .int (-1), .int (-1), .int (-1), .int (-1), .int (-1), .int (-1), .int (-1), .int (-1), .int (-1), .int (-1), .int (-1), .int (-1), .int (-1), .int (-1), .int (-1), .int (-1), .int (-1), .int (-1), .int (-1), .int (-1), .int (-1), .int (-1), .int (-1), .int (-1), .int (-1), .int (-1), .int (-1), .int (-1), .int (-1), .int (-1), .int (-1), .int (-1), .int (-1), .int (-1), .int (-1), .int (-1), .int (-1), .int (-1), .int (-1), .int (-1), .int (-1), .int (-1), .int (-1), .int (-1), .int (-1), .int (-1), .int (-1), .int (-1), .int (-1), .int (-1), .int (-1), .int (-1), .int (-1), .int (-1), .int (-1), .int (-1), .int (-1), .int (-1), .int (-1), .int (-1), .int (-1), .int (-1), .int (-1), .int (-1), .int (-1), .int (-1), .int (-1), .int (-1), .int (-1), .int (-1), .int (-1), .int (-1), .int (-1), .int (-1), .int (-1), .int (-1), .int (-1), .int (-1), .int (-1), .int (-1), .int (-1), .int (-1), .int (-1), .int (-1), .int (-1), .int (-1), .int (-1), .int (-1), .int (-1), .int (-1), .int (-1), .int (-1), .int (-1), .int (-1), .int (-1), .int (-1), .int (-1), .int (-1), .int (-1), .int (-1), .int (-1), .int (-1), .int (-1), .int (-1), .int (-1), .int (-1), .int (-1), .int (-1), .int (-1), .int (-1), .int (-1), .int (-1), .int (-1), .int (-1), .int (-1), .int (-1), .int (-1), .int (-1), .int (-1), .int (-1), .int (-1), .int (-1), .int (-1), .int (-1), .int (-1), .int (-1), .int (-1), .int (-1), .int (-1), .int (-1), .int (-1), .int (-1), .int (-1), .int (-1), .int (-1), .int (-1), .int (-1), .int (-1), .int (-1), .int (-1), .int (-1), .int (-1), .int (-1), .int (-1), .int (-1), .int (-1), .int (-1), .int (-1), .int (-1), .int (-1), .int (-1), .int (-1), .int (-1), .int (-1), .int (-1), .int (-1), .int (-1), .int (-1), .int (-1), .int (-1), .int (-1), .int (-1), .int (-1), .int (-1), .int (-1), .int (-1), .int (-1), .int (-1), .int (-1), .int (-1), .int (-1), .int (-1), .int (-1), .int (-1), .int (-1), .int (-1), .int (-1), .int (-1), .int (-1), .int (-1), .int (-1), .int (-1), .int (-1), .int (-1), .int (-1), .int (-1), .int (-1), .int (-1), .int (-1), .int (-1), .int (-1), .int (-1), .int (-1), .int (-1), .int (-1), .int (-1), .int (-1), .int (-1), .int (-1), .int (-1), .int (-1), .int (-1), .int (-1), .int (-1), .int (-1), .int (-1), .int (-1), .int (-1), .int (-1), .int (-1), .int (-1), .int (-1), .int (-1), .int (-1), .int (-1), .int (-1), .int (-1), .int (-1), .int (-1), .int (-1), .int (-1), .int (-1), .int (-1), .int (-1), .int (-1), .int (-1), .int (-1), .int (-1), .int (-1), .int (-1), .int (-1), .int (-1), .int (-1), .int (-1), .int (-1), .int (-1), .int (-1), .int (-1), .int (-1), .int (-1), .int (-1), .int (-1), .int (-1), .int (-1), .int (-1), .int (-1), .int (-1), .int (-1), .int (-1), .int (-1), .int (-1), .int (-1), .int (-1), .int (-1), .int (-1), .int (-1), .int (-1), .int (-1), .int (-1), .int (-1), .int (-1), .int (-1), .int (-1), .int (-1), .int (-1), .int (-1), .int (-1), .int (-1), .int (-1), .int (-1), .int (-1), .int (-1), .int (-1), .int (-1), .int (-1), .int (-1), .int (-1), .int (-1), .int (-1), .int (-1), .int (-1), .int (-1), .int (-1), .int (-1), .int (-1), .int (-1), .int (-1), .int (-1), .int (-1), .int (-1), .int (-1), .int (-1), .int (-1), .int (-1), .int (-1), .int (-1), .int (-1), .int (-1), .int (-1), .int (-1), .int (-1), .int (-1), .int (-1), .int (-1), .int (-1), .int (-1), .int (-1), .int (-1), .int (-1), .int (-1), .int (-1), .int (-1), .int (-1), .int (-1), .int (-1), .int (-1), .int (-1), .int (-1), .int (-1), .int (-1), .int (-1), .int (-1), .int (-1), .int (-1), .int (-1), .int (-1), .int (-1), .int (-1), .int (-1), .int (-1), .int (-1), .int (-1), .int (-1), .int (-1), .int (-1), .int (-1), .int (-1), .int (-1), .int (-1), .int (-1), .int (-1), .int (-1), .int (-1), .int (-1), .int (-1), .int (-1), .int (-1), .int (-1), .int (-1), .int (-1), .int (-1), .int (-1), .int (-1), .int (-1), .int (-1), .int (-1), .int (-1), .int (-1), .int (-1), .int (-1), .int (-1), .int (-1), .int (-1), .int (-1), .int (-1), .int (-1), .int (-1), .int (-1), .int (-1), .int (-1), .int (-1), .int (-1), .int (-1), .int (-1), .int (-1), .int (-1), .int (-1), .int (-1), .int (-1), .int (-1), .int (-1), .int (-1), .int (-1), .int (-1), .int (-1), .int (-1), .int (-1), .int (-1), .int (-1), .int (-1), .int (-1), .int (-1), .int (-1), .int (-1), .int (-1), .int (-1), .int (-1), .int (-1), .int (-1), .int (-1), .int (-1), .int (-1), .int (-1), .int (-1), .int (-1), .int (-1), .int (-1), .int (-1), .int (-1), .int (-1), .int (-1), .int (-1), .int (-1), .int (-1), .int (-1), .int (-1), .int (-1), .int (-1), .int (-1), .int (-1), .int (-1), .int (-1), .int (-1), .int (-1), .int (-1), .int (-1), .int (-1), .int (-1), .int (-1), .int (-1), .int (-1), .int (-1), .int (-1), .int (-1), .int (-1), .int (-1), .int (-1), .int (-1), .int (-1), .int (-1), .int (-1), .int (-1), .int (-1), .int (-1), .int (-1), .int (-1), .int (-1), .int (-1), .int (-1), .int (-1), .int (-1), .int (-1), .int (-1), .int (-1), .int (-1), .int (-1), .int (-1), .int (-1), .int (-1), .int (-1), .int (-1), .int (-1), .int (-1), .int (-1), .int (-1), .int (-1), .int (-1), .int (-1), .int (-1), .int (-1), .int (-1), .int (-1), .int (-1), .int (-1), .int (-1), .int (-1), .int (-1), .int (-1), .int (-1), .int (-1), .int (-1), .int (-1), .int (-1), .int (-1), .int (-1), .int (-1), .int (-1), .int (-1), .int (-1), .int (-1), .int (-1), .int (-1), .int (-1), .int (-1), .int (-1), .int (-1), .int (-1), .int (-1), .int (-1), .int (-1), .int (-1), .int (-1), .int (-1), .int (-1), .int (-1), .int (-1), .int (-1), .int (-1), .int (-1), .int (-1), .int (-1), .int (-1), .int (-1), .int (-1), .int (-1), .int (-1), .int (-1), .int (-1), .int (-1), .int (-1), .int (-1), .int (-1), .int (-1), .int (-1), .int (-1), .int (-1), .int (-1), .int (-1), .int (-1), .int (-1), .int (-1), .int 0, .int 0, .int 0, .int 0, .int 0], vm := .none }]
def zr_f4 : List Frame := [.java { method := ⟨4, 0⟩, pc := 7, locals := #[.val (.ref 36), .val (.int (-1)), .val (.int 635), .val (.int 640)], stack := [.int 640, .int 635], locked := none },
  .java { method := ⟨3, 0⟩, pc := 57, locals := #[.val (.ref 31)], stack := [], locked := none },
  .java { method := ⟨2, 0⟩, pc := 8, locals := #[.val (.ref 30), .unset, .unset, .unset], stack := [.ref 31], locked := none },
  .java { method := ⟨0, 0⟩, pc := 4, locals := #[.val (.ref 0), .unset, .unset, .unset, .unset, .unset, .unset, .unset, .unset, .unset, .unset, .unset, .unset, .unset], stack := [.ref 30], locked := none },
  .native { method := ⟨0, 0⟩, args := #[] }]
def zr_u4 : Nat := 1296
def zr_w4 : State := stepsAlone start1.p0.tables start1.e0 1400 (zr_mk zr_w3 zr_h3 zr_f3 zr_u3)
set_option maxRecDepth 16384 in
theorem zr_s4 : zr_run start1.p0.tables start1.e0 (zr_same zr_h4 zr_f4 zr_u4) 1400 (zr_mk zr_w3 zr_h3 zr_f3 zr_u3) = true := by decide +kernel
end
section
def zr_h5 : List Cell := [{ cls := 2, slots := #[.ref 31, .ref 37, .ref 40, .ref 45, .ref 49], vm := .none },
  { cls := 3, slots := #[.ref 32, .ref 33, .ref 34, .ref 35, .ref 36, .int 0], vm := .none },
  { cls := 20, slots := #[.int 0, .int 0, .int 0, .int 0], vm := .none },
  { cls := 20, slots := #[.int (-1), .int (-1), .int (-1), .int (-1), .int (-1), .int (-1), .int (-1), .int (-1), .int (-1), .int (-1), .int (-1), .int (-1), .int (-1), .int (-1), .int (-1), .int (-1), .int (-1), .int (-1), .int (-1), .int (-1), .int (-1), .int (-1), .int (-1), .int (-1), .int (-1), .int (-1), .int (-1), .int (-1), .int (-1), .int (-1), .int (-1), .int (-1)], vm := .none },
  { cls := 22, slots := #[.int 0, .int 0, .int 0, .int 0, .int 0, .int 0, .int 0, .int 0, .int 0, .int 0, .int 0, .int 0, .int 0, .int 0, .int 0, .int 0, .int 0, .int 0, .int 0, .int 0, .int 0, .int 0, .int 0, .int 0, .int 0, .int 0, .int 0, .int 0, .int 0, .int 0, .int 0, .int 0], vm := .none },
  { cls := 20, slots := #[.int 0, .int 0, .int 0, .int 0, .int 0, .int 0, .int 0, .int 0, .int 0, .int 0, .int 0, .int 0, .int 0, .int 0, .int 0, .int 0, .int 0, .int 0, .int 0, .int 0, .int 0, .int 0, .int 0, .int 0, .int 0, .int 0, .int 0, .int 0, .int 0, .int 0, .int 0, .int 0], vm := .none },
  { cls := 20, slots := #[.int (-1), .int (-1), .int (-1), .int (-1), .int (-1), .int (-1), .int (-1), .int (-1), .int (-1), .int (-1), .int (-1), .int (-1), .int (-1), .int (-1), .int (-1), .int (-1), .int (-1), .int (-1), .int (-1), .int (-1), .int (-1), .int (-1), .int (-1), .int (-1), .int (-1), .int (-1), .int (-1), .int (-1), .int (-1), .int (-1), .int (-1), .int (-1), .int (-1), .int (-1), .int (-1), .int (-1), .int (-1), .int (-1), .int (-1), .int (-1), .int (-1), .int (-1), .int (-1), .int (-1), .int (-1), .int (-1), .int (-1), .int (-1), .int (-1), .int (-1), .int (-1), .int (-1), .int (-1), .int (-1), .int (-1), .int (-1), .int (-1), .int (-1), .int (-1), .int (-1), .int (-1), .int (-1), .int (-1), .int (-1), .int (-1), .int (-1), .int (-1), .int (-1), .int (-1), .int (-1), .int (-1), .int (-1), .int (-1), .int (-1), .int (-1), .int (-1), .int (-1), .int (-1), .int (-1), .int (-1), .int (-1), .int (-1), .int (-1), .int (-1), .int (-1), .int (-1), .int (-1), .int (-1), .int (-1), .int (-1), .int (-1), .int (-1), .int (-1), .int (-1), .int (-1), .int (-1), .int (-1), .int (-1), .int (-1), .int (-1), .int (-1), .int (-1), .int (-1), .int (-1), .int (-1), .int (-1), .int (-1), .int (-1), .int (-1), .int (-1), .int (-1), .int (-1), .int (-1), .int (-1), .int (-1), .int (-1), .int (-1), .int (-1), .int (-1), .int (-1), .int (-1), .int (-1), .int (-1), .int (-1), .int (-1), .int (-1), .int (-1), .int (-1), .int (-1), .int (-1), .int (-1), .int (-1), .int (-1), .int (-1), .int (-1), .int (-1), .int (-1), .int (-1), .int (-1), .int (-1), .int (-1), .int (-1), .int (-1), .int (-1), .int (-1), .int (-1), .int (-1), .int (-1), .int (-1), .int (-1), .int (-1), .int (-1), .int (-1), .int (-1), .int (-1), .int (-1), .int (-1), .int (-1), .int (-1), .int (-1), .int (-1), .int (-1), .int (-1), .int (-1), .int (-1), .int (-1), .int (-1), .int (-1), .int (-1), .int (-1), .int (-1), .int (-1), .int (-1), .int (-1), .int (-1), .int (-1), .int (-1), .int (-1), .int (-1), .int (-1), .int (-1), .int (-1), .int (-1), .int (-1), .int (-1), .int (-1), .int (-1), .int (-1), .int (-1), .int (-1), .int (-1), .int (-1), .int (-1), .int (-1), .int (-1), .int (-1), .int (-1), .int (-1), .int (-1), .int (-1), .int (-1), .int (-1), .int (-1), .int (-1), .int (-1), .int (-1), .int (-1), .int (-1), .int (-1), .int (-1), .int (-1), .int (-1), .int (-1), .int (-1), .int (-1), .int (-1), .int (-1), .int (-1), .int (-1), .int (-1), .int (-1), .int (-1), .int (-1), .int (-1), .int (-1), .int (-1), .int (-1), .int (-1), .int (-1), .int (-1), .int (-1), .int (-1), .int (-1), .int (-1), .int (-1), .int (-1), .int (-1), .int (-1), .int (-1), .int (-1), .int (-1), .int (-1), .int (-1), .int (-1), .int (-1), .int (-1), .int (-1), .int (-1), .int (-1), .int (-1), .int (-1), .int (-1), .int (-1), .int (-1), .int (-1), .int (-1), .int (-1), .int (-1), .int (-1), .int (-1), .int (-1), .int (-1), .int (-1), .int (-1), .int (-1), .int (-1), .int (-1), .int (-1), .int (-1), .int (-1), .int (-1), .int (-1), .int (-1), .int (-1), .int (-1), .int (-1), .int (-1), .int (-1), .int (-1), .int (-1), .int (-1), .int (-1), .int (-1), .int (-1), .int (-1), .int (-1), .int (-1), .int (-1), .int (-1), .int (-1), .int (-1), .int (-1), .int (-1), .int (-1), .int (-1), .int (-1), .int (-1), .int (-1), .int (-1), .int (-1), .int (-1), .int (-1), .int (-1), .int (-1), .int (-1), .int (-1), .int (-1), .int (-1), .int (-1), .int (-1), .int (-1), .int (-1), .int (-1), .int (-1), .int (-1), .int (-1), .int (-1), .int (-1), .int (-1), .int (-1), .int (-1), .int (-1), .int (-1), .int (-1), .int (-1), .int (-1), .int (-1), .int (-1), .int (-1), .int (-1), .int (-1), .int (-1), .int (-1), .int (-1), .int (-1), .int (-1), .int (-1), .int (-1), .int (-1), .int (-1), .int (-1), .int (-1), .int (-1), .int (-1), .int (-1), .int (-1), .int (-1), .int (-1), .int (-1), .int (-1), .int (-1), .int (-1), .int (-1), .int (-1), .int (-1), .int (-1), .int (-1), .int (-1), .int (-1), .int (-1), .int (-1), .int (-1), .int (-1), .int (-1), .int (-1), .int (-1), .int (-1), .int (-1), .int (-1), .int (-1), .int (-1), .int (-1), .int (-1), .int (-1), .int (-1), .int (-1), .int (-1), .int (-1), .int (-1), .int (-1), .int (-1), .int (-1), .int (-1), .int (-1), .int (-1), .int (-1), .int (-1), .int (-1), .int (-1), .int (-1), .int (-1), .int (-1), .int (-1), .int (-1), .int (-1), .int (-1), .int (-1), .int (-1), .int (-1), .int (-1), .int (-1), .int (-1), .int (-1), .int (-1), .int (-1), .int (-1), .int (-1), .int (-1), .int (-1), .int (-1), .int (-1), .int (-1), .int (-1), .int (-1), .int (-1), .int (-1), .int (-1), .int (-1), .int (-1), .int (-1), .int (-1), .int (-1), .int (-1), .int (-1), .int (-1), .int (-1), .int (-1), .int (-1), .int (-1), .int (-1), .int (-1), .int (-1), .int (-1), .int (-1), .int (-1), .int (-1), .int (-1), .int (-1), .int (-1), .int (-1), .int (-1), .int (-1), .int (-1), .int (-1), .int (-1), .int (-1), .int (-1), .int (-1), .int (-1), .int (-1), .int (-1), .int (-1), .int (-1), .int (-1), .int (-1), .int (-1), .int (-1), .int (-1), .int (-1), .int (-1), .int (-1), .int (-1), .int (-1), .int (-1), .int (-1), .int (-1), .int (-1), .int (-1), .int (-1), .int (-1), .int (-1), .int (-1), .int (-1), .int (-1), .int (-1), .int (-1), .int (-1), .int (-1), .int (-1), .int (-1), .int (-1), .int (-1), .int (-1), .int (-1), .int (-1), .int (-1), .int (-1), .int (-1), .int (-1), .int (-1), .int (-1), .int (-1), .int (-1), .int (-1), .int (-1), .int (-1), .int (-1), .int (-1), .int (-1), .int (-1), .int (-1), .int (-1), .int (-1), .int (-1), .int (-1), .int (-1), .int (-1), .int (-1), .int (-1), .int (-1), .int (-1), .int (-1), .int (-1), .int (-1), .int (-1), .int (-1), .int (-1), .int (-1), .int (-1), .int (-1), .int (-1), .int (-1), .int (-1), .int (-1), .int (-1), .int (-1), .int (-1), .int (-1), .int (-1), .int (-1), .int (-1), .int (-1), .int (-1), .int (-1), .int (-1), .int (-1), .int (-1), .int (-1), .int (-1), .int (-1), .int (-1), .int (-1), .int (-1), .int (-1), .int (-1), .int (-1), .int (-1), .int (-1), .int (-1), .int (-1), .int (-1), .int (-1), .int (-1), .int (-1), .int (-1), .int (-1), .int (-1), .int (-1), .int (-1), .int (-1), .int (-1), .int (-1), .int (-1), .int (-1), .int (-1), .int (-1), .int (-1), .int (-1), .int (-1), .int (-1), .int (-1), .int (-1), .int (-1), .int (-1), .int (-1), .int (-1), .int (-1), .int (-1), .int (-1), .int (-1), .int (-1), .int (-1), .int (-1), .int (-1), .int (-1), .int (-1), .int (-1), .int (-1), .int (-1), .int (-1), .int (-1), .int (-1), .int (-1), .int (-1), .int (-1), .int (-1), .int (-1), .int (-1), .int (-1), .int (-1), .int (-1), .int (-1), .int (-1), .int (-1), .int (-1), .int (-1), .int (-1), .int (-1), .int (-1), .int (-1), .int (-1), .int (-1), .int (-1), .int (-1), .int (-1), .int (-1), .int (-1), .int (-1), .int (-1), .int (-1), .int (-1), .int (-1), .int (-1), .int (-1), .int (-1), .int (-1), .int (-1), .int (-1), .int (-1), .int (-1), .int (-1), .int (-1), .int (-1), .int (-1), .int (-1), .int (-1), .int (-1), .int (-1), .int (-1), .int (-1)], vm := .none },
  { cls := 5, slots := #[.ref 38, .ref 39, .int 0, .int 0], vm := .none },
  { cls := 20, slots := #[.int 0, .int 0, .int 0, .int 0, .int 0, .int 0, .int 0, .int 0, .int 0, .int 0, .int 0, .int 0], vm := .none },
  { cls := 20, slots := #[.int 0, .int 0, .int 0, .int 0, .int 0, .int 0, .int 0, .int 0, .int 0, .int 0, .int 0, .int 0], vm := .none },
  { cls := 6, slots := #[.ref 31, .ref 37, .ref 41, .ref 42, .ref 43, .ref 44, .int 0, .int 0, .int 1, .int 1], vm := .none },
  { cls := 20, slots := #[.int 0, .int 0, .int 0, .int 0, .int 0, .int 0, .int 0, .int 0, .int 0, .int 0, .int 0, .int 0], vm := .none },
  { cls := 20, slots := #[.int 0, .int 0, .int 0, .int 0, .int 0, .int 0, .int 0, .int 0, .int 0, .int 0, .int 0, .int 0], vm := .none },
  { cls := 20, slots := #[.int 0, .int 0, .int 0, .int 0, .int 0, .int 0, .int 0, .int 0, .int 0, .int 0, .int 0, .int 0, .int 0, .int 0, .int 0, .int 0, .int 0, .int 0, .int 0, .int 0, .int 0, .int 0, .int 0, .int 0, .int 0, .int 0, .int 0, .int 0, .int 0, .int 0, .int 0, .int 0, .int 0, .int 0, .int 0, .int 0, .int 0, .int 0, .int 0, .int 0, .int 0, .int 0, .int 0, .int 0, .int 0, .int 0, .int 0, .int 0], vm := .none },
  { cls := 20, slots := #[.int 0, .int 0, .int 0, .int 0, .int 0, .int 0, .int 0, .int 0, .int 0, .int 0, .int 0, .int 0], vm := .none },
  { cls := 7, slots := #[.ref 31, .ref 37, .ref 40, .ref 46, .ref 47, .ref 48, .int 0], vm := .none },
  { cls := 20, slots := #[.int 0, .int 0, .int 0, .int 0, .int 0, .int 0, .int 0, .int 0, .int 0, .int 0, .int 0, .int 0], vm := .none },
  { cls := 20, slots := #[.int 0, .int 0, .int 0, .int 0, .int 0, .int 0, .int 0, .int 0, .int 0, .int 0, .int 0, .int 0], vm := .none },
  { cls := 22, slots := #[.int 0, .int 0, .int 0, .int 0, .int 0, .int 0, .int 0, .int 0, .int 0, .int 0, .int 0, .int 0], vm := .none },
  { cls := 7, slots := #[.ref 31, .ref 37, .ref 40, .ref 50, .ref 51, .ref 52, .int 0], vm := .none },
  { cls := 20, slots := #[.int 0, .int 0, .int 0, .int 0, .int 0, .int 0, .int 0, .int 0, .int 0, .int 0, .int 0, .int 0], vm := .none },
  { cls := 20, slots := #[.int 0, .int 0, .int 0, .int 0, .int 0, .int 0, .int 0, .int 0, .int 0, .int 0, .int 0, .int 0], vm := .none },
  { cls := 22, slots := #[.int 0, .int 0, .int 0, .int 0, .int 0, .int 0, .int 0, .int 0, .int 0, .int 0, .int 0, .int 0], vm := .none },
  { cls := 20, slots := #[.int 0, .int 0, .int 0, .int 0, .int 0, .int 0, .int 0, .int 0, .int 0, .int 0, .int 0, .int 0], vm := .none },
  { cls := 20, slots := #[.int 0, .int 0, .int 0, .int 0, .int 0, .int 0, .int 0, .int 0, .int 0, .int 0, .int 0, .int 0, .int 0, .int 0, .int 0, .int 0, .int 0, .int 0, .int 0, .int 0, .int 0, .int 0, .int 0, .int 0, .int 0, .int 0, .int 0, .int 0, .int 0, .int 0, .int 0, .int 0, .int 0, .int 0, .int 0, .int 0, .int 0, .int 0, .int 0, .int 0, .int 0, .int 0, .int 0, .int 0, .int 0, .int 0, .int 0, .int 0, .int 0, .int 0, .int 0, .int 0, .int 0, .int 0, .int 0, .int 0, .int 0, .int 0, .int 0, .int 0], vm := .none },
  { cls := 20, slots := #[.int 0, .int 0, .int 0, .int 0, .int 0, .int 0], vm := .none },
  { cls := 20, slots := #[.int 0, .int 0, .int 0, .int 0, .int 0, .int 0], vm := .none },
  { cls := 20, slots := #[.int 0, .int 0, .int 0, .int 0, .int 0, .int 0], vm := .none },
  { cls := 20, slots := #[.int 0, .int 0, .int 0, .int 0, .int 0, .int 0], vm := .none },
  { cls := 20, slots := #[.int 0, .int 0, .int 0, .int 0, .int 0, .int 0], vm := .none },
  { cls := 20, slots := #[.int 0, .int 0, .int 0, .int 0, .int 0, .int 0], vm := .none },
  { cls := 20, slots := #[.int 0, .int 0, .int 0, .int 0, .int 0, .int 0, .int 0, .int 0], vm := .none },
  { cls := 15, slots := #[.null, .ref 16, .ref 62, .null, .int 0, .null], vm := .none },
  { cls := 15, slots := #[.null, .ref 16, .ref 63, .null, .int 0, .null], vm := .none },
  { cls := 17, slots := #[.null, .null, .null, .null, .int 0, .null], vm := .none }]
def zr_f5 : List Frame := [.java { method := ⟨17, 0⟩, pc := 0, locals := #[.val (.ref 64), .val (.ref 12)], stack := [], locked := none },
  .java { method := ⟨2, 26⟩, pc := 13, locals := #[.val (.int 20)], stack := [.ref 64], locked := none },
  .java { method := ⟨2, 12⟩, pc := 1, locals := #[.val (.ref 30), .val (.int 20), .val (.int 0)], stack := [], locked := none },
  .java { method := ⟨0, 13⟩, pc := 3, locals := #[.val (.ref 30), .val (.int 20), .val (.int 0), .unset, .unset], stack := [], locked := none },
  .java { method := ⟨0, 24⟩, pc := 109, locals := #[.val (.ref 30), .val (.int 0), .val (.int 1), .val (.ref 53), .val (.ref 54), .val (.ref 55), .val (.ref 56), .val (.ref 57), .val (.ref 58), .val (.ref 59), .val (.ref 60), .val (.ref 61), .val (.int 0), .val (.int 0), .unset, .unset, .unset], stack := [], locked := none },
  .java { method := ⟨0, 0⟩, pc := 79, locals := #[.val (.ref 0), .val (.ref 30), .val (.ref 53), .val (.ref 54), .val (.ref 55), .val (.ref 56), .val (.ref 57), .val (.ref 58), .val (.ref 59), .val (.ref 60), .val (.ref 61), .unset, .unset, .unset], stack := [], locked := none },
  .native { method := ⟨0, 0⟩, args := #[] }]
def zr_u5 : Nat := 1638
def zr_w5 : State := stepsAlone start1.p0.tables start1.e0 707 (zr_mk zr_w4 zr_h4 zr_f4 zr_u4)
set_option maxRecDepth 16384 in
theorem zr_s5 : zr_run start1.p0.tables start1.e0 (zr_same zr_h5 zr_f5 zr_u5) 707 (zr_mk zr_w4 zr_h4 zr_f4 zr_u4) = true := by decide +kernel
end
section
def zr_h6 : List Cell := [{ cls := 2, slots := #[.ref 31, .ref 37, .ref 40, .ref 45, .ref 49], vm := .none },
  { cls := 3, slots := #[.ref 32, .ref 33, .ref 34, .ref 35, .ref 36, .int 0], vm := .none },
  { cls := 20, slots := #[.int 0, .int 0, .int 0, .int 0], vm := .none },
  { cls := 20, slots := #[.int (-1), .int (-1), .int (-1), .int (-1), .int (-1), .int (-1), .int (-1), .int (-1), .int (-1), .int (-1), .int (-1), .int (-1), .int (-1), .int (-1), .int (-1), .int (-1), .int (-1), .int (-1), .int (-1), .int (-1), .int (-1), .int (-1), .int (-1), .int (-1), .int (-1), .int (-1), .int (-1), .int (-1), .int (-1), .int (-1), .int (-1), .int (-1)], vm := .none },
  { cls := 22, slots := #[.int 0, .int 0, .int 0, .int 0, .int 0, .int 0, .int 0, .int 0, .int 0, .int 0, .int 0, .int 0, .int 0, .int 0, .int 0, .int 0, .int 0, .int 0, .int 0, .int 0, .int 0, .int 0, .int 0, .int 0, .int 0, .int 0, .int 0, .int 0, .int 0, .int 0, .int 0, .int 0], vm := .none },
  { cls := 20, slots := #[.int 0, .int 0, .int 0, .int 0, .int 0, .int 0, .int 0, .int 0, .int 0, .int 0, .int 0, .int 0, .int 0, .int 0, .int 0, .int 0, .int 0, .int 0, .int 0, .int 0, .int 0, .int 0, .int 0, .int 0, .int 0, .int 0, .int 0, .int 0, .int 0, .int 0, .int 0, .int 0], vm := .none },
  { cls := 20, slots := #[.int (-1), .int (-1), .int (-1), .int (-1), .int (-1), .int (-1), .int (-1), .int (-1), .int (-1), .int (-1), .int (-1), .int (-1), .int (-1), .int (-1), .int (-1), .int (-1), .int (-1), .int (-1), .int (-1), .int (-1), .int (-1), .int (-1), .int (-1), .int (-1), .int (-1), .int (-1), .int (-1), .int (-1), .int (-1), .int (-1), .int (-1), .int (-1), .int (-1), .int (-1), .int (-1), .int (-1), .int (-1), .int (-1), .int (-1), .int (-1), .int (-1), .int (-1), .int (-1), .int (-1), .int (-1), .int (-1), .int (-1), .int (-1), .int (-1), .int (-1), .int (-1), .int (-1), .int (-1), .int (-1), .int (-1), .int (-1), .int (-1), .int (-1), .int (-1), .int (-1), .int (-1), .int (-1), .int (-1), .int (-1), .int (-1), .int (-1), .int (-1), .int (-1), .int (-1), .int (-1), .int (-1), .int (-1), .int (-1), .int (-1), .int (-1), .int (-1), .int (-1), .int (-1), .int (-1), .int (-1), .int (-1), .int (-1), .int (-1), .int (-1), .int (-1), .int (-1), .int (-1), .int (-1), .int (-1), .int (-1), .int (-1), .int (-1), .int (-1), .int (-1), .int (-1), .int (-1), .int (-1), .int (-1), .int (-1), .int (-1), .int (-1), .int (-1), .int (-1), .int (-1), .int (-1), .int (-1), .int (-1), .int (-1), .int (-1), .int (-1), .int (-1), .int (-1), .int (-1), .int (-1), .int (-1), .int (-1), .int (-1), .int (-1), .int (-1), .int (-1), .int (-1), .int (-1), .int (-1), .int (-1), .int (-1), .int (-1), .int (-1), .int (-1), .int (-1), .int (-1), .int (-1), .int (-1), .int (-1), .int (-1), .int (-1), .int (-1), .int (-1), .int (-1), .int (-1), .int (-1), .int (-1), .int (-1), .int (-1), .int (-1), .int (-1), .int (-1), .int (-1), .int (-1), .int (-1), .int (-1), .int (-1), .int (-1), .int (-1), .int (-1), .int (-1), .int (-1), .int (-1), .int (-1), .int (-1), .int (-1), .int (-1), .int (-1), .int (-1), .int (-1), .int (-1), .int (-1), .int (-1), .int (-1), .int (-1), .int (-1), .int (-1), .int (-1), .int (-1), .int (-1), .int (-1), .int (-1), .int (-1), .int (-1), .int (-1), .int (-1), .int (-1), .int (-1), .int (-1), .int (-1), .int (-1), .int (-1), .int (-1), .int (-1), .int (-1), .int (-1), .int (-1), .int (-1), .int (-1), .int (-1), .int (-1), .int (-1), .int (-1), .int (-1), .int (-1), .int (-1), .int (-1), .int (-1), .int (-1), .int (-1), .int (-1), .int (-1), .int (-1), .int (-1), .int (-1), .int (-1), .int (-1), .int (-1), .int (-1), .int (-1), .int (-1), .int (-1), .int (-1), .int (-1), .int (-1), .int (-1), .int (-1), .int (-1), .int (-1), .int (-1), .int (-1), .int (-1), .int (-1), .int (-1), .int (-1), .int (-1), .int (-1), .int (-1), .int (-1), .int (-1), .int (-1), .int (-1), .int (-1), .int (-1), .int (-1), .int (-1), .int (-1), .int (-1), .int (-1), .int (-1), .int (-1), .int (-1), .int (-1), .int (-1), .int (-1), .int (-1), .int (-1), .int (-1), .int (-1), .int (-1), .int (-1), .int (-1), .int (-1), .int (-1), .int (-1), .int (-1), .int (-1), .int (-1), .int (-1), .int (-1), .int (-1), .int (-1), .int (-1), .int (-1), .int (-1), .int (-1), .int (-1), .int (-1), .int (-1), .int (-1), .int (-1), .int (-1), .int (-1), .int (-1), .int (-1), .int (-1), .int (-1), .int (-1), .int (-1), .int (-1), .int (-1), .int (-1), .int (-1), .int (-1), .int (-1), .int (-1), .int (-1), .int (-1), .int (-1), .int (-1), .int (-1), .int (-1), .int (-1), .int (-1), .int (-1), .int (-1), .int (-1), .int (-1), .int (-1), .int (-1), .int (-1), .int (-1), .int (-1), .int (-1), .int (-1), .int (-1), .int (-1), .int (-1), .int (-1), .int (-1), .int (-1), .int (-1), .int (-1), .int (-1), .int (-1), .int (-1), .int (-1), .int (-1), .int (-1), .int (-1), .int (-1), .int (-1), .int (-1), .int (-1), .int (-1), .int (-1), .int (-1), .int (-1), .int (-1), .int (-1), .int (-1), .int (-1), .int (-1), .int (-1), .int (-1), .int (-1), .int (-1), .int (-1), .int (-1), .int (-1), .int (-1), .int (-1), .int (-1), .int (-1), .int (-1), .int (-1), .int (-1), .int (-1), .int (-1), .int (-1), .int (-1), .int (-1), .int (-1), .int (-1), .int (-1), .int (-1), .int (-1), .int (-1), .int (-1), .int (-1), .int (-1), .int (-1), .int (-1), .int (-1), .int (-1), .int (-1), .int (-1), .int (-1), .int (-1), .int (-1), .int (-1), .int (-1), .int (-1), .int (-1), .int (-1), .int (-1), .int (-1), .int (-1), .int (-1), .int (-1), .int (-1), .int (-1), .int (-1), .int (-1), .int (-1), .int (-1), .int (-1), .int (-1), .int (-1), .int (-1), .int (-1), .int (-1), .int (-1), .int (-1), .int (-1), .int (-1), .int (-1), .int (-1), .int (-1), .int (-1), .int (-1), .int (-1), .int (-1), .int (-1), .int (-1), .int (-1), .int (-1), .int (-1), .int (-1), .int (-1), .int (-1), .int (-1), .int (-1), .int (-1), .int (-1), .int (-1), .int (-1), .int (-1), .int (-1), .int (-1), .int (-1), .int (-1), .int (-1), .int (-1), .int (-1), .int (-1), .int (-1), .int (-1), .int (-1), .int (-1), .int (-1), .int (-1), .int (-1), .int (-1), .int (-1), .int (-1), .int (-1), .int (-1), .int (-1), .int (-1), .int (-1), .int (-1), .int (-1), .int (-1), .int (-1), .int (-1), .int (-1), .int (-1), .int (-1), .int (-1), .int (-1), .int (-1), .int (-1), .int (-1), .int (-1), .int (-1), .int (-1), .int (-1), .int (-1), .int (-1), .int (-1), .int (-1), .int (-1), .int (-1), .int (-1), .int (-1), .int (-1), .int (-1), .int (-1), .int (-1), .int (-1), .int (-1), .int (-1), .int (-1), .int (-1), .int (-1), .int (-1), .int (-1), .int (-1), .int (-1), .int (-1), .int (-1), .int (-1), .int (-1), .int (-1), .int (-1), .int (-1), .int (-1), .int (-1), .int (-1), .int (-1), .int (-1), .int (-1), .int (-1), .int (-1), .int (-1), .int (-1), .int (-1), .int (-1), .int (-1), .int (-1), .int (-1), .int (-1), .int (-1), .int (-1), .int (-1), .int (-1), .int (-1), .int (-1), .int (-1), .int (-1), .int (-1), .int (-1), .int (-1), .int (-1), .int (-1), .int (-1), .int (-1), .int (-1), .int (-1), .int (-1), .int (-1), .int (-1), .int (-1), .int (-1), .int (-1), .int (-1), .int (-1), .int (-1), .int (-1), .int (-1), .int (-1), .int (-1), .int (-1), .int (-1), .int (-1), .int (-1), .int (-1), .int (-1), .int (-1), .int (-1), .int (-1), .int (-1), .int (-1), .int (-1), .int (-1), .int (-1), .int (-1), .int (-1), .int (-1), .int (-1), .int (-1), .int (-1), .int (-1), .int (-1), .int (-1), .int (-1), .int (-1), .int (-1), .int (-1), .int (-1), .int (-1), .int (-1), .int (-1), .int (-1), .int (-1), .int (-1), .int (-1), .int (-1), .int (-1), .int (-1), .int (-1), .int (-1), .int (-1), .int (-1), .int (-1), .int (-1), .int (-1), .int (-1), .int (-1), .int (-1), .int (-1), .int (-1), .int (-1), .int (-1), .int (-1), .int (-1), .int (-1), .int (-1), .int (-1), .int (-1), .int (-1), .int (-1), .int (-1), .int (-1), .int (-1), .int (-1), .int (-1), .int (-1), .int (-1), .int (-1), .int (-1), .int (-1), .int (-1), .int (-1), .int (-1), .int (-1), .int (-1), .int (-1), .int (-1), .int (-1), .int (-1), .int (-1), .int (-1), .int (-1), .int (-1), .int (-1), .int (-1), .int (-1), .int (-1), .int (-1), .int (-1), .int (-1), .int (-1), .int (-1), .int (-1), .int (-1), .int (-1), .int (-1), .int (-1), .int (-1), .int (-1), .int (-1), .int (-1), .int (-1), .int (-1)], vm := .none },
  { cls := 5, slots := #[.ref 38, .ref 39, .int 0, .int 0], vm := .none },
  { cls := 20, slots := #[.int 0, .int 0, .int 0, .int 0, .int 0, .int 0, .int 0, .int 0, .int 0, .int 0, .int 0, .int 0], vm := .none },
  { cls := 20, slots := #[.int 0, .int 0, .int 0, .int 0, .int 0, .int 0, .int 0, .int 0, .int 0, .int 0, .int 0, .int 0], vm := .none },
  { cls := 6, slots := #[.ref 31, .ref 37, .ref 41, .ref 42, .ref 43, .ref 44, .int 0, .int 0, .int 1, .int 1], vm := .none },
  { cls := 20, slots := #[.int 0, .int 0, .int 0, .int 0, .int 0, .int 0, .int 0, .int 0, .int 0, .int 0, .int 0, .int 0], vm := .none },
  { cls := 20, slots := #[.int 0, .int 0, .int 0, .int 0, .int 0, .int 0, .int 0, .int 0, .int 0, .int 0, .int 0, .int 0], vm := .none },
  { cls := 20, slots := #[.int 0, .int 0, .int 0, .int 0, .int 0, .int 0, .int 0, .int 0, .int 0, .int 0, .int 0, .int 0, .int 0, .int 0, .int 0, .int 0, .int 0, .int 0, .int 0, .int 0, .int 0, .int 0, .int 0, .int 0, .int 0, .int 0, .int 0, .int 0, .int 0, .int 0, .int 0, .int 0, .int 0, .int 0, .int 0, .int 0, .int 0, .int 0, .int 0, .int 0, .int 0, .int 0, .int 0, .int 0, .int 0, .int 0, .int 0, .int 0], vm := .none },
  { cls := 20, slots := #[.int 0, .int 0, .int 0, .int 0, .int 0, .int 0, .int 0, .int 0, .int 0, .int 0, .int 0, .int 0], vm := .none },
  { cls := 7, slots := #[.ref 31, .ref 37, .ref 40, .ref 46, .ref 47, .ref 48, .int 0], vm := .none },
  { cls := 20, slots := #[.int 0, .int 0, .int 0, .int 0, .int 0, .int 0, .int 0, .int 0, .int 0, .int 0, .int 0, .int 0], vm := .none },
  { cls := 20, slots := #[.int 0, .int 0, .int 0, .int 0, .int 0, .int 0, .int 0, .int 0, .int 0, .int 0, .int 0, .int 0], vm := .none },
  { cls := 22, slots := #[.int 0, .int 0, .int 0, .int 0, .int 0, .int 0, .int 0, .int 0, .int 0, .int 0, .int 0, .int 0], vm := .none },
  { cls := 7, slots := #[.ref 31, .ref 37, .ref 40, .ref 50, .ref 51, .ref 52, .int 0], vm := .none },
  { cls := 20, slots := #[.int 0, .int 0, .int 0, .int 0, .int 0, .int 0, .int 0, .int 0, .int 0, .int 0, .int 0, .int 0], vm := .none },
  { cls := 20, slots := #[.int 0, .int 0, .int 0, .int 0, .int 0, .int 0, .int 0, .int 0, .int 0, .int 0, .int 0, .int 0], vm := .none },
  { cls := 22, slots := #[.int 0, .int 0, .int 0, .int 0, .int 0, .int 0, .int 0, .int 0, .int 0, .int 0, .int 0, .int 0], vm := .none },
  { cls := 20, slots := #[.int 0, .int 0, .int 0, .int 0, .int 0, .int 0, .int 0, .int 0, .int 0, .int 0, .int 0, .int 0], vm := .none },
  { cls := 20, slots := #[.int 0, .int 0, .int 0, .int 0, .int 0, .int 0, .int 0, .int 0, .int 0, .int 0, .int 0, .int 0, .int 0, .int 0, .int 0, .int 0, .int 0, .int 0, .int 0, .int 0, .int 0, .int 0, .int 0, .int 0, .int 0, .int 0, .int 0, .int 0, .int 0, .int 0, .int 0, .int 0, .int 0, .int 0, .int 0, .int 0, .int 0, .int 0, .int 0, .int 0, .int 0, .int 0, .int 0, .int 0, .int 0, .int 0, .int 0, .int 0, .int 0, .int 0, .int 0, .int 0, .int 0, .int 0, .int 0, .int 0, .int 0, .int 0, .int 0, .int 0], vm := .none },
  { cls := 20, slots := #[.int 0, .int 0, .int 0, .int 0, .int 0, .int 0], vm := .none },
  { cls := 20, slots := #[.int 0, .int 0, .int 0, .int 0, .int 0, .int 0], vm := .none },
  { cls := 20, slots := #[.int 0, .int 0, .int 0, .int 0, .int 0, .int 0], vm := .none },
  { cls := 20, slots := #[.int 0, .int 0, .int 0, .int 0, .int 0, .int 0], vm := .none },
  { cls := 20, slots := #[.int 0, .int 0, .int 0, .int 0, .int 0, .int 0], vm := .none },
  { cls := 20, slots := #[.int 0, .int 0, .int 0, .int 0, .int 0, .int 0], vm := .none },
  { cls := 20, slots := #[.int 0, .int 0, .int 0, .int 0, .int 0, .int 0, .int 0, .int 0], vm := .none },
  { cls := 15, slots := #[.null, .ref 16, .ref 62, .null, .int 0, .null], vm := .none },
  { cls := 15, slots := #[.null, .ref 16, .ref 63, .null, .int 0, .null], vm := .none },
  { cls := 17, slots := #[.null, .ref 12, .ref 64, .null, .int 0, .null], vm := .none },
  { cls := 15, slots := #[.null, .ref 16, .ref 65, .null, .int 0, .null], vm := .none },
  { cls := 15, slots := #[.null, .ref 16, .ref 66, .null, .int 0, .null], vm := .none },
  { cls := 15, slots := #[.null, .ref 16, .ref 67, .null, .int 0, .null], vm := .none },
  { cls := 17, slots := #[.null, .ref 12, .ref 68, .null, .int 0, .null], vm := .none },
  { cls := 17, slots := #[.null, .ref 12, .ref 69, .null, .int 0, .null], vm := .none },
  { cls := 17, slots := #[.null, .ref 26, .ref 70, .null, .int 0, .null], vm := .none },
  { cls := 17, slots := #[.null, .ref 12, .ref 71, .null, .int 0, .null], vm := .none },
  { cls := 15, slots := #[.null, .ref 16, .ref 72, .null, .int 0, .null], vm := .none }]
def zr_f6 : List Frame := [.java { method := ⟨0, 22⟩, pc := 150, locals := #[.val (.int 0), .val (.int 0), .val (.ref 53), .val (.ref 54), .val (.ref 55), .val (.ref 56), .val (.ref 58), .val (.ref 59), .val (.ref 60), .val (.ref 61), .val (.int 0), .val (.int 0), .unset], stack := [.int 0], locked := none },
  .java { method := ⟨0, 24⟩, pc := 434, locals := #[.val (.ref 30), .val (.int 0), .val (.int 1), .val (.ref 53), .val (.ref 54), .val (.ref 55), .val (.ref 56), .val (.ref 57), .val (.ref 58), .val (.ref 59), .val (.ref 60), .val (.ref 61), .val (.int 0), .val (.int 0), .val (.int 0), .val (.int 0), .unset], stack := [], locked := none },
  .java { method := ⟨0, 0⟩, pc := 79, locals := #[.val (.ref 0), .val (.ref 30), .val (.ref 53), .val (.ref 54), .val (.ref 55), .val (.ref 56), .val (.ref 57), .val (.ref 58), .val (.ref 59), .val (.ref 60), .val (.ref 61), .unset, .unset, .unset], stack := [], locked := none },
  .native { method := ⟨0, 0⟩, args := #[] }]
def zr_u6 : Nat := 1686
def zr_w6 : State := stepsAlone start1.p0.tables start1.e0 798 (zr_mk zr_w5 zr_h5 zr_f5 zr_u5)
set_option maxRecDepth 16384 in
theorem zr_s6 : zr_run start1.p0.tables start1.e0 (zr_same zr_h6 zr_f6 zr_u6) 798 (zr_mk zr_w5 zr_h5 zr_f5 zr_u5) = true := by decide +kernel
end
section
def zr_h7 : List Cell := [{ cls := 2, slots := #[.ref 31, .ref 37, .ref 40, .ref 45, .ref 49], vm := .none },
  { cls := 3, slots := #[.ref 32, .ref 33, .ref 34, .ref 35, .ref 36, .int 0], vm := .none },
  { cls := 20, slots := #[.int 0, .int 0, .int 0, .int 0], vm := .none },
  { cls := 20, slots := #[.int (-1), .int (-1), .int (-1), .int (-1), .int (-1), .int (-1), .int (-1), .int (-1), .int (-1), .int (-1), .int (-1), .int (-1), .int (-1), .int (-1), .int (-1), .int (-1), .int (-1), .int (-1), .int (-1), .int (-1), .int (-1), .int (-1), .int (-1), .int (-1), .int (-1), .int (-1), .int (-1), .int (-1), .int (-1), .int (-1), .int (-1), .int (-1)], vm := .none },
  { cls := 22, slots := #[.int 0, .int 0, .int 0, .int 0, .int 0, .int 0, .int 0, .int 0, .int 0, .int 0, .int 0, .int 0, .int 0, .int 0, .int 0, .int 0, .int 0, .int 0, .int 0, .int 0, .int 0, .int 0, .int 0, .int 0, .int 0, .int 0, .int 0, .int 0, .int 0, .int 0, .int 0, .int 0], vm := .none },
  { cls := 20, slots := #[.int 0, .int 0, .int 0, .int 0, .int 0, .int 0, .int 0, .int 0, .int 0, .int 0, .int 0, .int 0, .int 0, .int 0, .int 0, .int 0, .int 0, .int 0, .int 0, .int 0, .int 0, .int 0, .int 0, .int 0, .int 0, .int 0, .int 0, .int 0, .int 0, .int 0, .int 0, .int 0], vm := .none },
  { cls := 20, slots := #[.int (-1), .int (-1), .int (-1), .int (-1), .int (-1), .int (-1), .int (-1), .int (-1), .int (-1), .int (-1), .int (-1), .int (-1), .int (-1), .int (-1), .int (-1), .int (-1), .int (-1), .int (-1), .int (-1), .int (-1), .int (-1), .int (-1), .int (-1), .int (-1), .int (-1), .int (-1), .int (-1), .int (-1), .int (-1), .int (-1), .int (-1), .int (-1), .int (-1), .int (-1), .int (-1), .int (-1), .int (-1), .int (-1), .int (-1), .int (-1), .int (-1), .int (-1), .int (-1), .int (-1), .int (-1), .int (-1), .int (-1), .int (-1), .int (-1), .int (-1), .int (-1), .int (-1), .int (-1), .int (-1), .int (-1), .int (-1), .int (-1), .int (-1), .int (-1), .int (-1), .int (-1), .int (-1), .int (-1), .int (-1), .int (-1), .int (-1), .int (-1), .int (-1), .int (-1), .int (-1), .int (-1), .int (-1), .int (-1), .int (-1), .int (-1), .int (-1), .int (-1), .int (-1), .int (-1), .int (-1), .int (-1), .int (-1), .int (-1), .int (-1), .int (-1), .int (-1), .int (-1), .int (-1), .int (-1), .int (-1), .int (-1), .int (-1), .int (-1), .int (-1), .int (-1), .int (-1), .int (-1), .int (-1), .int (-1), .int (-1), .int (-1), .int (-1), .int (-1), .int (-1), .int (-1), .int (-1), .int (-1), .int (-1), .int (-1), .int (-1), .int (-1), .int (-1), .int (-1), .int (-1), .int (-1), .int (-1), .int (-1), .int (-1), .int (-1), .int (-1), .int (-1), .int (-1), .int (-1), .int (-1), .int (-1), .int (-1), .int (-1), .int (-1), .int (-1), .int (-1), .int (-1), .int (-1), .int (-1), .int (-1), .int (-1), .int (-1), .int (-1), .int (-1), .int (-1), .int (-1), .int (-1), .int (-1), .int (-1), .int (-1), .int (-1), .int (-1), .int (-1), .int (-1), .int (-1), .int (-1), .int (-1), .int (-1), .int (-1), .int (-1), .int (-1), .int (-1), .int (-1), .int (-1), .int (-1), .int (-1), .int (-1), .int (-1), .int (-1), .int (-1), .int (-1), .int (-1), .int (-1), .int (-1), .int (-1), .int (-1), .int (-1), .int (-1), .int (-1), .int (-1), .int (-1), .int (-1), .int (-1), .int (-1), .int (-1), .int (-1), .int (-1), .int (-1), .int (-1), .int (-1), .int (-1), .int (-1), .int (-1), .int (-1), .int (-1), .int (-1), .int (-1), .int (-1), .int (-1), .int (-1), .int (-1), .int (-1), .int (-1), .int (-1), .int (-1), .int (-1), .int (-1), .int (-1), .int (-1), .int (-1), .int (-1), .int (-1), .int (-1), .int (-1), .int (-1), .int (-1), .int (-1), .int (-1), .int (-1), .int (-1), .int (-1), .int (-1), .int (-1), .int (-1), .int (-1), .int (-1), .int (-1), .int (-1), .int (-1), .int (-1), .int (-1), .int (-1), .int (-1), .int (-1), .int (-1), .int (-1), .int (-1), .int (-1), .int (-1), .int (-1), .int (-1), .int (-1), .int (-1), .int (-1), .int (-1), .int (-1), .int (-1), .int (-1), .int (-1), .int (-1), .int (-1), .int (-1), .int (-1), .int (-1), .int (-1), .int (-1), .int (-1), .int (-1), .int (-1), .int (-1), .int (-1), .int (-1), .int (-1), .int (-1), .int (-1), .int (-1), .int (-1), .int (-1), .int (-1), .int (-1), .int (-1), .int (-1), .int (-1), .int (-1), .int (-1), .int (-1), .int (-1), .int (-1), .int (-1), .int (-1), .int (-1), .int (-1), .int (-1), .int (-1), .int (-1), .int (-1), .int (-1), .int (-1), .int (-1), .int (-1), .int (-1), .int (-1), .int (-1), .int (-1), .int (-1), .int (-1), .int (-1), .int (-1), .int (-1), .int (-1), .int (-1), .int (-1), .int (-1), .int (-1), .int (-1), .int (-1), .int (-1), .int (-1), .int (-1), .int (-1), .int (-1), .int (-1), .int (-1), .int (-1), .int (-1), .int (-1), .int (-1), .int (-1), .int (-1), .int (-1), .int (-1), .int (-1), .int (-1), .int (-1), .int (-1), .int (-1), .int (-1), .int (-1), .int (-1), .int (-1), .int (-1), .int (-1), .int (-1), .int (-1), .int (-1), .int (-1), .int (-1), .int (-1), .int (-1), .int (-1), .int (-1), .int (-1), .int (-1), .int (-1), .int (-1), .int (-1), .int (-1), .int (-1), .int (-1), .int (-1), .int (-1), .int (-1), .int (-1), .int (-1), .int (-1), .int (-1), .int (-1), .int (-1), .int (-1), .int (-1), .int (-1), .int (-1), .int (-1), .int (-1), .int (-1), .int (-1), .int (-1), .int (-1), .int (-1), .int (-1), .int (-1), .int (-1), .int (-1), .int (-1), .int (-1), .int (-1), .int (-1), .int (-1), .int (-1), .int (-1), .int (-1), .int (-1), .int (-1), .int (-1), .int (-1), .int (-1), .int (-1), .int (-1), .int (-1), .int (-1), .int (-1), .int (-1), .int (-1), .int (-1), .int (-1), .int (-1), .int (-1), .int (-1), .int (-1), .int (-1), .int (-1), .int (-1), .int (-1), .int (-1), .int (-1), .int (-1), .int (-1), .int (-1), .int (-1), .int (-1), .int (-1), .int (-1), .int (-1), .int (-1), .int (-1), .int (-1), .int (-1), .int (-1), .int (-1), .int (-1), .int (-1), .int (-1), .int (-1), .int (-1), .int (-1), .int (-1), .int (-1), .int (-1), .int (-1), .int (-1), .int (-1), .int (-1), .int (-1), .int (-1), .int (-1), .int (-1), .int (-1), .int (-1), .int (-1), .int (-1), .int (-1), .int (-1), .int (-1), .int (-1), .int (-1), .int (-1), .int (-1), .int (-1), .int (-1), .int (-1), .int (-1), .int (-1), .int (-1), .int (-1), .int (-1), .int (-1), .int (-1), .int (-1), .int (-1), .int (-1), .int (-1), .int (-1), .int (-1), .int (-1), .int (-1), .int (-1), .int (-1), .int (-1), .int (-1), .int (-1), .int (-1), .int (-1), .int (-1), .int (-1), .int (-1), .int (-1), .int (-1), .int (-1), .int (-1), .int (-1), .int (-1), .int (-1), .int (-1), .int (-1), .int (-1), .int (-1), .int (-1), .int (-1), .int (-1), .int (-1), .int (-1), .int (-1), .int (-1), .int (-1), .int (-1), .int (-1), .int (-1), .int (-1), .int (-1), .int (-1), .int (-1), .int (-1), .int (-1), .int (-1), .int (-1), .int (-1), .int (-1), .int (-1), .int (-1), .int (-1), .int (-1), .int (-1), .int (-1), .int (-1), .int (-1), .int (-1), .int (-1), .int (-1), .int (-1), .int (-1), .int (-1), .int (-1), .int (-1), .int (-1), .int (-1), .int (-1), .int (-1), .int (-1), .int (-1), .int (-1), .int (-1), .int (-1), .int (-1), .int (-1), .int (-1), .int (-1), .int (-1), .int (-1), .int (-1), .int (-1), .int (-1), .int (-1), .int (-1), .int (-1), .int (-1), .int (-1), .int (-1), .int (-1), .int (-1), .int (-1), .int (-1), .int (-1), .int (-1), .int (-1), .int (-1), .int (-1), .int (-1), .int (-1), .int (-1), .int (-1), .int (-1), .int (-1), .int (-1), .int (-1), .int (-1), .int (-1), .int (-1), .int (-1), .int (-1), .int (-1), .int (-1), .int (-1), .int (-1), .int (-1), .int (-1), .int (-1), .int (-1), .int (-1), .int (-1), .int (-1), .int (-1), .int (-1), .int (-1), .int (-1), .int (-1), .int (-1), .int (-1), .int (-1), .int (-1), .int (-1), .int (-1), .int (-1), .int (-1), .int (-1), .int (-1), .int (-1), .int (-1), .int (-1), .int (-1), .int (-1), .int (-1), .int (-1), .int (-1), .int (-1), .int (-1), .int (-1), .int (-1), .int (-1), .int (-1), .int (-1), .int (-1), .int (-1), .int (-1), .int (-1), .int (-1), .int (-1), .int (-1), .int (-1), .int (-1), .int (-1), .int (-1), .int (-1), .int (-1), .int (-1), .int (-1), .int (-1), .int (-1), .int (-1), .int (-1), .int (-1), .int (-1), .int (-1), .int (-1), .int (-1), .int (-1), .int (-1), .int (-1), .int (-1), .int (-1), .int (-1), .int (-1), .int (-1), .int (-1), .int (-1), .int (-1), .int (-1)], vm := .none },
  { cls := 5, slots := #[.ref 38, .ref 39, .int 0, .int 0], vm := .none },
  { cls := 20, slots := #[.int 0, .int 0, .int 0, .int 0, .int 0, .int 0, .int 0, .int 0, .int 0, .int 0, .int 0, .int 0], vm := .none },
  { cls := 20, slots := #[.int 0, .int 0, .int 0, .int 0, .int 0, .int 0, .int 0, .int 0, .int 0, .int 0, .int 0, .int 0], vm := .none },
  { cls := 6, slots := #[.ref 31, .ref 37, .ref 41, .ref 42, .ref 43, .ref 44, .int 0, .int 0, .int 1, .int 1], vm := .none },
  { cls := 20, slots := #[.int 0, .int 0, .int 0, .int 0, .int 0, .int 0, .int 0, .int 0, .int 0, .int 0, .int 0, .int 0], vm := .none },
  { cls := 20, slots := #[.int 0, .int 0, .int 0, .int 0, .int 0, .int 0, .int 0, .int 0, .int 0, .int 0, .int 0, .int 0], vm := .none },
  { cls := 20, slots := #[.int 0, .int 0, .int 0, .int 0, .int 0, .int 0, .int 0, .int 0, .int 0, .int 0, .int 0, .int 0, .int 0, .int 0, .int 0, .int 0, .int 0, .int 0, .int 0, .int 0, .int 0, .int 0, .int 0, .int 0, .int 0, .int 0, .int 0, .int 0, .int 0, .int 0, .int 0, .int 0, .int 0, .int 0, .int 0, .int 0, .int 0, .int 0, .int 0, .int 0, .int 0, .int 0, .int 0, .int 0, .int 0, .int 0, .int 0, .int 0], vm := .none },
  { cls := 20, slots := #[.int 0, .int 0, .int 0, .int 0, .int 0, .int 0, .int 0, .int 0, .int 0, .int 0, .int 0, .int 0], vm := .none },
  { cls := 7, slots := #[.ref 31, .ref 37, .ref 40, .ref 46, .ref 47, .ref 48, .int 0], vm := .none },
  { cls := 20, slots := #[.int 0, .int 0, .int 0, .int 0, .int 0, .int 0, .int 0, .int 0, .int 0, .int 0, .int 0, .int 0], vm := .none },
  { cls := 20, slots := #[.int 0, .int 0, .int 0, .int 0, .int 0, .int 0, .int 0, .int 0, .int 0, .int 0, .int 0, .int 0], vm := .none },
  { cls := 22, slots := #[.int 0, .int 0, .int 0, .int 0, .int 0, .int 0, .int 0, .int 0, .int 0, .int 0, .int 0, .int 0], vm := .none },
  { cls := 7, slots := #[.ref 31, .ref 37, .ref 40, .ref 50, .ref 51, .ref 52, .int 0], vm := .none },
  { cls := 20, slots := #[.int 0, .int 0, .int 0, .int 0, .int 0, .int 0, .int 0, .int 0, .int 0, .int 0, .int 0, .int 0], vm := .none },
  { cls := 20, slots := #[.int 0, .int 0, .int 0, .int 0, .int 0, .int 0, .int 0, .int 0, .int 0, .int 0, .int 0, .int 0], vm := .none },
  { cls := 22, slots := #[.int 0, .int 0, .int 0, .int 0, .int 0, .int 0, .int 0, .int 0, .int 0, .int 0, .int 0, .int 0], vm := .none },
  { cls := 20, slots := #[.int 0, .int 0, .int 0, .int 0, .int 0, .int 0, .int 0, .int 0, .int 0, .int 0, .int 0, .int 0], vm := .none },
  { cls := 20, slots := #[.int 0, .int 0, .int 0, .int 0, .int 0, .int 0, .int 0, .int 0, .int 0, .int 0, .int 0, .int 0, .int 0, .int 0, .int 0, .int 0, .int 0, .int 0, .int 0, .int 0, .int 0, .int 0, .int 0, .int 0, .int 0, .int 0, .int 0, .int 0, .int 0, .int 0, .int 0, .int 0, .int 0, .int 0, .int 0, .int 0, .int 0, .int 0, .int 0, .int 0, .int 0, .int 0, .int 0, .int 0, .int 0, .int 0, .int 0, .int 0, .int 0, .int 0, .int 0, .int 0, .int 0, .int 0, .int 0, .int 0, .int 0, .int 0, .int 0, .int 0], vm := .none },
  { cls := 20, slots := #[.int 0, .int 0, .int 0, .int 0, .int 0, .int 0], vm := .none },
  { cls := 20, slots := #[.int 0, .int 0, .int 0, .int 0, .int 0, .int 0], vm := .none },
  { cls := 20, slots := #[.int 0, .int 0, .int 0, .int 0, .int 0, .int 0], vm := .none },
  { cls := 20, slots := #[.int 0, .int 0, .int 0, .int 0, .int 0, .int 0], vm := .none },
  { cls := 20, slots := #[.int 0, .int 0, .int 0, .int 0, .int 0, .int 0], vm := .none },
  { cls := 20, slots := #[.int 0, .int 0, .int 0, .int 0, .int 0, .int 0], vm := .none },
  { cls := 20, slots := #[.int 0, .int 0, .int 0, .int 0, .int 0, .int 0, .int 0, .int 0], vm := .none },
  { cls := 15, slots := #[.null, .ref 16, .ref 62, .null, .int 0, .null], vm := .none },
  { cls := 15, slots := #[.null, .ref 16, .ref 63, .null, .int 0, .null], vm := .none },
  { cls := 17, slots := #[.null, .ref 12, .ref 64, .null, .int 0, .null], vm := .none },
  { cls := 15, slots := #[.null, .ref 16, .ref 65, .null, .int 0, .null], vm := .none },
  { cls := 15, slots := #[.null, .ref 16, .ref 66, .null, .int 0, .null], vm := .none },
  { cls := 15, slots := #[.null, .ref 16, .ref 67, .null, .int 0, .null], vm := .none },
  { cls := 17, slots := #[.null, .ref 12, .ref 68, .null, .int 0, .null], vm := .none },
  { cls := 17, slots := #[.null, .ref 12, .ref 69, .null, .int 0, .null], vm := .none },
  { cls := 17, slots := #[.null, .ref 26, .ref 70, .null, .int 0, .null], vm := .none },
  { cls := 17, slots := #[.null, .ref 12, .ref 71, .null, .int 0, .null], vm := .none },
  { cls := 15, slots := #[.null, .ref 16, .ref 72, .null, .int 0, .null], vm := .none }]
def zr_f7 : List Frame := [.java { method := ⟨0, 22⟩, pc := 145, locals := #[.val (.int 5), .val (.int 0), .val (.ref 53), .val (.ref 54), .val (.ref 55), .val (.ref 56), .val (.ref 58), .val (.ref 59), .val (.ref 60), .val (.ref 61), .val (.int 5), .val (.int 0), .unset], stack := [], locked := none },
  .java { method := ⟨0, 25⟩, pc := 68, locals := #[.val (.ref 30), .val (.int 0), .val (.int 0), .val (.ref 53), .val (.ref 54), .val (.ref 55), .val (.ref 56), .val (.ref 58), .val (.ref 59), .val (.ref 60), .val (.ref 61), .val (.int 0), .val (.int 0), .val (.int 0), .val (.int (-74)), .val (.int 0), .val (.int 0), .val (.int 5), .val (.int 0), .val (.long 0), .second, .val (.long 0), .second, .val (.int 0)], stack := [], locked := none },
  .java { method := ⟨0, 24⟩, pc := 582, locals := #[.val (.ref 30), .val (.int 0), .val (.int 1), .val (.ref 53), .val (.ref 54), .val (.ref 55), .val (.ref 56), .val (.ref 57), .val (.ref 58), .val (.ref 59), .val (.ref 60), .val (.ref 61), .val (.int 0), .val (.int 0), .val (.int 0), .val (.int 0), .val (.int 0)], stack := [], locked := none },
  .java { method := ⟨0, 0⟩, pc := 79, locals := #[.val (.ref 0), .val (.ref 30), .val (.ref 53), .val (.ref 54), .val (.ref 55), .val (.ref 56), .val (.ref 57), .val (.ref 58), .val (.ref 59), .val (.ref 60), .val (.ref 61), .unset, .unset, .unset], stack := [], locked := none },
  .native { method := ⟨0, 0⟩, args := #[] }]
def zr_u7 : Nat := 1686
def zr_w7 : State := stepsAlone start1.p0.tables start1.e0 1763 (zr_mk zr_w6 zr_h6 zr_f6 zr_u6)
set_option maxRecDepth 16384 in
theorem zr_s7 : zr_run start1.p0.tables start1.e0 (zr_same zr_h7 zr_f7 zr_u7) 1763 (zr_mk zr_w6 zr_h6 zr_f6 zr_u6) = true := by decide +kernel
end
section
def zr_h8 : List Cell := [{ cls := 2, slots := #[.ref 31, .ref 37, .ref 40, .ref 45, .ref 49], vm := .none },
  { cls := 3, slots := #[.ref 32, .ref 33, .ref 34, .ref 35, .ref 36, .int 0], vm := .none },
  { cls := 20, slots := #[.int 0, .int 0, .int 0, .int 0], vm := .none },
  { cls := 20, slots := #[.int (-1), .int (-1), .int (-1), .int (-1), .int (-1), .int (-1), .int (-1), .int (-1), .int (-1), .int (-1), .int (-1), .int (-1), .int (-1), .int (-1), .int (-1), .int (-1), .int (-1), .int (-1), .int (-1), .int (-1), .int (-1), .int (-1), .int (-1), .int (-1), .int (-1), .int (-1), .int (-1), .int (-1), .int (-1), .int (-1), .int (-1), .int (-1)], vm := .none },
  { cls := 22, slots := #[.int 0, .int 0, .int 0, .int 0, .int 0, .int 0, .int 0, .int 0, .int 0, .int 0, .int 0, .int 0, .int 0, .int 0, .int 0, .int 0, .int 0, .int 0, .int 0, .int 0, .int 0, .int 0, .int 0, .int 0, .int 0, .int 0, .int 0, .int 0, .int 0, .int 0, .int 0, .int 0], vm := .none },
  { cls := 20, slots := #[.int 0, .int 0, .int 0, .int 0, .int 0, .int 0, .int 0, .int 0, .int 0, .int 0, .int 0, .int 0, .int 0, .int 0, .int 0, .int 0, .int 0, .int 0, .int 0, .int 0, .int 0, .int 0, .int 0, .int 0, .int 0, .int 0, .int 0, .int 0, .int 0, .int 0, .int 0, .int 0], vm := .none },
  { cls := 20, slots := #[.int (-1), .int (-1), .int (-1), .int (-1), .int (-1), .int (-1), .int (-1), .int (-1), .int (-1), .int (-1), .int (-1), .int (-1), .int (-1), .int (-1), .int (-1), .int (-1), .int (-1), .int (-1), .int (-1), .int (-1), .int (-1), .int (-1), .int (-1), .int (-1), .int (-1), .int (-1), .int (-1), .int (-1), .int (-1), .int (-1), .int (-1), .int (-1), .int (-1), .int (-1), .int (-1), .int (-1), .int (-1), .int (-1), .int (-1), .int (-1), .int (-1), .int (-1), .int (-1), .int (-1), .int (-1), .int (-1), .int (-1), .int (-1), .int (-1), .int (-1), .int (-1), .int (-1), .int (-1), .int (-1), .int (-1), .int (-1), .int (-1), .int (-1), .int (-1), .int (-1), .int (-1), .int (-1), .int (-1), .int (-1), .int (-1), .int (-1), .int (-1), .int (-1), .int (-1), .int (-1), .int (-1), .int (-1), .int (-1), .int (-1), .int (-1), .int (-1), .int (-1), .int (-1), .int (-1), .int (-1), .int (-1), .int (-1), .int (-1), .int (-1), .int (-1), .int (-1), .int (-1), .int (-1), .int (-1), .int (-1), .int (-1), .int (-1), .int (-1), .int (-1), .int (-1), .int (-1), .int (-1), .int (-1), .int (-1), .int (-1), .int (-1), .int (-1), .int (-1), .int (-1), .int (-1), .int (-1), .int (-1), .int (-1), .int (-1), .int (-1), .int (-1), .int (-1), .int (-1), .int (-1), .int (-1), .int (-1), .int (-1), .int (-1), .int (-1), .int (-1), .int (-1), .int (-1), .int (-1), .int (-1), .int (-1), .int (-1), .int (-1), .int (-1), .int (-1), .int (-1), .int (-1), .int (-1), .int (-1), .int (-1), .int (-1), .int (-1), .int (-1), .int (-1), .int (-1), .int (-1), .int (-1), .int (-1), .int (-1), .int (-1), .int (-1), .int (-1), .int (-1), .int (-1), .int (-1), .int (-1), .int (-1), .int (-1), .int (-1), .int (-1), .int (-1), .int (-1), .int (-1), .int (-1), .int (-1), .int (-1), .int (-1), .int (-1), .int (-1), .int (-1), .int (-1), .int (-1), .int (-1), .int (-1), .int (-1), .int (-1), .int (-1), .int (-1), .int (-1), .int (-1), .int (-1), .int (-1), .int (-1), .int (-1), .int (-1), .int (-1), .int (-1), .int (-1), .int (-1), .int (-1), .int (-1), .int (-1), .int (-1), .int (-1), .int (-1), .int (-1), .int (-1), .int (-1), .int (-1), .int (-1), .int (-1), .int (-1), .int (-1), .int (-1), .int (-1), .int (-1), .int (-1), .int (-1), .int (-1), .int (-1), .int (-1), .int (-1), .int (-1), .int (-1), .int (-1), .int (-1), .int (-1), .int (-1), .int (-1), .int (-1), .int (-1), .int (-1), .int (-1), .int (-1), .int (-1), .int (-1), .int (-1), .int (-1), .int (-1), .int (-1), .int (-1), .int (-1), .int (-1), .int (-1), .int (-1), .int (-1), .int (-1), .int (-1), .int (-1), .int (-1), .int (-1), .int (-1), .int (-1), .int (-1), .int (-1), .int (-1), .int (-1), .int (-1), .int (-1), .int (-1), .int (-1), .int (-1), .int (-1), .int (-1), .int (-1), .int (-1), .int (-1), .int (-1), .int (-1), .int (-1), .int (-1), .int (-1), .int (-1), .int (-1), .int (-1), .int (-1), .int (-1), .int (-1), .int (-1), .int (-1), .int (-1), .int (-1), .int (-1), .int (-1), .int (-1), .int (-1), .int (-1), .int (-1), .int (-1), .int (-1), .int (-1), .int (-1), .int (-1), .int (-1), .int (-1), .int (-1), .int (-1), .int (-1), .int (-1), .int (-1), .int (-1), .int (-1), .int (-1), .int (-1), .int (-1), .int (-1), .int (-1), .int (-1), .int (-1), .int (-1), .int (-1), .int (-1), .int (-1), .int (-1), .int (-1), .int (-1), .int (-1), .int (-1), .int (-1), .int (-1), .int (-1), .int (-1), .int (-1), .int (-1), .int (-1), .int (-1), .int (-1), .int (-1), .int (-1), .int (-1), .int (-1), .int (-1), .int (-1), .int (-1), .int (-1), .int (-1), .int (-1), .int (-1), .int (-1), .int (-1), .int (-1), .int (-1), .int (-1), .int (-1), .int (-1), .int (-1), .int (-1), .int (-1), .int (-1), .int (-1), .int (-1), .int (-1), .int (-1), .int (-1), .int (-1), .int (-1), .int (-1), .int (-1), .int (-1), .int (-1), .int (-1), .int (-1), .int (-1), .int (-1), .int (-1), .int (-1), .int (-1), .int (-1), .int (-1), .int (-1), .int (-1), .int (-1), .int (-1), .int (-1), .int (-1), .int (-1), .int (-1), .int (-1), .int (-1), .int (-1), .int (-1), .int (-1), .int (-1), .int (-1), .int (-1), .int (-1), .int (-1), .int (-1), .int (-1), .int (-1), .int (-1), .int (-1), .int (-1), .int (-1), .int (-1), .int (-1), .int (-1), .int (-1), .int (-1), .int (-1), .int (-1), .int (-1), .int (-1), .int (-1), .int (-1), .int (-1), .int (-1), .int (-1), .int (-1), .int (-1), .int (-1), .int (-1), .int (-1), .int (-1), .int (-1), .int (-1), .int (-1), .int (-1), .int (-1), .int (-1), .int (-1), .int (-1), .int (-1), .int (-1), .int (-1), .int (-1), .int (-1), .int (-1), .int (-1), .int (-1), .int (-1), .int (-1), .int (-1), .int (-1), .int (-1), .int (-1), .int (-1), .int (-1), .int (-1), .int (-1), .int (-1), .int (-1), .int (-1), .int (-1), .int (-1), .int (-1), .int (-1), .int (-1), .int (-1), .int (-1), .int (-1), .int (-1), .int (-1), .int (-1), .int (-1), .int (-1), .int (-1), .int (-1), .int (-1), .int (-1), .int (-1), .int (-1), .int (-1), .int (-1), .int (-1), .int (-1), .int (-1), .int (-1), .int (-1), .int (-1), .int (-1), .int (-1), .int (-1), .int (-1), .int (-1), .int (-1), .int (-1), .int (-1), .int (-1), .int (-1), .int (-1), .int (-1), .int (-1), .int (-1), .int (-1), .int (-1), .int (-1), .int (-1), .int (-1), .int (-1), .int (-1), .int (-1), .int (-1), .int (-1), .int (-1), .int (-1), .int (-1), .int (-1), .int (-1), .int (-1), .int (-1), .int (-1), .int (-1), .int (-1), .int (-1), .int (-1), .int (-1), .int (-1), .int (-1), .int (-1), .int (-1), .int (-1), .int (-1), .int (-1), .int (-1), .int (-1), .int (-1), .int (-1), .int (-1), .int (-1), .int (-1), .int (-1), .int (-1), .int (-1), .int (-1), .int (-1), .int (-1), .int (-1), .int (-1), .int (-1), .int (-1), .int (-1), .int (-1), .int (-1), .int (-1), .int (-1), .int (-1), .int (-1), .int (-1), .int (-1), .int (-1), .int (-1), .int (-1), .int (-1), .int (-1), .int (-1), .int (-1), .int (-1), .int (-1), .int (-1), .int (-1), .int (-1), .int (-1), .int (-1), .int (-1), .int (-1), .int (-1), .int (-1), .int (-1), .int (-1), .int (-1), .int (-1), .int (-1), .int (-1), .int (-1), .int (-1), .int (-1), .int (-1), .int (-1), .int (-1), .int (-1), .int (-1), .int (-1), .int (-1), .int (-1), .int (-1), .int (-1), .int (-1), .int (-1), .int (-1), .int (-1), .int (-1), .int (-1), .int (-1), .int (-1), .int (-1), .int (-1), .int (-1), .int (-1), .int (-1), .int (-1), .int (-1), .int (-1), .int (-1), .int (-1), .int (-1), .int (-1), .int (-1), .int (-1), .int (-1), .int (-1), .int (-1), .int (-1), .int (-1), .int (-1), .int (-1), .int (-1), .int (-1), .int (-1), .int (-1), .int (-1), .int (-1), .int (-1), .int (-1), .int (-1), .int (-1), .int (-1), .int (-1), .int (-1), .int (-1), .int (-1), .int (-1), .int (-1), .int (-1), .int (-1), .int (-1), .int (-1), .int (-1), .int (-1), .int (-1), .int (-1), .int (-1), .int (-1), .int (-1), .int (-1), .int (-1), .int (-1), .int (-1), .int (-1), .int (-1), .int (-1), .int (-1), .int (-1), .int (-1), .int (-1), .int (-1), .int (-1), .int (-1), .int (-1), .int (-1), .int (-1), .int (-1), .int (-1), .int (-1), .int (-1), .int (-1)], vm := .none },
  { cls := 5, slots := #[.ref 38, .ref 39, .int 0, .int 0], vm := .none },
  { cls := 20, slots := #[.int 0, .int 0, .int 0, .int 0, .int 0, .int 0, .int 0, .int 0, .int 0, .int 0, .int 0, .int 0], vm := .none },
  { cls := 20, slots := #[.int 0, .int 0, .int 0, .int 0, .int 0, .int 0, .int 0, .int 0, .int 0, .int 0, .int 0, .int 0], vm := .none },
  { cls := 6, slots := #[.ref 31, .ref 37, .ref 41, .ref 42, .ref 43, .ref 44, .int 0, .int 0, .int 1, .int 1], vm := .none },
  { cls := 20, slots := #[.int 0, .int 0, .int 0, .int 0, .int 0, .int 0, .int 0, .int 0, .int 0, .int 0, .int 0, .int 0], vm := .none },
  { cls := 20, slots := #[.int 0, .int 0, .int 0, .int 0, .int 0, .int 0, .int 0, .int 0, .int 0, .int 0, .int 0, .int 0], vm := .none },
  { cls := 20, slots := #[.int 0, .int 0, .int 0, .int 0, .int 0, .int 0, .int 0, .int 0, .int 0, .int 0, .int 0, .int 0, .int 0, .int 0, .int 0, .int 0, .int 0, .int 0, .int 0, .int 0, .int 0, .int 0, .int 0, .int 0, .int 0, .int 0, .int 0, .int 0, .int 0, .int 0, .int 0, .int 0, .int 0, .int 0, .int 0, .int 0, .int 0, .int 0, .int 0, .int 0, .int 0, .int 0, .int 0, .int 0, .int 0, .int 0, .int 0, .int 0], vm := .none },
  { cls := 20, slots := #[.int 0, .int 0, .int 0, .int 0, .int 0, .int 0, .int 0, .int 0, .int 0, .int 0, .int 0, .int 0], vm := .none },
  { cls := 7, slots := #[.ref 31, .ref 37, .ref 40, .ref 46, .ref 47, .ref 48, .int 0], vm := .none },
  { cls := 20, slots := #[.int 0, .int 0, .int 0, .int 0, .int 0, .int 0, .int 0, .int 0, .int 0, .int 0, .int 0, .int 0], vm := .none },
  { cls := 20, slots := #[.int 0, .int 0, .int 0, .int 0, .int 0, .int 0, .int 0, .int 0, .int 0, .int 0, .int 0, .int 0], vm := .none },
  { cls := 22, slots := #[.int 0, .int 0, .int 0, .int 0, .int 0, .int 0, .int 0, .int 0, .int 0, .int 0, .int 0, .int 0], vm := .none },
  { cls := 7, slots := #[.ref 31, .ref 37, .ref 40, .ref 50, .ref 51, .ref 52, .int 0], vm := .none },
  { cls := 20, slots := #[.int 0, .int 0, .int 0, .int 0, .int 0, .int 0, .int 0, .int 0, .int 0, .int 0, .int 0, .int 0], vm := .none },
  { cls := 20, slots := #[.int 0, .int 0, .int 0, .int 0, .int 0, .int 0, .int 0, .int 0, .int 0, .int 0, .int 0, .int 0], vm := .none },
  { cls := 22, slots := #[.int 0, .int 0, .int 0, .int 0, .int 0, .int 0, .int 0, .int 0, .int 0, .int 0, .int 0, .int 0], vm := .none },
  { cls := 20, slots := #[.int 0, .int 0, .int 0, .int 0, .int 0, .int 0, .int 0, .int 0, .int 0, .int 0, .int 0, .int 0], vm := .none },
  { cls := 20, slots := #[.int 0, .int 0, .int 0, .int 0, .int 0, .int 0, .int 0, .int 0, .int 0, .int 0, .int 0, .int 0, .int 0, .int 0, .int 0, .int 0, .int 0, .int 0, .int 0, .int 0, .int 0, .int 0, .int 0, .int 0, .int 0, .int 0, .int 0, .int 0, .int 0, .int 0, .int 0, .int 0, .int 0, .int 0, .int 0, .int 0, .int 0, .int 0, .int 0, .int 0, .int 0, .int 0, .int 0, .int 0, .int 0, .int 0, .int 0, .int 0, .int 0, .int 0, .int 0, .int 0, .int 0, .int 0, .int 0, .int 0, .int 0, .int 0, .int 0, .int 0], vm := .none },
  { cls := 20, slots := #[.int 0, .int 0, .int 0, .int 0, .int 0, .int 0], vm := .none },
  { cls := 20, slots := #[.int 0, .int 0, .int 0, .int 0, .int 0, .int 0], vm := .none },
  { cls := 20, slots := #[.int 0, .int 0, .int 0, .int 0, .int 0, .int 0], vm := .none },
  { cls := 20, slots := #[.int 0, .int 0, .int 0, .int 0, .int 0, .int 0], vm := .none },
  { cls := 20, slots := #[.int 0, .int 0, .int 0, .int 0, .int 0, .int 0], vm := .none },
  { cls := 20, slots := #[.int 0, .int 0, .int 0, .int 0, .int 0, .int 0], vm := .none },
  { cls := 20, slots := #[.int 0, .int 0, .int 0, .int 0, .int 0, .int 0, .int 0, .int 0], vm := .none },
  { cls := 15, slots := #[.null, .ref 16, .ref 62, .null, .int 0, .null], vm := .none },
  { cls := 15, slots := #[.null, .ref 16, .ref 63, .null, .int 0, .null], vm := .none },
  { cls := 17, slots := #[.null, .ref 12, .ref 64, .null, .int 0, .null], vm := .none },
  { cls := 15, slots := #[.null, .ref 16, .ref 65, .null, .int 0, .null], vm := .none },
  { cls := 15, slots := #[.null, .ref 16, .ref 66, .null, .int 0, .null], vm := .none },
  { cls := 15, slots := #[.null, .ref 16, .ref 67, .null, .int 0, .null], vm := .none },
  { cls := 17, slots := #[.null, .ref 12, .ref 68, .null, .int 0, .null], vm := .none },
  { cls := 17, slots := #[.null, .ref 12, .ref 69, .null, .int 0, .null], vm := .none },
  { cls := 17, slots := #[.null, .ref 26, .ref 70, .null, .int 0, .null], vm := .none },
  { cls := 17, slots := #[.null, .ref 12, .ref 71, .null, .int 0, .null], vm := .none },
  { cls := 15, slots := #[.null, .ref 16, .ref 72, .null, .int 0, .null], vm := .none }]
def zr_f8 : List Frame := [.java { method := ⟨0, 22⟩, pc := 226, locals := #[.val (.int 14), .val (.int 0), .val (.ref 53), .val (.ref 54), .val (.ref 55), .val (.ref 56), .val (.ref 58), .val (.ref 59), .val (.ref 60), .val (.ref 61), .val (.int 2), .val (.int 0), .unset], stack := [], locked := none },
  .java { method := ⟨0, 25⟩, pc := 68, locals := #[.val (.ref 30), .val (.int 0), .val (.int 0), .val (.ref 53), .val (.ref 54), .val (.ref 55), .val (.ref 56), .val (.ref 58), .val (.ref 59), .val (.ref 60), .val (.ref 61), .val (.int 0), .val (.int 0), .val (.int 0), .val (.int (-74)), .val (.int 0), .val (.int 0), .val (.int 14), .val (.int 0), .val (.long 0), .second, .val (.long 0), .second, .val (.int 0)], stack := [], locked := none },
  .java { method := ⟨0, 24⟩, pc := 582, locals := #[.val (.ref 30), .val (.int 0), .val (.int 1), .val (.ref 53), .val (.ref 54), .val (.ref 55), .val (.ref 56), .val (.ref 57), .val (.ref 58), .val (.ref 59), .val (.ref 60), .val (.ref 61), .val (.int 0), .val (.int 0), .val (.int 0), .val (.int 0), .val (.int 0)], stack := [], locked := none },
  .java { method := ⟨0, 0⟩, pc := 79, locals := #[.val (.ref 0), .val (.ref 30), .val (.ref 53), .val (.ref 54), .val (.ref 55), .val (.ref 56), .val (.ref 57), .val (.ref 58), .val (.ref 59), .val (.ref 60), .val (.ref 61), .unset, .unset, .unset], stack := [], locked := none },
  .native { method := ⟨0, 0⟩, args := #[] }]
def zr_u8 : Nat := 1686
def zr_w8 : State := stepsAlone start1.p0.tables start1.e0 2300 (zr_mk zr_w7 zr_h7 zr_f7 zr_u7)
set_option maxRecDepth 16384 in
theorem zr_s8 : zr_run start1.p0.tables start1.e0 (zr_same zr_h8 zr_f8 zr_u8) 2300 (zr_mk zr_w7 zr_h7 zr_f7 zr_u7) = true := by decide +kernel
end
section
def zr_h9 : List Cell := [{ cls := 2, slots := #[.ref 31, .ref 37, .ref 40, .ref 45, .ref 49], vm := .none },
  { cls := 3, slots := #[.ref 32, .ref 33, .ref 34, .ref 35, .ref 36, .int 0], vm := .none },
  { cls := 20, slots := #[.int 0, .int 0, .int 0, .int 0], vm := .none },
  { cls := 20, slots := #[.int (-1), .int (-1), .int (-1), .int (-1), .int (-1), .int (-1), .int (-1), .int (-1), .int (-1), .int (-1), .int (-1), .int (-1), .int (-1), .int (-1), .int (-1), .int (-1), .int (-1), .int (-1), .int (-1), .int (-1), .int (-1), .int (-1), .int (-1), .int (-1), .int (-1), .int (-1), .int (-1), .int (-1), .int (-1), .int (-1), .int (-1), .int (-1)], vm := .none },
  { cls := 22, slots := #[.int 0, .int 0, .int 0, .int 0, .int 0, .int 0, .int 0, .int 0, .int 0, .int 0, .int 0, .int 0, .int 0, .int 0, .int 0, .int 0, .int 0, .int 0, .int 0, .int 0, .int 0, .int 0, .int 0, .int 0, .int 0, .int 0, .int 0, .int 0, .int 0, .int 0, .int 0, .int 0], vm := .none },
  { cls := 20, slots := #[.int 0, .int 0, .int 0, .int 0, .int 0, .int 0, .int 0, .int 0, .int 0, .int 0, .int 0, .int 0, .int 0, .int 0, .int 0, .int 0, .int 0, .int 0, .int 0, .int 0, .int 0, .int 0, .int 0, .int 0, .int 0, .int 0, .int 0, .int 0, .int 0, .int 0, .int 0, .int 0], vm := .none },
  { cls := 20, slots := #[.int (-1), .int (-1), .int (-1), .int (-1), .int (-1), .int (-1), .int (-1), .int (-1), .int (-1), .int (-1), .int (-1), .int (-1), .int (-1), .int (-1), .int (-1), .int (-1), .int (-1), .int (-1), .int (-1), .int (-1), .int (-1), .int (-1), .int (-1), .int (-1), .int (-1), .int (-1), .int (-1), .int (-1), .int (-1), .int (-1), .int (-1), .int (-1), .int (-1), .int (-1), .int (-1), .int (-1), .int (-1), .int (-1), .int (-1), .int (-1), .int (-1), .int (-1), .int (-1), .int (-1), .int (-1), .int (-1), .int (-1), .int (-1), .int (-1), .int (-1), .int (-1), .int (-1), .int (-1), .int (-1), .int (-1), .int (-1), .int (-1), .int (-1), .int (-1), .int (-1), .int (-1), .int (-1), .int (-1), .int (-1), .int (-1), .int (-1), .int (-1), .int (-1), .int (-1), .int (-1), .int (-1), .int (-1), .int (-1), .int (-1), .int (-1), .int (-1), .int (-1), .int (-1), .int (-1), .int (-1), .int (-1), .int (-1), .int (-1), .int (-1), .int (-1), .int (-1), .int (-1), .int (-1), .int (-1), .int (-1), .int (-1), .int (-1), .int (-1), .int (-1), .int (-1), .int (-1), .int (-1), .int (-1), .int (-1), .int (-1), .int (-1), .int (-1), .int (-1), .int (-1), .int (-1), .int (-1), .int (-1), .int (-1), .int (-1), .int (-1), .int (-1), .int (-1), .int (-1), .int (-1), .int (-1), .int (-1), .int (-1), .int (-1), .int (-1), .int (-1), .int (-1), .int (-1), .int (-1), .int (-1), .int (-1), .int (-1), .int (-1), .int (-1), .int (-1), .int (-1), .int (-1), .int (-1), .int (-1), .int (-1), .int (-1), .int (-1), .int (-1), .int (-1), .int (-1), .int (-1), .int (-1), .int (-1), .int (-1), .int (-1), .int (-1), .int (-1), .int (-1), .int (-1), .int (-1), .int (-1), .int (-1), .int (-1), .int (-1), .int (-1), .int (-1), .int (-1), .int (-1), .int (-1), .int (-1), .int (-1), .int (-1), .int (-1), .int (-1), .int (-1), .int (-1), .int (-1), .int (-1), .int (-1), .int (-1), .int (-1), .int (-1), .int (-1), .int (-1), .int (-1), .int (-1), .int (-1), .int (-1), .int (-1), .int (-1), .int (-1), .int (-1), .int (-1), .int (-1), .int (-1), .int (-1), .int (-1), .int (-1), .int (-1), .int (-1), .int (-1), .int (-1), .int (-1), .int (-1), .int (-1), .int (-1), .int (-1), .int (-1), .int (-1), .int (-1), .int (-1), .int (-1), .int (-1), .int (-1), .int (-1), .int (-1), .int (-1), .int (-1), .int (-1), .int (-1), .int (-1), .int (-1), .int (-1), .int (-1), .int (-1), .int (-1), .int (-1), .int (-1), .int (-1), .int (-1), .int (-1), .int (-1), .int (-1), .int (-1), .int (-1), .int (-1), .int (-1), .int (-1), .int (-1), .int (-1), .int (-1), .int (-1), .int (-1), .int (-1), .int (-1), .int (-1), .int (-1), .int (-1), .int (-1), .int (-1), .int (-1), .int (-1), .int (-1), .int (-1), .int (-1), .int (-1), .int (-1), .int (-1), .int (-1), .int (-1), .int (-1), .int (-1), .int (-1), .int (-1), .int (-1), .int (-1), .int (-1), .int (-1), .int (-1), .int (-1), .int (-1), .int (-1), .int (-1), .int (-1), .int (-1), .int (-1), .int (-1), .int (-1), .int (-1), .int (-1), .int (-1), .int (-1), .int (-1), .int (-1), .int (-1), .int (-1), .int (-1), .int (-1), .int (-1), .int (-1), .int (-1), .int (-1), .int (-1), .int (-1), .int (-1), .int (-1), .int (-1), .int (-1), .int (-1), .int (-1), .int (-1), .int (-1), .int (-1), .int (-1), .int (-1), .int (-1), .int (-1), .int (-1), .int (-1), .int (-1), .int (-1), .int (-1), .int (-1), .int (-1), .int (-1), .int (-1), .int (-1), .int (-1), .int (-1), .int (-1), .int (-1), .int (-1), .int (-1), .int (-1), .int (-1), .int (-1), .int (-1), .int (-1), .int (-1), .int (-1), .int (-1), .int (-1), .int (-1), .int (-1), .int (-1), .int (-1), .int (-1), .int (-1), .int (-1), .int (-1), .int (-1), .int (-1), .int (-1), .int (-1), .int (-1), .int (-1), .int (-1), .int (-1), .int (-1), .int (-1), .int (-1), .int (-1), .int (-1), .int (-1), .int (-1), .int (-1), .int (-1), .int (-1), .int (-1), .int (-1), .int (-1), .int (-1), .int (-1), .int (-1), .int (-1), .int (-1), .int (-1), .int (-1), .int (-1), .int (-1), .int (-1), .int (-1), .int (-1), .int (-1), .int (-1), .int (-1), .int (-1), .int (-1), .int (-1), .int (-1), .int (-1), .int (-1), .int (-1), .int (-1), .int (-1), .int (-1), .int (-1), .int (-1), .int (-1), .int (-1), .int (-1), .int (-1), .int (-1), .int (-1), .int (-1), .int (-1), .int (-1), .int (-1), .int (-1), .int (-1), .int (-1), .int (-1), .int (-1), .int (-1), .int (-1), .int (-1), .int (-1), .int (-1), .int (-1), .int (-1), .int (-1), .int (-1), .int (-1), .int (-1), .int (-1), .int (-1), .int (-1), .int (-1), .int (-1), .int (-1), .int (-1), .int (-1), .int (-1), .int (-1), .int (-1), .int (-1), .int (-1), .int (-1), .int (-1), .int (-1), .int (-1), .int (-1), .int (-1), .int (-1), .int (-1), .int (-1), .int (-1), .int (-1), .int (-1), .int (-1), .int (-1), .int (-1), .int (-1), .int (-1), .int (-1), .int (-1), .int (-1), .int (-1), .int (-1), .int (-1), .int (-1), .int (-1), .int (-1), .int (-1), .int (-1), .int (-1), .int (-1), .int (-1), .int (-1), .int (-1), .int (-1), .int (-1), .int (-1), .int (-1), .int (-1), .int (-1), .int (-1), .int (-1), .int (-1), .int (-1), .int (-1), .int (-1), .int (-1), .int (-1), .int (-1), .int (-1), .int (-1), .int (-1), .int (-1), .int (-1), .int (-1), .int (-1), .int (-1), .int (-1), .int (-1), .int (-1), .int (-1), .int (-1), .int (-1), .int (-1), .int (-1), .int (-1), .int (-1), .int (-1), .int (-1), .int (-1), .int (-1), .int (-1), .int (-1), .int (-1), .int (-1), .int (-1), .int (-1), .int (-1), .int (-1), .int (-1), .int (-1), .int (-1), .int (-1), .int (-1), .int (-1), .int (-1), .int (-1), .int (-1), .int (-1), .int (-1), .int (-1), .int (-1), .int (-1), .int (-1), .int (-1), .int (-1), .int (-1), .int (-1), .int (-1), .int (-1), .int (-1), .int (-1), .int (-1), .int (-1), .int (-1), .int (-1), .int (-1), .int (-1), .int (-1), .int (-1), .int (-1), .int (-1), .int (-1), .int (-1), .int (-1), .int (-1), .int (-1), .int (-1), .int (-1), .int (-1), .int (-1), .int (-1), .int (-1), .int (-1), .int (-1), .int (-1), .int (-1), .int (-1), .int (-1), .int (-1), .int (-1), .int (-1), .int (-1), .int (-1), .int (-1), .int (-1), .int (-1), .int (-1), .int (-1), .int (-1), .int (-1), .int (-1), .int (-1), .int (-1), .int (-1), .int (-1), .int (-1), .int (-1), .int (-1), .int (-1), .int (-1), .int (-1), .int (-1), .int (-1), .int (-1), .int (-1), .int (-1), .int (-1), .int (-1), .int (-1), .int (-1), .int (-1), .int (-1), .int (-1), .int (-1), .int (-1), .int (-1), .int (-1), .int (-1), .int (-1), .int (-1), .int (-1), .int (-1), .int (-1), .int (-1), .int (-1), .int (-1), .int (-1), .int (-1), .int (-1), .int (-1), .int (-1), .int (-1), .int (-1), .int (-1), .int (-1), .int (-1), .int (-1), .int (-1), .int (-1), .int (-1), .int (-1), .int (-1), .int (-1), .int (-1), .int (-1), .int (-1), .int (-1), .int (-1), .int (-1), .int (-1), .int (-1), .int (-1), .int (-1), .int (-1), .int (-1), .int (-1), .int (-1), .int (-1), .int (-1), .int (-1), .int (-1), .int (-1), .int (-1), .int (-1), .int (-1), .int (-1), .int (-1), .int (-1), .int (-1), .int (-1), .int (-1), .int (-1), .int (-1), .int (-1)], vm := .none },
  { cls := 5, slots := #[.ref 38, .ref 39, .int 0, .int 0], vm := .none },
  { cls := 20, slots := #[.int 0, .int 0, .int 0, .int 0, .int 0, .int 0, .int 0, .int 0, .int 0, .int 0, .int 0, .int 0], vm := .none },
  { cls := 20, slots := #[.int 0, .int 0, .int 0, .int 0, .int 0, .int 0, .int 0, .int 0, .int 0, .int 0, .int 0, .int 0], vm := .none },
  { cls := 6, slots := #[.ref 31, .ref 37, .ref 41, .ref 42, .ref 43, .ref 44, .int 0, .int 0, .int 1, .int 1], vm := .none },
  { cls := 20, slots := #[.int 0, .int 0, .int 0, .int 0, .int 0, .int 0, .int 0, .int 0, .int 0, .int 0, .int 0, .int 0], vm := .none },
  { cls := 20, slots := #[.int 0, .int 0, .int 0, .int 0, .int 0, .int 0, .int 0, .int 0, .int 0, .int 0, .int 0, .int 0], vm := .none },
  { cls := 20, slots := #[.int 0, .int 0, .int 0, .int 0, .int 0, .int 0, .int 0, .int 0, .int 0, .int 0, .int 0, .int 0, .int 0, .int 0, .int 0, .int 0, .int 0, .int 0, .int 0, .int 0, .int 0, .int 0, .int 0, .int 0, .int 0, .int 0, .int 0, .int 0, .int 0, .int 0, .int 0, .int 0, .int 0, .int 0, .int 0, .int 0, .int 0, .int 0, .int 0, .int 0, .int 0, .int 0, .int 0, .int 0, .int 0, .int 0, .int 0, .int 0], vm := .none },
  { cls := 20, slots := #[.int 0, .int 0, .int 0, .int 0, .int 0, .int 0, .int 0, .int 0, .int 0, .int 0, .int 0, .int 0], vm := .none },
  { cls := 7, slots := #[.ref 31, .ref 37, .ref 40, .ref 46, .ref 47, .ref 48, .int 0], vm := .none },
  { cls := 20, slots := #[.int 0, .int 0, .int 0, .int 0, .int 0, .int 0, .int 0, .int 0, .int 0, .int 0, .int 0, .int 0], vm := .none },
  { cls := 20, slots := #[.int 0, .int 0, .int 0, .int 0, .int 0, .int 0, .int 0, .int 0, .int 0, .int 0, .int 0, .int 0], vm := .none },
  { cls := 22, slots := #[.int 0, .int 0, .int 0, .int 0, .int 0, .int 0, .int 0, .int 0, .int 0, .int 0, .int 0, .int 0], vm := .none },
  { cls := 7, slots := #[.ref 31, .ref 37, .ref 40, .ref 50, .ref 51, .ref 52, .int 0], vm := .none },
  { cls := 20, slots := #[.int 0, .int 0, .int 0, .int 0, .int 0, .int 0, .int 0, .int 0, .int 0, .int 0, .int 0, .int 0], vm := .none },
  { cls := 20, slots := #[.int 0, .int 0, .int 0, .int 0, .int 0, .int 0, .int 0, .int 0, .int 0, .int 0, .int 0, .int 0], vm := .none },
  { cls := 22, slots := #[.int 0, .int 0, .int 0, .int 0, .int 0, .int 0, .int 0, .int 0, .int 0, .int 0, .int 0, .int 0], vm := .none },
  { cls := 20, slots := #[.int 0, .int 0, .int 0, .int 0, .int 0, .int 0, .int 0, .int 0, .int 0, .int 0, .int 0, .int 0], vm := .none },
  { cls := 20, slots := #[.int 0, .int 0, .int 0, .int 0, .int 0, .int 0, .int 0, .int 0, .int 0, .int 0, .int 0, .int 0, .int 0, .int 0, .int 0, .int 0, .int 0, .int 0, .int 0, .int 0, .int 0, .int 0, .int 0, .int 0, .int 0, .int 0, .int 0, .int 0, .int 0, .int 0, .int 0, .int 0, .int 0, .int 0, .int 0, .int 0, .int 0, .int 0, .int 0, .int 0, .int 0, .int 0, .int 0, .int 0, .int 0, .int 0, .int 0, .int 0, .int 0, .int 0, .int 0, .int 0, .int 0, .int 0, .int 0, .int 0, .int 0, .int 0, .int 0, .int 0], vm := .none },
  { cls := 20, slots := #[.int 0, .int 0, .int 0, .int 0, .int 0, .int 0], vm := .none },
  { cls := 20, slots := #[.int 0, .int 0, .int 0, .int 0, .int 0, .int 0], vm := .none },
  { cls := 20, slots := #[.int 0, .int 0, .int 0, .int 0, .int 0, .int 0], vm := .none },
  { cls := 20, slots := #[.int 0, .int 0, .int 0, .int 0, .int 0, .int 0], vm := .none },
  { cls := 20, slots := #[.int 0, .int 0, .int 0, .int 0, .int 0, .int 0], vm := .none },
  { cls := 20, slots := #[.int 0, .int 0, .int 0, .int 0, .int 0, .int 0], vm := .none },
  { cls := 20, slots := #[.int 0, .int 0, .int 0, .int 0, .int 0, .int 0, .int 0, .int 0], vm := .none },
  { cls := 15, slots := #[.null, .ref 16, .ref 62, .null, .int 0, .null], vm := .none },
  { cls := 15, slots := #[.null, .ref 16, .ref 63, .null, .int 0, .null], vm := .none },
  { cls := 17, slots := #[.null, .ref 12, .ref 64, .null, .int 0, .null], vm := .none },
  { cls := 15, slots := #[.null, .ref 16, .ref 65, .null, .int 0, .null], vm := .none },
  { cls := 15, slots := #[.null, .ref 16, .ref 66, .null, .int 0, .null], vm := .none },
  { cls := 15, slots := #[.null, .ref 16, .ref 67, .null, .int 0, .null], vm := .none },
  { cls := 17, slots := #[.null, .ref 12, .ref 68, .null, .int 0, .null], vm := .none },
  { cls := 17, slots := #[.null, .ref 12, .ref 69, .null, .int 0, .null], vm := .none },
  { cls := 17, slots := #[.null, .ref 26, .ref 70, .null, .int 0, .null], vm := .none },
  { cls := 17, slots := #[.null, .ref 12, .ref 71, .null, .int 0, .null], vm := .none },
  { cls := 15, slots := #[.null, .ref 16, .ref 72, .null, .int 0, .null], vm := .none }]
def zr_f9 : List Frame := [.java { method := ⟨7, 5⟩, pc := 0, locals := #[.val (.ref 45), .val (.ref 49), .unset, .unset], stack := [], locked := none },
  .java { method := ⟨2, 16⟩, pc := 46, locals := #[.val (.ref 30), .val (.int 0), .val (.int 1)], stack := [], locked := none },
  .java { method := ⟨0, 17⟩, pc := 1, locals := #[.val (.ref 30), .unset, .unset], stack := [], locked := none },
  .java { method := ⟨0, 25⟩, pc := 347, locals := #[.val (.ref 30), .val (.int 0), .val (.int 0), .val (.ref 53), .val (.ref 54), .val (.ref 55), .val (.ref 56), .val (.ref 58), .val (.ref 59), .val (.ref 60), .val (.ref 61), .val (.int 0), .val (.int 0), .val (.int 0), .val (.int (-74)), .val (.int 0), .val (.int 0), .val (.int 0), .val (.int 1), .val (.long 0), .second, .val (.long 0), .second, .val (.int 0)], stack := [], locked := none },
  .java { method := ⟨0, 24⟩, pc := 582, locals := #[.val (.ref 30), .val (.int 0), .val (.int 1), .val (.ref 53), .val (.ref 54), .val (.ref 55), .val (.ref 56), .val (.ref 57), .val (.ref 58), .val (.ref 59), .val (.ref 60), .val (.ref 61), .val (.int 0), .val (.int 0), .val (.int 0), .val (.int 0), .val (.int 0)], stack := [], locked := none },
  .java { method := ⟨0, 0⟩, pc := 79, locals := #[.val (.ref 0), .val (.ref 30), .val (.ref 53), .val (.ref 54), .val (.ref 55), .val (.ref 56), .val (.ref 57), .val (.ref 58), .val (.ref 59), .val (.ref 60), .val (.ref 61), .unset, .unset, .unset], stack := [], locked := none },
  .native { method := ⟨0, 0⟩, args := #[] }]
def zr_u9 : Nat := 1686
def zr_w9 : State := stepsAlone start1.p0.tables start1.e0 1834 (zr_mk zr_w8 zr_h8 zr_f8 zr_u8)
set_option maxRecDepth 16384 in
theorem zr_s9 : zr_run start1.p0.tables start1.e0 (zr_same zr_h9 zr_f9 zr_u9) 1834 (zr_mk zr_w8 zr_h8 zr_f8 zr_u8) = true := by decide +kernel
end
section
def zr_h10 : List Cell := [{ cls := 2, slots := #[.ref 31, .ref 37, .ref 40, .ref 45, .ref 49], vm := .none },
  { cls := 3, slots := #[.ref 32, .ref 33, .ref 34, .ref 35, .ref 36, .int 0], vm := .none },
  { cls := 20, slots := #[.int 0, .int 0, .int 0, .int 0], vm := .none },
  { cls := 20, slots := #[.int (-1), .int (-1), .int (-1), .int (-1), .int (-1), .int (-1), .int (-1), .int (-1), .int (-1), .int (-1), .int (-1), .int (-1), .int (-1), .int (-1), .int (-1), .int (-1), .int (-1), .int (-1), .int (-1), .int (-1), .int (-1), .int (-1), .int (-1), .int (-1), .int (-1), .int (-1), .int (-1), .int (-1), .int (-1), .int (-1), .int (-1), .int (-1)], vm := .none },
  { cls := 22, slots := #[.int 0, .int 0, .int 0, .int 0, .int 0, .int 0, .int 0, .int 0, .int 0, .int 0, .int 0, .int 0, .int 0, .int 0, .int 0, .int 0, .int 0, .int 0, .int 0, .int 0, .int 0, .int 0, .int 0, .int 0, .int 0, .int 0, .int 0, .int 0, .int 0, .int 0, .int 0, .int 0], vm := .none },
  { cls := 20, slots := #[.int 0, .int 0, .int 0, .int 0, .int 0, .int 0, .int 0, .int 0, .int 0, .int 0, .int 0, .int 0, .int 0, .int 0, .int 0, .int 0, .int 0, .int 0, .int 0, .int 0, .int 0, .int 0, .int 0, .int 0, .int 0, .int 0, .int 0, .int 0, .int 0, .int 0, .int 0, .int 0], vm := .none },
  { cls := 20, slots := #[.int (-1), .int (-1), .int (-1), .int (-1), .int (-1), .int (-1), .int (-1), .int (-1), .int (-1), .int (-1), .int (-1), .int (-1), .int (-1), .int (-1), .int (-1), .int (-1), .int (-1), .int (-1), .int (-1), .int (-1), .int (-1), .int (-1), .int (-1), .int (-1), .int (-1), .int (-1), .int (-1), .int (-1), .int (-1), .int (-1), .int (-1), .int (-1), .int (-1), .int (-1), .int (-1), .int (-1), .int (-1), .int (-1), .int (-1), .int (-1), .int (-1), .int (-1), .int (-1), .int (-1), .int (-1), .int (-1), .int (-1), .int (-1), .int (-1), .int (-1), .int (-1), .int (-1), .int (-1), .int (-1), .int (-1), .int (-1), .int (-1), .int (-1), .int (-1), .int (-1), .int (-1), .int (-1), .int (-1), .int (-1), .int (-1), .int (-1), .int (-1), .int (-1), .int (-1), .int (-1), .int (-1), .int (-1), .int (-1), .int (-1), .int (-1), .int (-1), .int (-1), .int (-1), .int (-1), .int (-1), .int (-1), .int (-1), .int (-1), .int (-1), .int (-1), .int (-1), .int (-1), .int (-1), .int (-1), .int (-1), .int (-1), .int (-1), .int (-1), .int (-1), .int (-1), .int (-1), .int (-1), .int (-1), .int (-1), .int (-1), .int (-1), .int (-1), .int (-1), .int (-1), .int (-1), .int (-1), .int (-1), .int (-1), .int (-1), .int (-1), .int (-1), .int (-1), .int (-1), .int (-1), .int (-1), .int (-1), .int (-1), .int (-1), .int (-1), .int (-1), .int (-1), .int (-1), .int (-1), .int (-1), .int (-1), .int (-1), .int (-1), .int (-1), .int (-1), .int (-1), .int (-1), .int (-1), .int (-1), .int (-1), .int (-1), .int (-1), .int (-1), .int (-1), .int (-1), .int (-1), .int (-1), .int (-1), .int (-1), .int (-1), .int (-1), .int (-1), .int (-1), .int (-1), .int (-1), .int (-1), .int (-1), .int (-1), .int (-1), .int (-1), .int (-1), .int (-1), .int (-1), .int (-1), .int (-1), .int (-1), .int (-1), .int (-1), .int (-1), .int (-1), .int (-1), .int (-1), .int (-1), .int (-1), .int (-1), .int (-1), .int (-1), .int (-1), .int (-1), .int (-1), .int (-1), .int (-1), .int (-1), .int (-1), .int (-1), .int (-1), .int (-1), .int (-1), .int (-1), .int (-1), .int (-1), .int (-1), .int (-1), .int (-1), .int (-1), .int (-1), .int (-1), .int (-1), .int (-1), .int (-1), .int (-1), .int (-1), .int (-1), .int (-1), .int (-1), .int (-1), .int (-1), .int (-1), .int (-1), .int (-1), .int (-1), .int (-1), .int (-1), .int (-1), .int (-1), .int (-1), .int (-1), .int (-1), .int (-1), .int (-1), .int (-1), .int (-1), .int (-1), .int (-1), .int (-1), .int (-1), .int (-1), .int (-1), .int (-1), .int (-1), .int (-1), .int (-1), .int (-1), .int (-1), .int (-1), .int (-1), .int (-1), .int (-1), .int (-1), .int (-1), .int (-1), .int (-1), .int (-1), .int (-1), .int (-1), .int (-1), .int (-1), .int (-1), .int (-1), .int (-1), .int (-1), .int (-1), .int (-1), .int (-1), .int (-1), .int (-1), .int (-1), .int (-1), .int (-1), .int (-1), .int (-1), .int (-1), .int (-1), .int (-1), .int (-1), .int (-1), .int (-1), .int (-1), .int (-1), .int (-1), .int (-1), .int (-1), .int (-1), .int (-1), .int (-1), .int (-1), .int (-1), .int (-1), .int (-1), .int (-1), .int (-1), .int (-1), .int (-1), .int (-1), .int (-1), .int (-1), .int (-1), .int (-1), .int (-1), .int (-1), .int (-1), .int (-1), .int (-1), .int (-1), .int (-1), .int (-1), .int (-1), .int (-1), .int (-1), .int (-1), .int (-1), .int (-1), .int (-1), .int (-1), .int (-1), .int (-1), .int (-1), .int (-1), .int (-1), .int (-1), .int (-1), .int (-1), .int (-1), .int (-1), .int (-1), .int (-1), .int (-1), .int (-1), .int (-1), .int (-1), .int (-1), .int (-1), .int (-1), .int (-1), .int (-1), .int (-1), .int (-1), .int (-1), .int (-1), .int (-1), .int (-1), .int (-1), .int (-1), .int (-1), .int (-1), .int (-1), .int (-1), .int (-1), .int (-1), .int (-1), .int (-1), .int (-1), .int (-1), .int (-1), .int (-1), .int (-1), .int (-1), .int (-1), .int (-1), .int (-1), .int (-1), .int (-1), .int (-1), .int (-1), .int (-1), .int (-1), .int (-1), .int (-1), .int (-1), .int (-1), .int (-1), .int (-1), .int (-1), .int (-1), .int (-1), .int (-1), .int (-1), .int (-1), .int (-1), .int (-1), .int (-1), .int (-1), .int (-1), .int (-1), .int (-1), .int (-1), .int (-1), .int (-1), .int (-1), .int (-1), .int (-1), .int (-1), .int (-1), .int (-1), .int (-1), .int (-1), .int (-1), .int (-1), .int (-1), .int (-1), .int (-1), .int (-1), .int (-1), .int (-1), .int (-1), .int (-1), .int (-1), .int (-1), .int (-1), .int (-1), .int (-1), .int (-1), .int (-1), .int (-1), .int (-1), .int (-1), .int (-1), .int (-1), .int (-1), .int (-1), .int (-1), .int (-1), .int (-1), .int (-1), .int (-1), .int (-1), .int (-1), .int (-1), .int (-1), .int (-1), .int (-1), .int (-1), .int (-1), .int (-1), .int (-1), .int (-1), .int (-1), .int (-1), .int (-1), .int (-1), .int (-1), .int (-1), .int (-1), .int (-1), .int (-1), .int (-1), .int (-1), .int (-1), .int (-1), .int (-1), .int (-1), .int (-1), .int (-1), .int (-1), .int (-1), .int (-1), .int (-1), .int (-1), .int (-1), .int (-1), .int (-1), .int (-1), .int (-1), .int (-1), .int (-1), .int (-1), .int (-1), .int (-1), .int (-1), .int (-1), .int (-1), .int (-1), .int (-1), .int (-1), .int (-1), .int (-1), .int (-1), .int (-1), .int (-1), .int (-1), .int (-1), .int (-1), .int (-1), .int (-1), .int (-1), .int (-1), .int (-1), .int (-1), .int (-1), .int (-1), .int (-1), .int (-1), .int (-1), .int (-1), .int (-1), .int (-1), .int (-1), .int (-1), .int (-1), .int (-1), .int (-1), .int (-1), .int (-1), .int (-1), .int (-1), .int (-1), .int (-1), .int (-1), .int (-1), .int (-1), .int (-1), .int (-1), .int (-1), .int (-1), .int (-1), .int (-1), .int (-1), .int (-1), .int (-1), .int (-1), .int (-1), .int (-1), .int (-1), .int (-1), .int (-1), .int (-1), .int (-1), .int (-1), .int (-1), .int (-1), .int (-1), .int (-1), .int (-1), .int (-1), .int (-1), .int (-1), .int (-1), .int (-1), .int (-1), .int (-1), .int (-1), .int (-1), .int (-1), .int (-1), .int (-1), .int (-1), .int (-1), .int (-1), .int (-1), .int (-1), .int (-1), .int (-1), .int (-1), .int (-1), .int (-1), .int (-1), .int (-1), .int (-1), .int (-1), .int (-1), .int (-1), .int (-1), .int (-1), .int (-1), .int (-1), .int (-1), .int (-1), .int (-1), .int (-1), .int (-1), .int (-1), .int (-1), .int (-1), .int (-1), .int (-1), .int (-1), .int (-1), .int (-1), .int (-1), .int (-1), .int (-1), .int (-1), .int (-1), .int (-1), .int (-1), .int (-1), .int (-1), .int (-1), .int (-1), .int (-1), .int (-1), .int (-1), .int (-1), .int (-1), .int (-1), .int (-1), .int (-1), .int (-1), .int (-1), .int (-1), .int (-1), .int (-1), .int (-1), .int (-1), .int (-1), .int (-1), .int (-1), .int (-1), .int (-1), .int (-1), .int (-1), .int (-1), .int (-1), .int (-1), .int (-1), .int (-1), .int (-1), .int (-1), .int (-1), .int (-1), .int (-1), .int (-1), .int (-1), .int (-1), .int (-1), .int (-1), .int (-1), .int (-1), .int (-1), .int (-1), .int (-1), .int (-1), .int (-1), .int (-1), .int (-1), .int (-1), .int (-1), .int (-1), .int (-1), .int (-1), .int (-1), .int (-1), .int (-1), .int (-1), .int (-1), .int (-1), .int (-1), .int (-1), .int (-1), .int (-1), .int (-1), .int (-1), .int (-1), .int (-1), .int (-1), .int (-1)], vm := .none },
  { cls := 5, slots := #[.ref 38, .ref 39, .int 0, .int 0], vm := .none },
  { cls := 20, slots := #[.int 0, .int 0, .int 0, .int 0, .int 0, .int 0, .int 0, .int 0, .int 0, .int 0, .int 0, .int 0], vm := .none },
  { cls := 20, slots := #[.int 0, .int 0, .int 0, .int 0, .int 0, .int 0, .int 0, .int 0, .int 0, .int 0, .int 0, .int 0], vm := .none },
  { cls := 6, slots := #[.ref 31, .ref 37, .ref 41, .ref 42, .ref 43, .ref 44, .int 0, .int 0, .int 1, .int 1], vm := .none },
  { cls := 20, slots := #[.int 0, .int 0, .int 0, .int 0, .int 0, .int 0, .int 0, .int 0, .int 0, .int 0, .int 0, .int 0], vm := .none },
  { cls := 20, slots := #[.int 0, .int 0, .int 0, .int 0, .int 0, .int 0, .int 0, .int 0, .int 0, .int 0, .int 0, .int 0], vm := .none },
  { cls := 20, slots := #[.int 0, .int 0, .int 0, .int 0, .int 0, .int 0, .int 0, .int 0, .int 0, .int 0, .int 0, .int 0, .int 0, .int 0, .int 0, .int 0, .int 0, .int 0, .int 0, .int 0, .int 0, .int 0, .int 0, .int 0, .int 0, .int 0, .int 0, .int 0, .int 0, .int 0, .int 0, .int 0, .int 0, .int 0, .int 0, .int 0, .int 0, .int 0, .int 0, .int 0, .int 0, .int 0, .int 0, .int 0, .int 0, .int 0, .int 0, .int 0], vm := .none },
  { cls := 20, slots := #[.int 0, .int 0, .int 0, .int 0, .int 0, .int 0, .int 0, .int 0, .int 0, .int 0, .int 0, .int 0], vm := .none },
  { cls := 7, slots := #[.ref 31, .ref 37, .ref 40, .ref 46, .ref 47, .ref 48, .int 0], vm := .none },
  { cls := 20, slots := #[.int 0, .int 0, .int 0, .int 0, .int 0, .int 0, .int 0, .int 0, .int 0, .int 0, .int 0, .int 0], vm := .none },
  { cls := 20, slots := #[.int 0, .int 0, .int 0, .int 0, .int 0, .int 0, .int 0, .int 0, .int 0, .int 0, .int 0, .int 0], vm := .none },
  { cls := 22, slots := #[.int 0, .int 0, .int 0, .int 0, .int 0, .int 0, .int 0, .int 0, .int 0, .int 0, .int 0, .int 0], vm := .none },
  { cls := 7, slots := #[.ref 31, .ref 37, .ref 40, .ref 50, .ref 51, .ref 52, .int 0], vm := .none },
  { cls := 20, slots := #[.int 0, .int 0, .int 0, .int 0, .int 0, .int 0, .int 0, .int 0, .int 0, .int 0, .int 0, .int 0], vm := .none },
  { cls := 20, slots := #[.int 0, .int 0, .int 0, .int 0, .int 0, .int 0, .int 0, .int 0, .int 0, .int 0, .int 0, .int 0], vm := .none },
  { cls := 22, slots := #[.int 0, .int 0, .int 0, .int 0, .int 0, .int 0, .int 0, .int 0, .int 0, .int 0, .int 0, .int 0], vm := .none },
  { cls := 20, slots := #[.int 0, .int 0, .int 0, .int 0, .int 0, .int 0, .int 0, .int 0, .int 0, .int 0, .int 0, .int 0], vm := .none },
  { cls := 20, slots := #[.int 0, .int 0, .int 0, .int 0, .int 0, .int 0, .int 0, .int 0, .int 0, .int 0, .int 0, .int 0, .int 0, .int 0, .int 0, .int 0, .int 0, .int 0, .int 0, .int 0, .int 0, .int 0, .int 0, .int 0, .int 0, .int 0, .int 0, .int 0, .int 0, .int 0, .int 0, .int 0, .int 0, .int 0, .int 0, .int 0, .int 0, .int 0, .int 0, .int 0, .int 0, .int 0, .int 0, .int 0, .int 0, .int 0, .int 0, .int 0, .int 0, .int 0, .int 0, .int 0, .int 0, .int 0, .int 0, .int 0, .int 0, .int 0, .int 0, .int 0], vm := .none },
  { cls := 20, slots := #[.int 0, .int 0, .int 0, .int 0, .int 0, .int 0], vm := .none },
  { cls := 20, slots := #[.int 0, .int 0, .int 0, .int 0, .int 0, .int 0], vm := .none },
  { cls := 20, slots := #[.int 0, .int 0, .int 0, .int 0, .int 0, .int 0], vm := .none },
  { cls := 20, slots := #[.int 0, .int 0, .int 0, .int 0, .int 0, .int 0], vm := .none },
  { cls := 20, slots := #[.int 0, .int 0, .int 0, .int 0, .int 0, .int 0], vm := .none },
  { cls := 20, slots := #[.int 0, .int 0, .int 0, .int 0, .int 0, .int 0], vm := .none },
  { cls := 20, slots := #[.int 0, .int 0, .int 0, .int 0, .int 0, .int 0, .int 0, .int 0], vm := .none },
  { cls := 15, slots := #[.null, .ref 16, .ref 62, .null, .int 0, .null], vm := .none },
  { cls := 15, slots := #[.null, .ref 16, .ref 63, .null, .int 0, .null], vm := .none },
  { cls := 17, slots := #[.null, .ref 12, .ref 64, .null, .int 0, .null], vm := .none },
  { cls := 15, slots := #[.null, .ref 16, .ref 65, .null, .int 0, .null], vm := .none },
  { cls := 15, slots := #[.null, .ref 16, .ref 66, .null, .int 0, .null], vm := .none },
  { cls := 15, slots := #[.null, .ref 16, .ref 67, .null, .int 0, .null], vm := .none },
  { cls := 17, slots := #[.null, .ref 12, .ref 68, .null, .int 0, .null], vm := .none },
  { cls := 17, slots := #[.null, .ref 12, .ref 69, .null, .int 0, .null], vm := .none },
  { cls := 17, slots := #[.null, .ref 26, .ref 70, .null, .int 0, .null], vm := .none },
  { cls := 17, slots := #[.null, .ref 12, .ref 71, .null, .int 0, .null], vm := .none },
  { cls := 15, slots := #[.null, .ref 16, .ref 72, .null, .int 0, .null], vm := .none }]
def zr_f10 : List Frame := [.java { method := ⟨7, 7⟩, pc := 18, locals := #[.val (.ref 49), .unset, .unset], stack := [.int 1, .int 0], locked := none },
  .java { method := ⟨7, 1⟩, pc := 7, locals := #[.val (.ref 49), .val (.int 7), .val (.int 0)], stack := [], locked := none },
  .java { method := ⟨2, 16⟩, pc := 35, locals := #[.val (.ref 30), .val (.int 0), .val (.int 7)], stack := [], locked := none },
  .java { method := ⟨0, 17⟩, pc := 1, locals := #[.val (.ref 30), .unset, .unset], stack := [], locked := none },
  .java { method := ⟨0, 25⟩, pc := 347, locals := #[.val (.ref 30), .val (.int 0), .val (.int 0), .val (.ref 53), .val (.ref 54), .val (.ref 55), .val (.ref 56), .val (.ref 58), .val (.ref 59), .val (.ref 60), .val (.ref 61), .val (.int 0), .val (.int 0), .val (.int 0), .val (.int (-74)), .val (.int 0), .val (.int 0), .val (.int 0), .val (.int 1), .val (.long 0), .second, .val (.long 0), .second, .val (.int 0)], stack := [], locked := none },
  .java { method := ⟨0, 24⟩, pc := 582, locals := #[.val (.ref 30), .val (.int 0), .val (.int 1), .val (.ref 53), .val (.ref 54), .val (.ref 55), .val (.ref 56), .val (.ref 57), .val (.ref 58), .val (.ref 59), .val (.ref 60), .val (.ref 61), .val (.int 0), .val (.int 0), .val (.int 0), .val (.int 0), .val (.int 0)], stack := [], locked := none },
  .java { method := ⟨0, 0⟩, pc := 79, locals := #[.val (.ref 0), .val (.ref 30), .val (.ref 53), .val (.ref 54), .val (.ref 55), .val (.ref 56), .val (.ref 57), .val (.ref 58), .val (.ref 59), .val (.ref 60), .val (.ref 61), .unset, .unset, .unset], stack := [], locked := none },
  .native { method := ⟨0, 0⟩, args := #[] }]
def zr_u10 : Nat := 1686
def zr_w10 : State := stepsAlone start1.p0.tables start1.e0 912 (zr_mk zr_w9 zr_h9 zr_f9 zr_u9)
set_option maxRecDepth 16384 in
theorem zr_s10 : zr_run start1.p0.tables start1.e0 (zr_same zr_h10 zr_f10 zr_u10) 912 (zr_mk zr_w9 zr_h9 zr_f9 zr_u9) = true := by decide +kernel
end
section
def zr_h11 : List Cell := [{ cls := 2, slots := #[.ref 31, .ref 37, .ref 40, .ref 45, .ref 49], vm := .none },
  { cls := 3, slots := #[.ref 32, .ref 33, .ref 34, .ref 35, .ref 36, .int 0], vm := .none },
  { cls := 20, slots := #[.int 0, .int 0, .int 0, .int 0], vm := .none },
  { cls := 20, slots := #[.int (-1), .int (-1), .int (-1), .int (-1), .int (-1), .int (-1), .int (-1), .int (-1), .int (-1), .int (-1), .int (-1), .int (-1), .int (-1), .int (-1), .int (-1), .int (-1), .int (-1), .int (-1), .int (-1), .int (-1), .int (-1), .int (-1), .int (-1), .int (-1), .int (-1), .int (-1), .int (-1), .int (-1), .int (-1), .int (-1), .int (-1), .int (-1)], vm := .none },
  { cls := 22, slots := #[.int 0, .int 0, .int 0, .int 0, .int 0, .int 0, .int 0, .int 0, .int 0, .int 0, .int 0, .int 0, .int 0, .int 0, .int 0, .int 0, .int 0, .int 0, .int 0, .int 0, .int 0, .int 0, .int 0, .int 0, .int 0, .int 0, .int 0, .int 0, .int 0, .int 0, .int 0, .int 0], vm := .none },
  { cls := 20, slots := #[.int 0, .int 0, .int 0, .int 0, .int 0, .int 0, .int 0, .int 0, .int 0, .int 0, .int 0, .int 0, .int 0, .int 0, .int 0, .int 0, .int 0, .int 0, .int 0, .int 0, .int 0, .int 0, .int 0, .int 0, .int 0, .int 0, .int 0, .int 0, .int 0, .int 0, .int 0, .int 0], vm := .none },
  { cls := 20, slots := #[.int (-1), .int (-1), .int (-1), .int (-1), .int (-1), .int (-1), .int (-1), .int (-1), .int (-1), .int (-1), .int (-1), .int (-1), .int (-1), .int (-1), .int (-1), .int (-1), .int (-1), .int (-1), .int (-1), .int (-1), .int (-1), .int (-1), .int (-1), .int (-1), .int (-1), .int (-1), .int (-1), .int (-1), .int (-1), .int (-1), .int (-1), .int (-1), .int (-1), .int (-1), .int (-1), .int (-1), .int (-1), .int (-1), .int (-1), .int (-1), .int (-1), .int (-1), .int (-1), .int (-1), .int (-1), .int (-1), .int (-1), .int (-1), .int (-1), .int (-1), .int (-1), .int (-1), .int (-1), .int (-1), .int (-1), .int (-1), .int (-1), .int (-1), .int (-1), .int (-1), .int (-1), .int (-1), .int (-1), .int (-1), .int (-1), .int (-1), .int (-1), .int (-1), .int (-1), .int (-1), .int (-1), .int (-1), .int (-1), .int (-1), .int (-1), .int (-1), .int (-1), .int (-1), .int (-1), .int (-1), .int (-1), .int (-1), .int (-1), .int (-1), .int (-1), .int (-1), .int (-1), .int (-1), .int (-1), .int (-1), .int (-1), .int (-1), .int (-1), .int (-1), .int (-1), .int (-1), .int (-1), .int (-1), .int (-1), .int (-1), .int (-1), .int (-1), .int (-1), .int (-1), .int (-1), .int (-1), .int (-1), .int (-1), .int (-1), .int (-1), .int (-1), .int (-1), .int (-1), .int (-1), .int (-1), .int (-1), .int (-1), .int (-1), .int (-1), .int (-1), .int (-1), .int (-1), .int (-1), .int (-1), .int (-1), .int (-1), .int (-1), .int (-1), .int (-1), .int (-1), .int (-1), .int (-1), .int (-1), .int (-1), .int (-1), .int (-1), .int (-1), .int (-1), .int (-1), .int (-1), .int (-1), .int (-1), .int (-1), .int (-1), .int (-1), .int (-1), .int (-1), .int (-1), .int (-1), .int (-1), .int (-1), .int (-1), .int (-1), .int (-1), .int (-1), .int (-1), .int (-1), .int (-1), .int (-1), .int (-1), .int (-1), .int (-1), .int (-1), .int (-1), .int (-1), .int (-1), .int (-1), .int (-1), .int (-1), .int (-1), .int (-1), .int (-1), .int (-1), .int (-1), .int (-1), .int (-1), .int (-1), .int (-1), .int (-1), .int (-1), .int (-1), .int (-1), .int (-1), .int (-1), .int (-1), .int (-1), .int (-1), .int (-1), .int (-1), .int (-1), .int (-1), .int (-1), .int (-1), .int (-1), .int (-1), .int (-1), .int (-1), .int (-1), .int (-1), .int (-1), .int (-1), .int (-1), .int (-1), .int (-1), .int (-1), .int (-1), .int (-1), .int (-1), .int (-1), .int (-1), .int (-1), .int (-1), .int (-1), .int (-1), .int (-1), .int (-1), .int (-1), .int (-1), .int (-1), .int (-1), .int (-1), .int (-1), .int (-1), .int (-1), .int (-1), .int (-1), .int (-1), .int (-1), .int (-1), .int (-1), .int (-1), .int (-1), .int (-1), .int (-1), .int (-1), .int (-1), .int (-1), .int (-1), .int (-1), .int (-1), .int (-1), .int (-1), .int (-1), .int (-1), .int (-1), .int (-1), .int (-1), .int (-1), .int (-1), .int (-1), .int (-1), .int (-1), .int (-1), .int (-1), .int (-1), .int (-1), .int (-1), .int (-1), .int (-1), .int (-1), .int (-1), .int (-1), .int (-1), .int (-1), .int (-1), .int (-1), .int (-1), .int (-1), .int (-1), .int (-1), .int (-1), .int (-1), .int (-1), .int (-1), .int (-1), .int (-1), .int (-1), .int (-1), .int (-1), .int (-1), .int (-1), .int (-1), .int (-1), .int (-1), .int (-1), .int (-1), .int (-1), .int (-1), .int (-1), .int (-1), .int (-1), .int (-1), .int (-1), .int (-1), .int (-1), .int (-1), .int (-1), .int (-1), .int (-1), .int (-1), .int (-1), .int (-1), .int (-1), .int (-1), .int (-1), .int (-1), .int (-1), .int (-1), .int (-1), .int (-1), .int (-1), .int (-1), .int (-1), .int (-1), .int (-1), .int (-1), .int (-1), .int (-1), .int (-1), .int (-1), .int (-1), .int (-1), .int (-1), .int (-1), .int (-1), .int (-1), .int (-1), .int (-1), .int (-1), .int (-1), .int (-1), .int (-1), .int (-1), .int (-1), .int (-1), .int (-1), .int (-1), .int (-1), .int (-1), .int (-1), .int (-1), .int (-1), .int (-1), .int (-1), .int (-1), .int (-1), .int (-1), .int (-1), .int (-1), .int (-1), .int (-1), .int (-1), .int (-1), .int (-1), .int (-1), .int (-1), .int (-1), .int (-1), .int (-1), .int (-1), .int (-1), .int (-1), .int (-1), .int (-1), .int (-1), .int (-1), .int (-1), .int (-1), .int (-1), .int (-1), .int (-1), .int (-1), .int (-1), .int (-1), .int (-1), .int (-1), .int (-1), .int (-1), .int (-1), .int (-1), .int (-1), .int (-1), .int (-1), .int (-1), .int (-1), .int (-1), .int (-1), .int (-1), .int (-1), .int (-1), .int (-1), .int (-1), .int (-1), .int (-1), .int (-1), .int (-1), .int (-1), .int (-1), .int (-1), .int (-1), .int (-1), .int (-1), .int (-1), .int (-1), .int (-1), .int (-1), .int (-1), .int (-1), .int (-1), .int (-1), .int (-1), .int (-1), .int (-1), .int (-1), .int (-1), .int (-1), .int (-1), .int (-1), .int (-1), .int (-1), .int (-1), .int (-1), .int (-1), .int (-1), .int (-1), .int (-1), .int (-1), .int (-1), .int (-1), .int (-1), .int (-1), .int (-1), .int (-1), .int (-1), .int (-1), .int (-1), .int (-1), .int (-1), .int (-1), .int (-1), .int (-1), .int (-1), .int (-1), .int (-1), .int (-1), .int (-1), .int (-1), .int (-1), .int (-1), .int (-1), .int (-1), .int (-1), .int (-1), .int (-1), .int (-1), .int (-1), .int (-1), .int (-1), .int (-1), .int (-1), .int (-1), .int (-1), .int (-1), .int (-1), .int (-1), .int (-1), .int (-1), .int (-1), .int (-1), .int (-1), .int (-1), .int (-1), .int (-1), .int (-1), .int (-1), .int (-1), .int (-1), .int (-1), .int (-1), .int (-1), .int (-1), .int (-1), .int (-1), .int (-1), .int (-1), .int (-1), .int (-1), .int (-1), .int (-1), .int (-1), .int (-1), .int (-1), .int (-1), .int (-1), .int (-1), .int (-1), .int (-1), .int (-1), .int (-1), .int (-1), .int (-1), .int (-1), .int (-1), .int (-1), .int (-1), .int (-1), .int (-1), .int (-1), .int (-1), .int (-1), .int (-1), .int (-1), .int (-1), .int (-1), .int (-1), .int (-1), .int (-1), .int (-1), .int (-1), .int (-1), .int (-1), .int (-1), .int (-1), .int (-1), .int (-1), .int (-1), .int (-1), .int (-1), .int (-1), .int (-1), .int (-1), .int (-1), .int (-1), .int (-1), .int (-1), .int (-1), .int (-1), .int (-1), .int (-1), .int (-1), .int (-1), .int (-1), .int (-1), .int (-1), .int (-1), .int (-1), .int (-1), .int (-1), .int (-1), .int (-1), .int (-1), .int (-1), .int (-1), .int (-1), .int (-1), .int (-1), .int (-1), .int (-1), .int (-1), .int (-1), .int (-1), .int (-1), .int (-1), .int (-1), .int (-1), .int (-1), .int (-1), .int (-1), .int (-1), .int (-1), .int (-1), .int (-1), .int (-1), .int (-1), .int (-1), .int (-1), .int (-1), .int (-1), .int (-1), .int (-1), .int (-1), .int (-1), .int (-1), .int (-1), .int (-1), .int (-1), .int (-1), .int (-1), .int (-1), .int (-1), .int (-1), .int (-1), .int (-1), .int (-1), .int (-1), .int (-1), .int (-1), .int (-1), .int (-1), .int (-1), .int (-1), .int (-1), .int (-1), .int (-1), .int (-1), .int (-1), .int (-1), .int (-1), .int (-1), .int (-1), .int (-1), .int (-1), .int (-1), .int (-1), .int (-1), .int (-1), .int (-1), .int (-1), .int (-1), .int (-1), .int (-1), .int (-1), .int (-1), .int (-1), .int (-1), .int (-1), .int (-1), .int (-1), .int (-1), .int (-1), .int (-1), .int (-1), .int (-1), .int (-1), .int (-1), .int (-1), .int (-1), .int (-1), .int (-1), .int (-1)], vm := .none },
  { cls := 5, slots := #[.ref 38, .ref 39, .int 0, .int 0], vm := .none },
  { cls := 20, slots := #[.int 0, .int 0, .int 0, .int 0, .int 0, .int 0, .int 0, .int 0, .int 0, .int 0, .int 0, .int 0], vm := .none },
  { cls := 20, slots := #[.int 0, .int 0, .int 0, .int 0, .int 0, .int 0, .int 0, .int 0, .int 0, .int 0, .int 0, .int 0], vm := .none },
  { cls := 6, slots := #[.ref 31, .ref 37, .ref 41, .ref 42, .ref 43, .ref 44, .int 0, .int 0, .int 1, .int 1], vm := .none },
  { cls := 20, slots := #[.int 0, .int 0, .int 0, .int 0, .int 0, .int 0, .int 0, .int 0, .int 0, .int 0, .int 0, .int 0], vm := .none },
  { cls := 20, slots := #[.int 0, .int 0, .int 0, .int 0, .int 0, .int 0, .int 0, .int 0, .int 0, .int 0, .int 0, .int 0], vm := .none },
  { cls := 20, slots := #[.int 0, .int 0, .int 0, .int 0, .int 0, .int 0, .int 0, .int 0, .int 0, .int 0, .int 0, .int 0, .int 0, .int 0, .int 0, .int 0, .int 0, .int 0, .int 0, .int 0, .int 0, .int 0, .int 0, .int 0, .int 0, .int 0, .int 0, .int 0, .int 0, .int 0, .int 0, .int 0, .int 0, .int 0, .int 0, .int 0, .int 0, .int 0, .int 0, .int 0, .int 0, .int 0, .int 0, .int 0, .int 0, .int 0, .int 0, .int 0], vm := .none },
  { cls := 20, slots := #[.int 0, .int 0, .int 0, .int 0, .int 0, .int 0, .int 0, .int 0, .int 0, .int 0, .int 0, .int 0], vm := .none },
  { cls := 7, slots := #[.ref 31, .ref 37, .ref 40, .ref 46, .ref 47, .ref 48, .int 0], vm := .none },
  { cls := 20, slots := #[.int 0, .int 0, .int 0, .int 0, .int 0, .int 0, .int 0, .int 0, .int 0, .int 0, .int 0, .int 0], vm := .none },
  { cls := 20, slots := #[.int 0, .int 0, .int 0, .int 0, .int 0, .int 0, .int 0, .int 0, .int 0, .int 0, .int 0, .int 0], vm := .none },
  { cls := 22, slots := #[.int 0, .int 0, .int 0, .int 0, .int 0, .int 0, .int 0, .int 0, .int 0, .int 0, .int 0, .int 0], vm := .none },
  { cls := 7, slots := #[.ref 31, .ref 37, .ref 40, .ref 50, .ref 51, .ref 52, .int 0], vm := .none },
  { cls := 20, slots := #[.int 0, .int 0, .int 0, .int 0, .int 0, .int 0, .int 0, .int 0, .int 0, .int 0, .int 0, .int 0], vm := .none },
  { cls := 20, slots := #[.int 0, .int 0, .int 0, .int 0, .int 0, .int 0, .int 0, .int 0, .int 0, .int 0, .int 0, .int 0], vm := .none },
  { cls := 22, slots := #[.int 0, .int 0, .int 0, .int 0, .int 0, .int 0, .int 0, .int 0, .int 0, .int 0, .int 0, .int 0], vm := .none },
  { cls := 20, slots := #[.int 0, .int 0, .int 0, .int 0, .int 0, .int 0, .int 0, .int 0, .int 0, .int 0, .int 0, .int 0], vm := .none },
  { cls := 20, slots := #[.int 0, .int 0, .int 0, .int 0, .int 0, .int 0, .int 0, .int 0, .int 0, .int 0, .int 0, .int 0, .int 0, .int 0, .int 0, .int 0, .int 0, .int 0, .int 0, .int 0, .int 0, .int 0, .int 0, .int 0, .int 0, .int 0, .int 0, .int 0, .int 0, .int 0, .int 0, .int 0, .int 0, .int 0, .int 0, .int 0, .int 0, .int 0, .int 0, .int 0, .int 0, .int 0, .int 0, .int 0, .int 0, .int 0, .int 0, .int 0, .int 0, .int 0, .int 0, .int 0, .int 0, .int 0, .int 0, .int 0, .int 0, .int 0, .int 0, .int 0], vm := .none },
  { cls := 20, slots := #[.int 0, .int 0, .int 0, .int 0, .int 0, .int 0], vm := .none },
  { cls := 20, slots := #[.int 0, .int 0, .int 0, .int 0, .int 0, .int 0], vm := .none },
  { cls := 20, slots := #[.int 0, .int 0, .int 0, .int 0, .int 0, .int 0], vm := .none },
  { cls := 20, slots := #[.int 0, .int 0, .int 0, .int 0, .int 0, .int 0], vm := .none },
  { cls := 20, slots := #[.int 0, .int 0, .int 0, .int 0, .int 0, .int 0], vm := .none },
  { cls := 20, slots := #[.int 0, .int 0, .int 0, .int 0, .int 0, .int 0], vm := .none },
  { cls := 20, slots := #[.int 0, .int 0, .int 0, .int 0, .int 0, .int 0, .int 0, .int 0], vm := .none },
  { cls := 15, slots := #[.null, .ref 16, .ref 62, .null, .int 0, .null], vm := .none },
  { cls := 15, slots := #[.null, .ref 16, .ref 63, .null, .int 0, .null], vm := .none },
  { cls := 17, slots := #[.null, .ref 12, .ref 64, .null, .int 0, .null], vm := .none },
  { cls := 15, slots := #[.null, .ref 16, .ref 65, .null, .int 0, .null], vm := .none },
  { cls := 15, slots := #[.null, .ref 16, .ref 66, .null, .int 0, .null], vm := .none },
  { cls := 15, slots := #[.null, .ref 16, .ref 67, .null, .int 0, .null], vm := .none },
  { cls := 17, slots := #[.null, .ref 12, .ref 68, .null, .int 0, .null], vm := .none },
  { cls := 17, slots := #[.null, .ref 12, .ref 69, .null, .int 0, .null], vm := .none },
  { cls := 17, slots := #[.null, .ref 26, .ref 70, .null, .int 0, .null], vm := .none },
  { cls := 17, slots := #[.null, .ref 12, .ref 71, .null, .int 0, .null], vm := .none },
  { cls := 15, slots := #[.null, .ref 16, .ref 72, .null, .int 0, .null], vm := .none }]
def zr_f11 : List Frame := [.java { method := ⟨5, 3⟩, pc := 1, locals := #[.val (.ref 37)], stack := [.ref 37], locked := none },
  .java { method := ⟨7, 6⟩, pc := 7, locals := #[.val (.ref 49), .val (.int 13), .val (.int 0), .val (.int 0), .unset, .unset, .unset], stack := [.int 0], locked := none },
  .java { method := ⟨7, 1⟩, pc := 3, locals := #[.val (.ref 49), .val (.int 13), .val (.int 0)], stack := [], locked := none },
  .java { method := ⟨2, 16⟩, pc := 35, locals := #[.val (.ref 30), .val (.int 0), .val (.int 13)], stack := [], locked := none },
  .java { method := ⟨0, 17⟩, pc := 1, locals := #[.val (.ref 30), .unset, .unset], stack := [], locked := none },
  .java { method := ⟨0, 25⟩, pc := 347, locals := #[.val (.ref 30), .val (.int 0), .val (.int 0), .val (.ref 53), .val (.ref 54), .val (.ref 55), .val (.ref 56), .val (.ref 58), .val (.ref 59), .val (.ref 60), .val (.ref 61), .val (.int 0), .val (.int 0), .val (.int 0), .val (.int (-74)), .val (.int 0), .val (.int 0), .val (.int 0), .val (.int 1), .val (.long 0), .second, .val (.long 0), .second, .val (.int 0)], stack := [], locked := none },
  .java { method := ⟨0, 24⟩, pc := 582, locals := #[.val (.ref 30), .val (.int 0), .val (.int 1), .val (.ref 53), .val (.ref 54), .val (.ref 55), .val (.ref 56), .val (.ref 57), .val (.ref 58), .val (.ref 59), .val (.ref 60), .val (.ref 61), .val (.int 0), .val (.int 0), .val (.int 0), .val (.int 0), .val (.int 0)], stack := [], locked := none },
  .java { method := ⟨0, 0⟩, pc := 79, locals := #[.val (.ref 0), .val (.ref 30), .val (.ref 53), .val (.ref 54), .val (.ref 55), .val (.ref 56), .val (.ref 57), .val (.ref 58), .val (.ref 59), .val (.ref 60), .val (.ref 61), .unset, .unset, .unset], stack := [], locked := none },
  .native { method := ⟨0, 0⟩, args := #[] }]
def zr_u11 : Nat := 1686
def zr_w11 : State := stepsAlone start1.p0.tables start1.e0 912 (zr_mk zr_w10 zr_h10 zr_f10 zr_u10)
set_option maxRecDepth 16384 in
theorem zr_s11 : zr_run start1.p0.tables start1.e0 (zr_same zr_h11 zr_f11 zr_u11) 912 (zr_mk zr_w10 zr_h10 zr_f10 zr_u10) = true := by decide +kernel
end
section
def zr_h12 : List Cell := [{ cls := 2, slots := #[.ref 31, .ref 37, .ref 40, .ref 45, .ref 49], vm := .none },
  { cls := 3, slots := #[.ref 32, .ref 33, .ref 34, .ref 35, .ref 36, .int 0], vm := .none },
  { cls := 20, slots := #[.int 0, .int 0, .int 0, .int 0], vm := .none },
  { cls := 20, slots := #[.int (-1), .int (-1), .int (-1), .int (-1), .int (-1), .int (-1), .int (-1), .int (-1), .int (-1), .int (-1), .int (-1), .int (-1), .int (-1), .int (-1), .int (-1), .int (-1), .int (-1), .int (-1), .int (-1), .int (-1), .int (-1), .int (-1), .int (-1), .int (-1), .int (-1), .int (-1), .int (-1), .int (-1), .int (-1), .int (-1), .int (-1), .int (-1)], vm := .none },
  { cls := 22, slots := #[.int 0, .int 0, .int 0, .int 0, .int 0, .int 0, .int 0, .int 0, .int 0, .int 0, .int 0, .int 0, .int 0, .int 0, .int 0, .int 0, .int 0, .int 0, .int 0, .int 0, .int 0, .int 0, .int 0, .int 0, .int 0, .int 0, .int 0, .int 0, .int 0, .int 0, .int 0, .int 0], vm := .none },
  { cls := 20, slots := #[.int 0, .int 0, .int 0, .int 0, .int 0, .int 0, .int 0, .int 0, .int 0, .int 0, .int 0, .int 0, .int 0, .int 0, .int 0, .int 0, .int 0, .int 0, .int 0, .int 0, .int 0, .int 0, .int 0, .int 0, .int 0, .int 0, .int 0, .int 0, .int 0, .int 0, .int 0, .int 0], vm := .none },
  { cls := 20, slots := #[.int (-1), .int (-1), .int (-1), .int (-1), .int (-1), .int (-1), .int (-1), .int (-1), .int (-1), .int (-1), .int (-1), .int (-1), .int (-1), .int (-1), .int (-1), .int (-1), .int (-1), .int (-1), .int (-1), .int (-1), .int (-1), .int (-1), .int (-1), .int (-1), .int (-1), .int (-1), .int (-1), .int (-1), .int (-1), .int (-1), .int (-1), .int (-1), .int (-1), .int (-1), .int (-1), .int (-1), .int (-1), .int (-1), .int (-1), .int (-1), .int (-1), .int (-1), .int (-1), .int (-1), .int (-1), .int (-1), .int (-1), .int (-1), .int (-1), .int (-1), .int (-1), .int (-1), .int (-1), .int (-1), .int (-1), .int (-1), .int (-1), .int (-1), .int (-1), .int (-1), .int (-1), .int (-1), .int (-1), .int (-1), .int (-1), .int (-1), .int (-1), .int (-1), .int (-1), .int (-1), .int (-1), .int (-1), .int (-1), .int (-1), .int (-1), .int (-1), .int (-1), .int (-1), .int (-1), .int (-1), .int (-1), .int (-1), .int (-1), .int (-1), .int (-1), .int (-1), .int (-1), .int (-1), .int (-1), .int (-1), .int (-1), .int (-1), .int (-1), .int (-1), .int (-1), .int (-1), .int (-1), .int (-1), .int (-1), .int (-1), .int (-1), .int (-1), .int (-1), .int (-1), .int (-1), .int (-1), .int (-1), .int (-1), .int (-1), .int (-1), .int (-1), .int (-1), .int (-1), .int (-1), .int (-1), .int (-1), .int (-1), .int (-1), .int (-1), .int (-1), .int (-1), .int (-1), .int (-1), .int (-1), .int (-1), .int (-1), .int (-1), .int (-1), .int (-1), .int (-1), .int (-1), .int (-1), .int (-1), .int (-1), .int (-1), .int (-1), .int (-1), .int (-1), .int (-1), .int (-1), .int (-1), .int (-1), .int (-1), .int (-1), .int (-1), .int (-1), .int (-1), .int (-1), .int (-1), .int (-1), .int (-1), .int (-1), .int (-1), .int (-1), .int (-1), .int (-1), .int (-1), .int (-1), .int (-1), .int (-1), .int (-1), .int (-1), .int (-1), .int (-1), .int (-1), .int (-1), .int (-1), .int (-1), .int (-1), .int (-1), .int (-1), .int (-1), .int (-1), .int (-1), .int (-1), .int (-1), .int (-1), .int (-1), .int (-1), .int (-1), .int (-1), .int (-1), .int (-1), .int (-1), .int (-1), .int (-1), .int (-1), .int (-1), .int (-1), .int (-1), .int (-1), .int (-1), .int (-1), .int (-1), .int (-1), .int (-1), .int (-1), .int (-1), .int (-1), .int (-1), .int (-1), .int (-1), .int (-1), .int (-1), .int (-1), .int (-1), .int (-1), .int (-1), .int (-1), .int (-1), .int (-1), .int (-1), .int (-1), .int (-1), .int (-1), .int (-1), .int (-1), .int (-1), .int (-1), .int (-1), .int (-1), .int (-1), .int (-1), .int (-1), .int (-1), .int (-1), .int (-1), .int (-1), .int (-1), .int (-1), .int (-1), .int (-1), .int (-1), .int (-1), .int (-1), .int (-1), .int (-1), .int (-1), .int (-1), .int (-1), .int (-1), .int (-1), .int (-1), .int (-1), .int (-1), .int (-1), .int (-1), .int (-1), .int (-1), .int (-1), .int (-1), .int (-1), .int (-1), .int (-1), .int (-1), .int (-1), .int (-1), .int (-1), .int (-1), .int (-1), .int (-1), .int (-1), .int (-1), .int (-1), .int (-1), .int (-1), .int (-1), .int (-1), .int (-1), .int (-1), .int (-1), .int (-1), .int (-1), .int (-1), .int (-1), .int (-1), .int (-1), .int (-1), .int (-1), .int (-1), .int (-1), .int (-1), .int (-1), .int (-1), .int (-1), .int (-1), .int (-1), .int (-1), .int (-1), .int (-1), .int (-1), .int (-1), .int (-1), .int (-1), .int (-1), .int (-1), .int (-1), .int (-1), .int (-1), .int (-1), .int (-1), .int (-1), .int (-1), .int (-1), .int (-1), .int (-1), .int (-1), .int (-1), .int (-1), .int (-1), .int (-1), .int (-1), .int (-1), .int (-1), .int (-1), .int (-1), .int (-1), .int (-1), .int (-1), .int (-1), .int (-1), .int (-1), .int (-1), .int (-1), .int (-1), .int (-1), .int (-1), .int (-1), .int (-1), .int (-1), .int (-1), .int (-1), .int (-1), .int (-1), .int (-1), .int (-1), .int (-1), .int (-1), .int (-1), .int (-1), .int (-1), .int (-1), .int (-1), .int (-1), .int (-1), .int (-1), .int (-1), .int (-1), .int (-1), .int (-1), .int (-1), .int (-1), .int (-1), .int (-1), .int (-1), .int (-1), .int (-1), .int (-1), .int (-1), .int (-1), .int (-1), .int (-1), .int (-1), .int (-1), .int (-1), .int (-1), .int (-1), .int (-1), .int (-1), .int (-1), .int (-1), .int (-1), .int (-1), .int (-1), .int (-1), .int (-1), .int (-1), .int (-1), .int (-1), .int (-1), .int (-1), .int (-1), .int (-1), .int (-1), .int (-1), .int (-1), .int (-1), .int (-1), .int (-1), .int (-1), .int (-1), .int (-1), .int (-1), .int (-1), .int (-1), .int (-1), .int (-1), .int (-1), .int (-1), .int (-1), .int (-1), .int (-1), .int (-1), .int (-1), .int (-1), .int (-1), .int (-1), .int (-1), .int (-1), .int (-1), .int (-1), .int (-1), .int (-1), .int (-1), .int (-1), .int (-1), .int (-1), .int (-1), .int (-1), .int (-1), .int (-1), .int (-1), .int (-1), .int (-1), .int (-1), .int (-1), .int (-1), .int (-1), .int (-1), .int (-1), .int (-1), .int (-1), .int (-1), .int (-1), .int (-1), .int (-1), .int (-1), .int (-1), .int (-1), .int (-1), .int (-1), .int (-1), .int (-1), .int (-1), .int (-1), .int (-1), .int (-1), .int (-1), .int (-1), .int (-1), .int (-1), .int (-1), .int (-1), .int (-1), .int (-1), .int (-1), .int (-1), .int (-1), .int (-1), .int (-1), .int (-1), .int (-1), .int (-1), .int (-1), .int (-1), .int (-1), .int (-1), .int (-1), .int (-1), .int (-1), .int (-1), .int (-1), .int (-1), .int (-1), .int (-1), .int (-1), .int (-1), .int (-1), .int (-1), .int (-1), .int (-1), .int (-1), .int (-1), .int (-1), .int (-1), .int (-1), .int (-1), .int (-1), .int (-1), .int (-1), .int (-1), .int (-1), .int (-1), .int (-1), .int (-1), .int (-1), .int (-1), .int (-1), .int (-1), .int (-1), .int (-1), .int (-1), .int (-1), .int (-1), .int (-1), .int (-1), .int (-1), .int (-1), .int (-1), .int (-1), .int (-1), .int (-1), .int (-1), .int (-1), .int (-1), .int (-1), .int (-1), .int (-1), .int (-1), .int (-1), .int (-1), .int (-1), .int (-1), .int (-1), .int (-1), .int (-1), .int (-1), .int (-1), .int (-1), .int (-1), .int (-1), .int (-1), .int (-1), .int (-1), .int (-1), .int (-1), .int (-1), .int (-1), .int (-1), .int (-1), .int (-1), .int (-1), .int (-1), .int (-1), .int (-1), .int (-1), .int (-1), .int (-1), .int (-1), .int (-1), .int (-1), .int (-1), .int (-1), .int (-1), .int (-1), .int (-1), .int (-1), .int (-1), .int (-1), .int (-1), .int (-1), .int (-1), .int (-1), .int (-1), .int (-1), .int (-1), .int (-1), .int (-1), .int (-1), .int (-1), .int (-1), .int (-1), .int (-1), .int (-1), .int (-1), .int (-1), .int (-1), .int (-1), .int (-1), .int (-1), .int (-1), .int (-1), .int (-1), .int (-1), .int (-1), .int (-1), .int (-1), .int (-1), .int (-1), .int (-1), .int (-1), .int (-1), .int (-1), .int (-1), .int (-1), .int (-1), .int (-1), .int (-1), .int (-1), .int (-1), .int (-1), .int (-1), .int (-1), .int (-1), .int (-1), .int (-1), .int (-1), .int (-1), .int (-1), .int (-1), .int (-1), .int (-1), .int (-1), .int (-1), .int (-1), .int (-1), .int (-1), .int (-1), .int (-1), .int (-1), .int (-1), .int (-1), .int (-1), .int (-1), .int (-1), .int (-1), .int (-1), .int (-1), .int (-1), .int (-1), .int (-1), .int (-1), .int (-1), .int (-1), .int (-1), .int (-1), .int (-1), .int (-1), .int (-1), .int (-1)], vm := .none },
  { cls := 5, slots := #[.ref 38, .ref 39, .int 0, .int 0], vm := .none },
  { cls := 20, slots := #[.int 0, .int 0, .int 0, .int 0, .int 0, .int 0, .int 0, .int 0, .int 0, .int 0, .int 0, .int 0], vm := .none },
  { cls := 20, slots := #[.int 0, .int 0, .int 0, .int 0, .int 0, .int 0, .int 0, .int 0, .int 0, .int 0, .int 0, .int 0], vm := .none },
  { cls := 6, slots := #[.ref 31, .ref 37, .ref 41, .ref 42, .ref 43, .ref 44, .int 0, .int 0, .int 1, .int 1], vm := .none },
  { cls := 20, slots := #[.int 0, .int 0, .int 0, .int 0, .int 0, .int 0, .int 0, .int 0, .int 0, .int 0, .int 0, .int 0], vm := .none },
  { cls := 20, slots := #[.int 0, .int 0, .int 0, .int 0, .int 0, .int 0, .int 0, .int 0, .int 0, .int 0, .int 0, .int 0], vm := .none },
  { cls := 20, slots := #[.int 0, .int 0, .int 0, .int 0, .int 0, .int 0, .int 0, .int 0, .int 0, .int 0, .int 0, .int 0, .int 0, .int 0, .int 0, .int 0, .int 0, .int 0, .int 0, .int 0, .int 0, .int 0, .int 0, .int 0, .int 0, .int 0, .int 0, .int 0, .int 0, .int 0, .int 0, .int 0, .int 0, .int 0, .int 0, .int 0, .int 0, .int 0, .int 0, .int 0, .int 0, .int 0, .int 0, .int 0, .int 0, .int 0, .int 0, .int 0], vm := .none },
  { cls := 20, slots := #[.int 0, .int 0, .int 0, .int 0, .int 0, .int 0, .int 0, .int 0, .int 0, .int 0, .int 0, .int 0], vm := .none },
  { cls := 7, slots := #[.ref 31, .ref 37, .ref 40, .ref 46, .ref 47, .ref 48, .int 0], vm := .none },
  { cls := 20, slots := #[.int 0, .int 0, .int 0, .int 0, .int 0, .int 0, .int 0, .int 0, .int 0, .int 0, .int 0, .int 0], vm := .none },
  { cls := 20, slots := #[.int 0, .int 0, .int 0, .int 0, .int 0, .int 0, .int 0, .int 0, .int 0, .int 0, .int 0, .int 0], vm := .none },
  { cls := 22, slots := #[.int 0, .int 0, .int 0, .int 0, .int 0, .int 0, .int 0, .int 0, .int 0, .int 0, .int 0, .int 0], vm := .none },
  { cls := 7, slots := #[.ref 31, .ref 37, .ref 40, .ref 50, .ref 51, .ref 52, .int 0], vm := .none },
  { cls := 20, slots := #[.int 0, .int 0, .int 0, .int 0, .int 0, .int 0, .int 0, .int 0, .int 0, .int 0, .int 0, .int 0], vm := .none },
  { cls := 20, slots := #[.int 0, .int 0, .int 0, .int 0, .int 0, .int 0, .int 0, .int 0, .int 0, .int 0, .int 0, .int 0], vm := .none },
  { cls := 22, slots := #[.int 0, .int 0, .int 0, .int 0, .int 0, .int 0, .int 0, .int 0, .int 0, .int 0, .int 0, .int 0], vm := .none },
  { cls := 20, slots := #[.int 0, .int 0, .int 0, .int 0, .int 0, .int 0, .int 0, .int 0, .int 0, .int 0, .int 0, .int 0], vm := .none },
  { cls := 20, slots := #[.int 0, .int 0, .int 0, .int 0, .int 0, .int 0, .int 0, .int 0, .int 0, .int 0, .int 0, .int 0, .int 0, .int 0, .int 0, .int 0, .int 0, .int 0, .int 0, .int 0, .int 0, .int 0, .int 0, .int 0, .int 0, .int 0, .int 0, .int 0, .int 0, .int 0, .int 0, .int 0, .int 0, .int 0, .int 0, .int 0, .int 0, .int 0, .int 0, .int 0, .int 0, .int 0, .int 0, .int 0, .int 0, .int 0, .int 0, .int 0, .int 0, .int 0, .int 0, .int 0, .int 0, .int 0, .int 0, .int 0, .int 0, .int 0, .int 0, .int 0], vm := .none },
  { cls := 20, slots := #[.int 0, .int 0, .int 0, .int 0, .int 0, .int 0], vm := .none },
  { cls := 20, slots := #[.int 0, .int 0, .int 0, .int 0, .int 0, .int 0], vm := .none },
  { cls := 20, slots := #[.int 0, .int 0, .int 0, .int 0, .int 0, .int 0], vm := .none },
  { cls := 20, slots := #[.int 0, .int 0, .int 0, .int 0, .int 0, .int 0], vm := .none },
  { cls := 20, slots := #[.int 0, .int 0, .int 0, .int 0, .int 0, .int 0], vm := .none },
  { cls := 20, slots := #[.int 0, .int 0, .int 0, .int 0, .int 0, .int 0], vm := .none },
  { cls := 20, slots := #[.int 0, .int 0, .int 0, .int 0, .int 0, .int 0, .int 0, .int 0], vm := .none },
  { cls := 15, slots := #[.null, .ref 16, .ref 62, .null, .int 0, .null], vm := .none },
  { cls := 15, slots := #[.null, .ref 16, .ref 63, .null, .int 0, .null], vm := .none },
  { cls := 17, slots := #[.null, .ref 12, .ref 64, .null, .int 0, .null], vm := .none },
  { cls := 15, slots := #[.null, .ref 16, .ref 65, .null, .int 0, .null], vm := .none },
  { cls := 15, slots := #[.null, .ref 16, .ref 66, .null, .int 0, .null], vm := .none },
  { cls := 15, slots := #[.null, .ref 16, .ref 67, .null, .int 0, .null], vm := .none },
  { cls := 17, slots := #[.null, .ref 12, .ref 68, .null, .int 0, .null], vm := .none },
  { cls := 17, slots := #[.null, .ref 12, .ref 69, .null, .int 0, .null], vm := .none },
  { cls := 17, slots := #[.null, .ref 26, .ref 70, .null, .int 0, .null], vm := .none },
  { cls := 17, slots := #[.null, .ref 12, .ref 71, .null, .int 0, .null], vm := .none },
  { cls := 15, slots := #[.null, .ref 16, .ref 72, .null, .int 0, .null], vm := .none }]
def zr_f12 : List Frame := [.java { method := ⟨5, 3⟩, pc := 0, locals := #[.val (.ref 37)], stack := [], locked := none },
  .java { method := ⟨7, 8⟩, pc := 7, locals := #[.val (.ref 45), .val (.int 0), .unset], stack := [.int 0], locked := none },
  .java { method := ⟨7, 1⟩, pc := 11, locals := #[.val (.ref 45), .val (.int 19), .val (.int 0)], stack := [], locked := none },
  .java { method := ⟨2, 16⟩, pc := 26, locals := #[.val (.ref 30), .val (.int 0), .val (.int 19)], stack := [], locked := none },
  .java { method := ⟨0, 17⟩, pc := 1, locals := #[.val (.ref 30), .unset, .unset], stack := [], locked := none },
  .java { method := ⟨0, 25⟩, pc := 347, locals := #[.val (.ref 30), .val (.int 0), .val (.int 0), .val (.ref 53), .val (.ref 54), .val (.ref 55), .val (.ref 56), .val (.ref 58), .val (.ref 59), .val (.ref 60), .val (.ref 61), .val (.int 0), .val (.int 0), .val (.int 0), .val (.int (-74)), .val (.int 0), .val (.int 0), .val (.int 0), .val (.int 1), .val (.long 0), .second, .val (.long 0), .second, .val (.int 0)], stack := [], locked := none },
  .java { method := ⟨0, 24⟩, pc := 582, locals := #[.val (.ref 30), .val (.int 0), .val (.int 1), .val (.ref 53), .val (.ref 54), .val (.ref 55), .val (.ref 56), .val (.ref 57), .val (.ref 58), .val (.ref 59), .val (.ref 60), .val (.ref 61), .val (.int 0), .val (.int 0), .val (.int 0), .val (.int 0), .val (.int 0)], stack := [], locked := none },
  .java { method := ⟨0, 0⟩, pc := 79, locals := #[.val (.ref 0), .val (.ref 30), .val (.ref 53), .val (.ref 54), .val (.ref 55), .val (.ref 56), .val (.ref 57), .val (.ref 58), .val (.ref 59), .val (.ref 60), .val (.ref 61), .unset, .unset, .unset], stack := [], locked := none },
  .native { method := ⟨0, 0⟩, args := #[] }]
def zr_u12 : Nat := 1686
def zr_w12 : State := stepsAlone start1.p0.tables start1.e0 914 (zr_mk zr_w11 zr_h11 zr_f11 zr_u11)
set_option maxRecDepth 16384 in
theorem zr_s12 : zr_run start1.p0.tables start1.e0 (zr_same zr_h12 zr_f12 zr_u12) 914 (zr_mk zr_w11 zr_h11 zr_f11 zr_u11) = true := by decide +kernel
end
section
def zr_h13 : List Cell := [{ cls := 2, slots := #[.ref 31, .ref 37, .ref 40, .ref 45, .ref 49], vm := .none },
  { cls := 3, slots := #[.ref 32, .ref 33, .ref 34, .ref 35, .ref 36, .int 0], vm := .none },
  { cls := 20, slots := #[.int 0, .int 0, .int 1, .int 0], vm := .none },
  { cls := 20, slots := #[.int (-1), .int (-1), .int (-1), .int (-1), .int (-1), .int (-1), .int (-1), .int (-1), .int (-1), .int (-1), .int (-1), .int (-1), .int (-1), .int (-1), .int (-1), .int (-1), .int (-1), .int (-1), .int (-1), .int (-1), .int (-1), .int (-1), .int (-1), .int (-1), .int (-1), .int (-1), .int (-1), .int (-1), .int (-1), .int (-1), .int (-1), .int (-1)], vm := .none },
  { cls := 22, slots := #[.int 0, .int 0, .int 0, .int 0, .int 0, .int 0, .int 0, .int 0, .int 0, .int 0, .int 0, .int 0, .int 0, .int 0, .int 0, .int 0, .int 0, .int 0, .int 0, .int 0, .int 0, .int 0, .int 0, .int 0, .int 0, .int 0, .int 0, .int 0, .int 0, .int 0, .int 0, .int 0], vm := .none },
  { cls := 20, slots := #[.int 0, .int 0, .int 0, .int 0, .int 0, .int 0, .int 0, .int 0, .int 0, .int 0, .int 0, .int 0, .int 0, .int 0, .int 0, .int 0, .int 0, .int 0, .int 0, .int 0, .int 0, .int 0, .int 0, .int 0, .int 0, .int 0, .int 0, .int 0, .int 0, .int 0, .int 0, .int 0], vm := .none },
  { cls := 20, slots := #[.int (-1), .int (-1), .int (-1), .int (-1), .int (-1), .int (-1), .int (-1), .int (-1), .int (-1), .int (-1), .int (-1), .int (-1), .int (-1), .int (-1), .int (-1), .int (-1), .int (-1), .int (-1), .int (-1), .int (-1), .int (-1), .int (-1), .int (-1), .int (-1), .int (-1), .int (-1), .int (-1), .int (-1), .int (-1), .int (-1), .int (-1), .int (-1), .int (-1), .int (-1), .int (-1), .int (-1), .int (-1), .int (-1), .int (-1), .int (-1), .int (-1), .int (-1), .int (-1), .int (-1), .int (-1), .int (-1), .int (-1), .int (-1), .int (-1), .int (-1), .int (-1), .int (-1), .int (-1), .int (-1), .int (-1), .int (-1), .int (-1), .int (-1), .int (-1), .int (-1), .int (-1), .int (-1), .int (-1), .int (-1), .int (-1), .int (-1), .int (-1), .int (-1), .int (-1), .int (-1), .int (-1), .int (-1), .int (-1), .int (-1), .int (-1), .int (-1), .int (-1), .int (-1), .int (-1), .int (-1), .int (-1), .int (-1), .int (-1), .int (-1), .int (-1), .int (-1), .int (-1), .int (-1), .int (-1), .int (-1), .int (-1), .int (-1), .int (-1), .int (-1), .int (-1), .int (-1), .int (-1), .int (-1), .int (-1), .int (-1), .int (-1), .int (-1), .int (-1), .int (-1), .int (-1), .int (-1), .int (-1), .int (-1), .int (-1), .int (-1), .int (-1), .int (-1), .int (-1), .int (-1), .int (-1), .int (-1), .int (-1), .int (-1), .int (-1), .int (-1), .int (-1), .int (-1), .int (-1), .int (-1), .int (-1), .int (-1), .int (-1), .int (-1), .int (-1), .int (-1), .int (-1), .int (-1), .int (-1), .int (-1), .int (-1), .int (-1), .int (-1), .int (-1), .int (-1), .int (-1), .int (-1), .int (-1), .int (-1), .int (-1), .int (-1), .int (-1), .int (-1), .int (-1), .int (-1), .int (-1), .int (-1), .int (-1), .int (-1), .int (-1), .int (-1), .int (-1), .int (-1), .int (-1), .int (-1), .int (-1), .int (-1), .int (-1), .int (-1), .int (-1), .int (-1), .int (-1), .int (-1), .int (-1), .int (-1), .int (-1), .int (-1), .int (-1), .int (-1), .int (-1), .int (-1), .int (-1), .int (-1), .int (-1), .int (-1), .int (-1), .int (-1), .int (-1), .int (-1), .int (-1), .int (-1), .int (-1), .int (-1), .int (-1), .int (-1), .int (-1), .int (-1), .int (-1), .int (-1), .int (-1), .int (-1), .int (-1), .int (-1), .int (-1), .int (-1), .int (-1), .int (-1), .int (-1), .int (-1), .int (-1), .int (-1), .int (-1), .int (-1), .int (-1), .int (-1), .int (-1), .int (-1), .int (-1), .int (-1), .int (-1), .int (-1), .int (-1), .int (-1), .int (-1), .int (-1), .int (-1), .int (-1), .int (-1), .int (-1), .int (-1), .int (-1), .int (-1), .int (-1), .int (-1), .int (-1), .int (-1), .int (-1), .int (-1), .int (-1), .int (-1), .int (-1), .int (-1), .int (-1), .int (-1), .int (-1), .int (-1), .int (-1), .int (-1), .int (-1), .int (-1), .int (-1), .int (-1), .int (-1), .int (-1), .int (-1), .int (-1), .int (-1), .int (-1), .int (-1), .int (-1), .int (-1), .int (-1), .int (-1), .int (-1), .int (-1), .int (-1), .int (-1), .int (-1), .int (-1), .int (-1), .int (-1), .int (-1), .int (-1), .int (-1), .int (-1), .int (-1), .int (-1), .int (-1), .int (-1), .int (-1), .int (-1), .int (-1), .int (-1), .int (-1), .int (-1), .int (-1), .int (-1), .int (-1), .int (-1), .int (-1), .int (-1), .int (-1), .int (-1), .int (-1), .int (-1), .int (-1), .int (-1), .int (-1), .int (-1), .int (-1), .int (-1), .int (-1), .int (-1), .int (-1), .int (-1), .int (-1), .int (-1), .int (-1), .int (-1), .int (-1), .int (-1), .int (-1), .int (-1), .int (-1), .int (-1), .int (-1), .int (-1), .int (-1), .int (-1), .int (-1), .int (-1), .int (-1), .int (-1), .int (-1), .int (-1), .int (-1), .int (-1), .int (-1), .int (-1), .int (-1), .int (-1), .int (-1), .int (-1), .int (-1), .int (-1), .int (-1), .int (-1), .int (-1), .int (-1), .int (-1), .int (-1), .int (-1), .int (-1), .int (-1), .int (-1), .int (-1), .int (-1), .int (-1), .int (-1), .int (-1), .int (-1), .int (-1), .int (-1), .int (-1), .int (-1), .int (-1), .int (-1), .int (-1), .int (-1), .int (-1), .int (-1), .int (-1), .int (-1), .int (-1), .int (-1), .int (-1), .int (-1), .int (-1), .int (-1), .int (-1), .int (-1), .int (-1), .int (-1), .int (-1), .int (-1), .int (-1), .int (-1), .int (-1), .int (-1), .int (-1), .int (-1), .int (-1), .int (-1), .int (-1), .int (-1), .int (-1), .int (-1), .int (-1), .int (-1), .int (-1), .int (-1), .int (-1), .int (-1), .int (-1), .int (-1), .int (-1), .int (-1), .int (-1), .int (-1), .int (-1), .int (-1), .int (-1), .int (-1), .int (-1), .int (-1), .int (-1), .int (-1), .int (-1), .int (-1), .int (-1), .int (-1), .int (-1), .int (-1), .int (-1), .int (-1), .int (-1), .int (-1), .int (-1), .int (-1), .int (-1), .int (-1), .int (-1), .int (-1), .int (-1), .int (-1), .int (-1), .int (-1), .int (-1), .int (-1), .int (-1), .int (-1), .int (-1), .int (-1), .int (-1), .int (-1), .int (-1), .int (-1), .int (-1), .int (-1), .int (-1), .int (-1), .int (-1), .int (-1), .int (-1), .int (-1), .int (-1), .int (-1), .int (-1), .int (-1), .int (-1), .int (-1), .int (-1), .int (-1), .int (-1), .int (-1), .int (-1), .int (-1), .int (-1), .int (-1), .int (-1), .int (-1), .int (-1), .int (-1), .int (-1), .int (-1), .int (-1), .int (-1), .int (-1), .int (-1), .int (-1), .int (-1), .int (-1), .int (-1), .int (-1), .int (-1), .int (-1), .int (-1), .int (-1), .int (-1), .int (-1), .int (-1), .int (-1), .int (-1), .int (-1), .int (-1), .int (-1), .int (-1), .int (-1), .int (-1), .int (-1), .int (-1), .int (-1), .int (-1), .int (-1), .int (-1), .int (-1), .int (-1), .int (-1), .int (-1), .int (-1), .int (-1), .int (-1), .int (-1), .int (-1), .int (-1), .int (-1), .int (-1), .int (-1), .int (-1), .int (-1), .int (-1), .int (-1), .int (-1), .int (-1), .int (-1), .int (-1), .int (-1), .int (-1), .int (-1), .int (-1), .int (-1), .int (-1), .int (-1), .int (-1), .int (-1), .int (-1), .int (-1), .int (-1), .int (-1), .int (-1), .int (-1), .int (-1), .int (-1), .int (-1), .int (-1), .int (-1), .int (-1), .int (-1), .int (-1), .int (-1), .int (-1), .int (-1), .int (-1), .int (-1), .int (-1), .int (-1), .int (-1), .int (-1), .int (-1), .int (-1), .int (-1), .int (-1), .int (-1), .int (-1), .int (-1), .int (-1), .int (-1), .int (-1), .int (-1), .int (-1), .int (-1), .int (-1), .int (-1), .int (-1), .int (-1), .int (-1), .int (-1), .int (-1), .int (-1), .int (-1), .int (-1), .int (-1), .int (-1), .int (-1), .int (-1), .int (-1), .int (-1), .int (-1), .int (-1), .int (-1), .int (-1), .int (-1), .int (-1), .int (-1), .int (-1), .int (-1), .int (-1), .int (-1), .int (-1), .int (-1), .int (-1), .int (-1), .int (-1), .int (-1), .int (-1), .int (-1), .int (-1), .int (-1), .int (-1), .int (-1), .int (-1), .int (-1), .int (-1), .int (-1), .int (-1), .int (-1), .int (-1), .int (-1), .int (-1), .int (-1), .int (-1), .int (-1), .int (-1), .int (-1), .int (-1), .int (-1), .int (-1), .int (-1), .int (-1), .int (-1), .int (-1), .int (-1), .int (-1), .int (-1), .int (-1), .int (-1), .int (-1), .int (-1), .int (-1), .int (-1), .int (-1), .int (-1), .int (-1), .int (-1), .int (-1), .int (-1), .int (-1), .int (-1), .int (-1), .int (-1), .int (-1), .int (-1), .int (-1), .int (-1), .int (-1), .int (-1)], vm := .none },
  { cls := 5, slots := #[.ref 38, .ref 39, .int 0, .int 0], vm := .none },
  { cls := 20, slots := #[.int 0, .int 0, .int 0, .int 0, .int 0, .int 0, .int 0, .int 0, .int 0, .int 0, .int 0, .int 0], vm := .none },
  { cls := 20, slots := #[.int 0, .int 0, .int 0, .int 0, .int 0, .int 0, .int 0, .int 0, .int 0, .int 0, .int 0, .int 0], vm := .none },
  { cls := 6, slots := #[.ref 31, .ref 37, .ref 41, .ref 42, .ref 43, .ref 44, .int 0, .int 0, .int 1, .int 1], vm := .none },
  { cls := 20, slots := #[.int 0, .int 0, .int 0, .int 0, .int 0, .int 0, .int 0, .int 0, .int 0, .int 0, .int 0, .int 0], vm := .none },
  { cls := 20, slots := #[.int 0, .int 0, .int 0, .int 0, .int 0, .int 0, .int 0, .int 0, .int 0, .int 0, .int 0, .int 0], vm := .none },
  { cls := 20, slots := #[.int 0, .int 0, .int 0, .int 0, .int 0, .int 0, .int 0, .int 0, .int 0, .int 0, .int 0, .int 0, .int 0, .int 0, .int 0, .int 0, .int 0, .int 0, .int 0, .int 0, .int 0, .int 0, .int 0, .int 0, .int 0, .int 0, .int 0, .int 0, .int 0, .int 0, .int 0, .int 0, .int 0, .int 0, .int 0, .int 0, .int 0, .int 0, .int 0, .int 0, .int 0, .int 0, .int 0, .int 0, .int 0, .int 0, .int 0, .int 0], vm := .none },
  { cls := 20, slots := #[.int 0, .int 0, .int 0, .int 0, .int 0, .int 0, .int 0, .int 0, .int 0, .int 0, .int 0, .int 0], vm := .none },
  { cls := 7, slots := #[.ref 31, .ref 37, .ref 40, .ref 46, .ref 47, .ref 48, .int 0], vm := .none },
  { cls := 20, slots := #[.int 0, .int 0, .int 0, .int 0, .int 0, .int 0, .int 0, .int 0, .int 0, .int 0, .int 0, .int 0], vm := .none },
  { cls := 20, slots := #[.int 0, .int 0, .int 0, .int 0, .int 0, .int 0, .int 0, .int 0, .int 0, .int 0, .int 0, .int 0], vm := .none },
  { cls := 22, slots := #[.int 0, .int 0, .int 0, .int 0, .int 0, .int 0, .int 0, .int 0, .int 0, .int 0, .int 0, .int 0], vm := .none },
  { cls := 7, slots := #[.ref 31, .ref 37, .ref 40, .ref 50, .ref 51, .ref 52, .int 0], vm := .none },
  { cls := 20, slots := #[.int 0, .int 0, .int 0, .int 0, .int 0, .int 0, .int 0, .int 0, .int 0, .int 0, .int 0, .int 0], vm := .none },
  { cls := 20, slots := #[.int 0, .int 0, .int 0, .int 0, .int 0, .int 0, .int 0, .int 0, .int 0, .int 0, .int 0, .int 0], vm := .none },
  { cls := 22, slots := #[.int 0, .int 0, .int 0, .int 0, .int 0, .int 0, .int 0, .int 0, .int 0, .int 0, .int 0, .int 0], vm := .none },
  { cls := 20, slots := #[.int 0, .int 0, .int 0, .int 0, .int 0, .int 0, .int 0, .int 0, .int 0, .int 0, .int 0, .int 0], vm := .none },
  { cls := 20, slots := #[.int 0, .int 0, .int 0, .int 0, .int 0, .int 0, .int 0, .int 0, .int 0, .int 0, .int 0, .int 0, .int 0, .int 0, .int 0, .int 0, .int 0, .int 0, .int 0, .int 0, .int 0, .int 0, .int 0, .int 0, .int 0, .int 0, .int 0, .int 0, .int 0, .int 0, .int 0, .int 0, .int 0, .int 0, .int 0, .int 0, .int 0, .int 0, .int 0, .int 0, .int 0, .int 0, .int 0, .int 0, .int 0, .int 0, .int 0, .int 0, .int 0, .int 0, .int 0, .int 0, .int 0, .int 0, .int 0, .int 0, .int 0, .int 0, .int 0, .int 0], vm := .none },
  { cls := 20, slots := #[.int 0, .int 0, .int 0, .int 0, .int 0, .int 0], vm := .none },
  { cls := 20, slots := #[.int 0, .int 0, .int 0, .int 0, .int 0, .int 0], vm := .none },
  { cls := 20, slots := #[.int 0, .int 0, .int 0, .int 0, .int 0, .int 0], vm := .none },
  { cls := 20, slots := #[.int 0, .int 0, .int 0, .int 0, .int 0, .int 0], vm := .none },
  { cls := 20, slots := #[.int 0, .int 0, .int 0, .int 0, .int 0, .int 0], vm := .none },
  { cls := 20, slots := #[.int 0, .int 0, .int 0, .int 0, .int 0, .int 0], vm := .none },
  { cls := 20, slots := #[.int 0, .int 0, .int 1, .int 0, .int 0, .int 0, .int 0, .int 0], vm := .none },
  { cls := 15, slots := #[.null, .ref 16, .ref 62, .null, .int 0, .null], vm := .none },
  { cls := 15, slots := #[.null, .ref 16, .ref 63, .null, .int 0, .null], vm := .none },
  { cls := 17, slots := #[.null, .ref 12, .ref 64, .null, .int 0, .null], vm := .none },
  { cls := 15, slots := #[.null, .ref 16, .ref 65, .null, .int 0, .null], vm := .none },
  { cls := 15, slots := #[.null, .ref 16, .ref 66, .null, .int 0, .null], vm := .none },
  { cls := 15, slots := #[.null, .ref 16, .ref 67, .null, .int 0, .null], vm := .none },
  { cls := 17, slots := #[.null, .ref 12, .ref 68, .null, .int 0, .null], vm := .none },
  { cls := 17, slots := #[.null, .ref 12, .ref 69, .null, .int 0, .null], vm := .none },
  { cls := 17, slots := #[.null, .ref 26, .ref 70, .null, .int 0, .null], vm := .none },
  { cls := 17, slots := #[.null, .ref 12, .ref 71, .null, .int 0, .null], vm := .none },
  { cls := 15, slots := #[.null, .ref 16, .ref 72, .null, .int 0, .null], vm := .none },
  { cls := 17, slots := #[.null, .ref 2, .ref 73, .null, .int 0, .null], vm := .none },
  { cls := 17, slots := #[.null, .ref 2, .ref 74, .null, .int 0, .null], vm := .none },
  { cls := 17, slots := #[.null, .ref 4, .ref 75, .null, .int 0, .null], vm := .none },
  { cls := 17, slots := #[.null, .ref 4, .ref 76, .null, .int 0, .null], vm := .none }]
def zr_f13 : List Frame := [.java { method := ⟨0, 3⟩, pc := 2, locals := #[.val (.ref 30), .val (.int 4), .val (.int (-1)), .val (.int 0), .unset, .unset], stack := [.int 4, .ref 30], locked := none },
  .java { method := ⟨0, 23⟩, pc := 56, locals := #[.val (.ref 30), .val (.int 0), .val (.int 99), .val (.int 136), .val (.ref 53), .val (.ref 54), .val (.ref 55), .val (.ref 61), .val (.int 1), .val (.int 0), .val (.int (-1)), .val (.int 0), .unset, .unset, .unset], stack := [], locked := none },
  .java { method := ⟨0, 0⟩, pc := 191, locals := #[.val (.ref 0), .val (.ref 30), .val (.ref 53), .val (.ref 54), .val (.ref 55), .val (.ref 56), .val (.ref 57), .val (.ref 58), .val (.ref 59), .val (.ref 60), .val (.ref 61), .val (.int 1), .val (.int 62), .val (.int 0)], stack := [], locked := none },
  .native { method := ⟨0, 0⟩, args := #[] }]
def zr_u13 : Nat := 1710
def zr_w13 : State := stepsAlone start1.p0.tables start1.e0 844 (zr_mk zr_w12 zr_h12 zr_f12 zr_u12)
set_option maxRecDepth 16384 in
theorem zr_s13 : zr_run start1.p0.tables start1.e0 (zr_same zr_h13 zr_f13 zr_u13) 844 (zr_mk zr_w12 zr_h12 zr_f12 zr_u12) = true := by decide +kernel
end
section
def zr_h14 : List Cell := [{ cls := 2, slots := #[.ref 31, .ref 37, .ref 40, .ref 45, .ref 49], vm := .none },
  { cls := 3, slots := #[.ref 32, .ref 33, .ref 34, .ref 35, .ref 36, .int 0], vm := .none },
  { cls := 20, slots := #[.int 0, .int 1, .int 1, .int 0], vm := .none },
  { cls := 20, slots := #[.int (-1), .int (-1), .int (-1), .int (-1), .int (-1), .int (-1), .int (-1), .int (-1), .int (-1), .int (-1), .int (-1), .int (-1), .int (-1), .int (-1), .int (-1), .int (-1), .int (-1), .int (-1), .int (-1), .int (-1), .int (-1), .int (-1), .int (-1), .int (-1), .int (-1), .int (-1), .int (-1), .int (-1), .int (-1), .int (-1), .int (-1), .int (-1)], vm := .none },
  { cls := 22, slots := #[.int 0, .int 0, .int 0, .int 0, .int 0, .int 0, .int 0, .int 0, .int 0, .int 0, .int 0, .int 0, .int 0, .int 0, .int 0, .int 0, .int 0, .int 0, .int 0, .int 0, .int 0, .int 0, .int 0, .int 0, .int 0, .int 0, .int 0, .int 0, .int 0, .int 0, .int 0, .int 0], vm := .none },
  { cls := 20, slots := #[.int 0, .int 0, .int 0, .int 0, .int 0, .int 0, .int 0, .int 0, .int 0, .int 0, .int 0, .int 0, .int 0, .int 0, .int 0, .int 0, .int 0, .int 0, .int 0, .int 0, .int 0, .int 0, .int 0, .int 0, .int 0, .int 0, .int 0, .int 0, .int 0, .int 0, .int 0, .int 0], vm := .none },
  { cls := 20, slots := #[.int (-1), .int (-1), .int (-1), .int (-1), .int (-1), .int (-1), .int (-1), .int (-1), .int (-1), .int (-1), .int (-1), .int (-1), .int (-1), .int (-1), .int (-1), .int (-1), .int (-1), .int (-1), .int (-1), .int (-1), .int (-1), .int (-1), .int (-1), .int (-1), .int (-1), .int (-1), .int (-1), .int (-1), .int (-1), .int (-1), .int (-1), .int (-1), .int (-1), .int (-1), .int (-1), .int (-1), .int (-1), .int (-1), .int (-1), .int (-1), .int (-1), .int (-1), .int (-1), .int (-1), .int (-1), .int (-1), .int (-1), .int (-1), .int (-1), .int (-1), .int (-1), .int (-1), .int (-1), .int (-1), .int (-1), .int (-1), .int (-1), .int (-1), .int (-1), .int (-1), .int (-1), .int (-1), .int (-1), .int (-1), .int (-1), .int (-1), .int (-1), .int (-1), .int (-1), .int (-1), .int (-1), .int (-1), .int (-1), .int (-1), .int (-1), .int (-1), .int (-1), .int (-1), .int (-1), .int (-1), .int (-1), .int (-1), .int (-1), .int (-1), .int (-1), .int (-1), .int (-1), .int (-1), .int (-1), .int (-1), .int (-1), .int (-1), .int (-1), .int (-1), .int (-1), .int (-1), .int (-1), .int (-1), .int (-1), .int (-1), .int (-1), .int (-1), .int (-1), .int (-1), .int (-1), .int (-1), .int (-1), .int (-1), .int (-1), .int (-1), .int (-1), .int (-1), .int (-1), .int (-1), .int (-1), .int (-1), .int (-1), .int (-1), .int (-1), .int (-1), .int (-1), .int (-1), .int (-1), .int (-1), .int (-1), .int (-1), .int (-1), .int (-1), .int (-1), .int (-1), .int (-1), .int (-1), .int (-1), .int (-1), .int (-1), .int (-1), .int (-1), .int (-1), .int (-1), .int (-1), .int (-1), .int (-1), .int (-1), .int (-1), .int (-1), .int (-1), .int (-1), .int (-1), .int (-1), .int (-1), .int (-1), .int (-1), .int (-1), .int (-1), .int (-1), .int (-1), .int (-1), .int (-1), .int (-1), .int (-1), .int (-1), .int (-1), .int (-1), .int (-1), .int (-1), .int (-1), .int (-1), .int (-1), .int (-1), .int (-1), .int (-1), .int (-1), .int (-1), .int (-1), .int (-1), .int (-1), .int (-1), .int (-1), .int (-1), .int (-1), .int (-1), .int (-1), .int (-1), .int (-1), .int (-1), .int (-1), .int (-1), .int (-1), .int (-1), .int (-1), .int (-1), .int (-1), .int (-1), .int (-1), .int (-1), .int (-1), .int (-1), .int (-1), .int (-1), .int (-1), .int (-1), .int (-1), .int (-1), .int (-1), .int (-1), .int (-1), .int (-1), .int (-1), .int (-1), .int (-1), .int (-1), .int (-1), .int (-1), .int (-1), .int (-1), .int (-1), .int (-1), .int (-1), .int (-1), .int (-1), .int (-1), .int (-1), .int (-1), .int (-1), .int (-1), .int (-1), .int (-1), .int (-1), .int (-1), .int (-1), .int (-1), .int (-1), .int (-1), .int (-1), .int (-1), .int (-1), .int (-1), .int (-1), .int (-1), .int (-1), .int (-1), .int (-1), .int (-1), .int (-1), .int (-1), .int (-1), .int (-1), .int (-1), .int (-1), .int (-1), .int (-1), .int (-1), .int (-1), .int (-1), .int (-1), .int (-1), .int (-1), .int (-1), .int (-1), .int (-1), .int (-1), .int (-1), .int (-1), .int (-1), .int (-1), .int (-1), .int (-1), .int (-1), .int (-1), .int (-1), .int (-1), .int (-1), .int (-1), .int (-1), .int (-1), .int (-1), .int (-1), .int (-1), .int (-1), .int (-1), .int (-1), .int (-1), .int (-1), .int (-1), .int (-1), .int (-1), .int (-1), .int (-1), .int (-1), .int (-1), .int (-1), .int (-1), .int (-1), .int (-1), .int (-1), .int (-1), .int (-1), .int (-1), .int (-1), .int (-1), .int (-1), .int (-1), .int (-1), .int (-1), .int (-1), .int (-1), .int (-1), .int (-1), .int (-1), .int (-1), .int (-1), .int (-1), .int (-1), .int (-1), .int (-1), .int (-1), .int (-1), .int (-1), .int (-1), .int (-1), .int (-1), .int (-1), .int (-1), .int (-1), .int (-1), .int (-1), .int (-1), .int (-1), .int (-1), .int (-1), .int (-1), .int (-1), .int (-1), .int (-1), .int (-1), .int (-1), .int (-1), .int (-1), .int (-1), .int (-1), .int (-1), .int (-1), .int (-1), .int (-1), .int (-1), .int (-1), .int (-1), .int (-1), .int (-1), .int (-1), .int (-1), .int (-1), .int (-1), .int (-1), .int (-1), .int (-1), .int (-1), .int (-1), .int (-1), .int (-1), .int (-1), .int (-1), .int (-1), .int (-1), .int (-1), .int (-1), .int (-1), .int (-1), .int (-1), .int (-1), .int (-1), .int (-1), .int (-1), .int (-1), .int (-1), .int (-1), .int (-1), .int (-1), .int (-1), .int (-1), .int (-1), .int (-1), .int (-1), .int (-1), .int (-1), .int (-1), .int (-1), .int (-1), .int (-1), .int (-1), .int (-1), .int (-1), .int (-1), .int (-1), .int (-1), .int (-1), .int (-1), .int (-1), .int (-1), .int (-1), .int (-1), .int (-1), .int (-1), .int (-1), .int (-1), .int (-1), .int (-1), .int (-1), .int (-1), .int (-1), .int (-1), .int (-1), .int (-1), .int (-1), .int (-1), .int (-1), .int (-1), .int (-1), .int (-1), .int (-1), .int (-1), .int (-1), .int (-1), .int (-1), .int (-1), .int (-1), .int (-1), .int (-1), .int (-1), .int (-1), .int (-1), .int (-1), .int (-1), .int (-1), .int (-1), .int (-1), .int (-1), .int (-1), .int (-1), .int (-1), .int (-1), .int (-1), .int (-1), .int (-1), .int (-1), .int (-1), .int (-1), .int (-1), .int (-1), .int (-1), .int (-1), .int (-1), .int (-1), .int (-1), .int (-1), .int (-1), .int (-1), .int (-1), .int (-1), .int (-1), .int (-1), .int (-1), .int (-1), .int (-1), .int (-1), .int (-1), .int (-1), .int (-1), .int (-1), .int (-1), .int (-1), .int (-1), .int (-1), .int (-1), .int (-1), .int (-1), .int (-1), .int (-1), .int (-1), .int (-1), .int (-1), .int (-1), .int (-1), .int (-1), .int (-1), .int (-1), .int (-1), .int (-1), .int (-1), .int (-1), .int (-1), .int (-1), .int (-1), .int (-1), .int (-1), .int (-1), .int (-1), .int (-1), .int (-1), .int (-1), .int (-1), .int (-1), .int (-1), .int (-1), .int (-1), .int (-1), .int (-1), .int (-1), .int (-1), .int (-1), .int (-1), .int (-1), .int (-1), .int (-1), .int (-1), .int (-1), .int (-1), .int (-1), .int (-1), .int (-1), .int (-1), .int (-1), .int (-1), .int (-1), .int (-1), .int (-1), .int (-1), .int (-1), .int (-1), .int (-1), .int (-1), .int (-1), .int (-1), .int (-1), .int (-1), .int (-1), .int (-1), .int (-1), .int (-1), .int (-1), .int (-1), .int (-1), .int (-1), .int (-1), .int (-1), .int (-1), .int (-1), .int (-1), .int (-1), .int (-1), .int (-1), .int (-1), .int (-1), .int (-1), .int (-1), .int (-1), .int (-1), .int (-1), .int (-1), .int (-1), .int (-1), .int (-1), .int (-1), .int (-1), .int (-1), .int (-1), .int (-1), .int (-1), .int (-1), .int (-1), .int (-1), .int (-1), .int (-1), .int (-1), .int (-1), .int (-1), .int (-1), .int (-1), .int (-1), .int (-1), .int (-1), .int (-1), .int (-1), .int (-1), .int (-1), .int (-1), .int (-1), .int (-1), .int (-1), .int (-1), .int (-1), .int (-1), .int (-1), .int (-1), .int (-1), .int (-1), .int (-1), .int (-1), .int (-1), .int (-1), .int (-1), .int (-1), .int (-1), .int (-1), .int (-1), .int (-1), .int (-1), .int (-1), .int (-1), .int (-1), .int (-1), .int (-1), .int (-1), .int (-1), .int (-1), .int (-1), .int (-1), .int (-1), .int (-1), .int (-1), .int (-1), .int (-1), .int (-1), .int (-1), .int (-1), .int (-1), .int (-1), .int (-1), .int (-1), .int (-1), .int (-1), .int (-1), .int (-1), .int (-1), .int (-1), .int (-1), .int (-1), .int (-1), .int (-1), .int (-1)], vm := .none },
  { cls := 5, slots := #[.ref 38, .ref 39, .int 0, .int 0], vm := .none },
  { cls := 20, slots := #[.int 0, .int 0, .int 0, .int 0, .int 0, .int 0, .int 0, .int 0, .int 0, .int 0, .int 0, .int 0], vm := .none },
  { cls := 20, slots := #[.int 0, .int 0, .int 0, .int 0, .int 0, .int 0, .int 0, .int 0, .int 0, .int 0, .int 0, .int 0], vm := .none },
  { cls := 6, slots := #[.ref 31, .ref 37, .ref 41, .ref 42, .ref 43, .ref 44, .int 0, .int 0, .int 1, .int 1], vm := .none },
  { cls := 20, slots := #[.int 0, .int 0, .int 0, .int 0, .int 0, .int 0, .int 0, .int 0, .int 0, .int 0, .int 0, .int 0], vm := .none },
  { cls := 20, slots := #[.int 0, .int 0, .int 0, .int 0, .int 0, .int 0, .int 0, .int 0, .int 0, .int 0, .int 0, .int 0], vm := .none },
  { cls := 20, slots := #[.int 0, .int 0, .int 0, .int 0, .int 0, .int 0, .int 0, .int 0, .int 0, .int 0, .int 0, .int 0, .int 0, .int 0, .int 0, .int 0, .int 0, .int 0, .int 0, .int 0, .int 0, .int 0, .int 0, .int 0, .int 0, .int 0, .int 0, .int 0, .int 0, .int 0, .int 0, .int 0, .int 0, .int 0, .int 0, .int 0, .int 0, .int 0, .int 0, .int 0, .int 0, .int 0, .int 0, .int 0, .int 0, .int 0, .int 0, .int 0], vm := .none },
  { cls := 20, slots := #[.int 0, .int 0, .int 0, .int 0, .int 0, .int 0, .int 0, .int 0, .int 0, .int 0, .int 0, .int 0], vm := .none },
  { cls := 7, slots := #[.ref 31, .ref 37, .ref 40, .ref 46, .ref 47, .ref 48, .int 0], vm := .none },
  { cls := 20, slots := #[.int 0, .int 0, .int 0, .int 0, .int 0, .int 0, .int 0, .int 0, .int 0, .int 0, .int 0, .int 0], vm := .none },
  { cls := 20, slots := #[.int 0, .int 0, .int 0, .int 0, .int 0, .int 0, .int 0, .int 0, .int 0, .int 0, .int 0, .int 0], vm := .none },
  { cls := 22, slots := #[.int 0, .int 0, .int 0, .int 0, .int 0, .int 0, .int 0, .int 0, .int 0, .int 0, .int 0, .int 0], vm := .none },
  { cls := 7, slots := #[.ref 31, .ref 37, .ref 40, .ref 50, .ref 51, .ref 52, .int 0], vm := .none },
  { cls := 20, slots := #[.int 0, .int 0, .int 0, .int 0, .int 0, .int 0, .int 0, .int 0, .int 0, .int 0, .int 0, .int 0], vm := .none },
  { cls := 20, slots := #[.int 0, .int 0, .int 0, .int 0, .int 0, .int 0, .int 0, .int 0, .int 0, .int 0, .int 0, .int 0], vm := .none },
  { cls := 22, slots := #[.int 0, .int 0, .int 0, .int 0, .int 0, .int 0, .int 0, .int 0, .int 0, .int 0, .int 0, .int 0], vm := .none },
  { cls := 20, slots := #[.int 0, .int 0, .int 0, .int 0, .int 0, .int 0, .int 0, .int 0, .int 0, .int 0, .int 0, .int 0], vm := .none },
  { cls := 20, slots := #[.int 0, .int 0, .int 0, .int 0, .int 0, .int 0, .int 0, .int 0, .int 0, .int 0, .int 0, .int 0, .int 0, .int 0, .int 0, .int 0, .int 0, .int 0, .int 0, .int 0, .int 0, .int 0, .int 0, .int 0, .int 0, .int 0, .int 0, .int 0, .int 0, .int 0, .int 0, .int 0, .int 0, .int 0, .int 0, .int 0, .int 0, .int 0, .int 0, .int 0, .int 0, .int 0, .int 0, .int 0, .int 0, .int 0, .int 0, .int 0, .int 0, .int 0, .int 0, .int 0, .int 0, .int 0, .int 0, .int 0, .int 0, .int 0, .int 0, .int 0], vm := .none },
  { cls := 20, slots := #[.int 0, .int 0, .int 0, .int 0, .int 0, .int 0], vm := .none },
  { cls := 20, slots := #[.int 0, .int 0, .int 0, .int 0, .int 0, .int 0], vm := .none },
  { cls := 20, slots := #[.int 0, .int 0, .int 0, .int 0, .int 0, .int 0], vm := .none },
  { cls := 20, slots := #[.int 0, .int 0, .int 0, .int 0, .int 0, .int 0], vm := .none },
  { cls := 20, slots := #[.int 0, .int 0, .int 0, .int 0, .int 0, .int 0], vm := .none },
  { cls := 20, slots := #[.int 0, .int 0, .int 0, .int 0, .int 0, .int 0], vm := .none },
  { cls := 20, slots := #[.int 0, .int 1, .int 1, .int 0, .int 0, .int 0, .int 0, .int 0], vm := .none },
  { cls := 15, slots := #[.null, .ref 16, .ref 62, .null, .int 0, .null], vm := .none },
  { cls := 15, slots := #[.null, .ref 16, .ref 63, .null, .int 0, .null], vm := .none },
  { cls := 17, slots := #[.null, .ref 12, .ref 64, .null, .int 0, .null], vm := .none },
  { cls := 15, slots := #[.null, .ref 16, .ref 65, .null, .int 0, .null], vm := .none },
  { cls := 15, slots := #[.null, .ref 16, .ref 66, .null, .int 0, .null], vm := .none },
  { cls := 15, slots := #[.null, .ref 16, .ref 67, .null, .int 0, .null], vm := .none },
  { cls := 17, slots := #[.null, .ref 12, .ref 68, .null, .int 0, .null], vm := .none },
  { cls := 17, slots := #[.null, .ref 12, .ref 69, .null, .int 0, .null], vm := .none },
  { cls := 17, slots := #[.null, .ref 26, .ref 70, .null, .int 0, .null], vm := .none },
  { cls := 17, slots := #[.null, .ref 12, .ref 71, .null, .int 0, .null], vm := .none },
  { cls := 15, slots := #[.null, .ref 16, .ref 72, .null, .int 0, .null], vm := .none },
  { cls := 17, slots := #[.null, .ref 2, .ref 73, .null, .int 0, .null], vm := .none },
  { cls := 17, slots := #[.null, .ref 2, .ref 74, .null, .int 0, .null], vm := .none },
  { cls := 17, slots := #[.null, .ref 4, .ref 75, .null, .int 0, .null], vm := .none },
  { cls := 17, slots := #[.null, .ref 4, .ref 76, .null, .int 0, .null], vm := .none },
  { cls := 17, slots := #[.null, .ref 2, .ref 77, .null, .int 0, .null], vm := .none },
  { cls := 17, slots := #[.null, .ref 2, .ref 78, .null, .int 0, .null], vm := .none },
  { cls := 17, slots := #[.null, .ref 4, .ref 79, .null, .int 0, .null], vm := .none },
  { cls := 17, slots := #[.null, .ref 4, .ref 80, .null, .int 0, .null], vm := .none },
  { cls := 17, slots := #[.null, .ref 2, .ref 81, .null, .int 0, .null], vm := .none },
  { cls := 17, slots := #[.null, .ref 2, .ref 82, .null, .int 0, .null], vm := .none },
  { cls := 17, slots := #[.null, .ref 4, .ref 83, .null, .int 0, .null], vm := .none },
  { cls := 17, slots := #[.null, .null, .null, .null, .int 0, .null], vm := .none }]
def zr_f14 : List Frame := [.java { method := ⟨11, 1⟩, pc := 0, locals := #[.val (.ref 84), .val (.ref 4)], stack := [], locked := none },
  .java { method := ⟨13, 1⟩, pc := 2, locals := #[.val (.ref 84), .val (.ref 4)], stack := [], locked := none },
  .java { method := ⟨14, 1⟩, pc := 2, locals := #[.val (.ref 84), .val (.ref 4)], stack := [], locked := none },
  .java { method := ⟨17, 0⟩, pc := 2, locals := #[.val (.ref 84), .val (.ref 4)], stack := [], locked := none },
  .java { method := ⟨2, 1⟩, pc := 22, locals := #[.val (.ref 30), .val (.int 2), .val (.int (-2)), .val (.int 0)], stack := [.ref 84], locked := none },
  .java { method := ⟨0, 3⟩, pc := 4, locals := #[.val (.ref 30), .val (.int 2), .val (.int (-2)), .val (.int 0), .unset, .unset], stack := [], locked := none },
  .java { method := ⟨0, 23⟩, pc := 99, locals := #[.val (.ref 30), .val (.int 0), .val (.int (-41)), .val (.int (-4)), .val (.ref 53), .val (.ref 54), .val (.ref 55), .val (.ref 61), .val (.int 2), .val (.int 0), .val (.int 1), .val (.int 0), .unset, .unset, .unset], stack := [], locked := none },
  .java { method := ⟨0, 0⟩, pc := 191, locals := #[.val (.ref 0), .val (.ref 30), .val (.ref 53), .val (.ref 54), .val (.ref 55), .val (.ref 56), .val (.ref 57), .val (.ref 58), .val (.ref 59), .val (.ref 60), .val (.ref 61), .val (.int 2), .val (.int 173), .val (.int 0)], stack := [], locked := none },
  .native { method := ⟨0, 0⟩, args := #[] }]
def zr_u14 : Nat := 1758
def zr_w14 : State := stepsAlone start1.p0.tables start1.e0 880 (zr_mk zr_w13 zr_h13 zr_f13 zr_u13)
set_option maxRecDepth 16384 in
theorem zr_s14 : zr_run start1.p0.tables start1.e0 (zr_same zr_h14 zr_f14 zr_u14) 880 (zr_mk zr_w13 zr_h13 zr_f13 zr_u13) = true := by decide +kernel
end
section
def zr_h15 : List Cell := [{ cls := 2, slots := #[.ref 31, .ref 37, .ref 40, .ref 45, .ref 49], vm := .none },
  { cls := 3, slots := #[.ref 32, .ref 33, .ref 34, .ref 35, .ref 36, .int 0], vm := .none },
  { cls := 20, slots := #[.int 0, .int 1, .int 3, .int 0], vm := .none },
  { cls := 20, slots := #[.int (-1), .int (-1), .int (-1), .int (-1), .int (-1), .int (-1), .int (-1), .int (-1), .int (-1), .int (-1), .int (-1), .int (-1), .int (-1), .int (-1), .int (-1), .int (-1), .int (-1), .int 1, .int 0, .int (-1), .int (-1), .int (-1), .int (-1), .int (-1), .int (-1), .int (-1), .int (-1), .int (-1), .int (-1), .int (-1), .int (-1), .int (-1)], vm := .none },
  { cls := 22, slots := #[.int 0, .int 0, .int 0, .int 0, .int 0, .int 0, .int 0, .int 0, .int 0, .int 0, .int 0, .int 0, .int 0, .int 0, .int 0, .int 0, .int 0, .int 0, .int 0, .int 0, .int 0, .int 0, .int 0, .int 0, .int 0, .int 0, .int 0, .int 0, .int 0, .int 0, .int 0, .int 0], vm := .none },
  { cls := 20, slots := #[.int 0, .int 0, .int 0, .int 0, .int 0, .int 0, .int 0, .int 0, .int 0, .int 0, .int 0, .int 0, .int 0, .int 0, .int 0, .int 0, .int 0, .int 0, .int 0, .int 0, .int 0, .int 0, .int 0, .int 0, .int 0, .int 0, .int 0, .int 0, .int 0, .int 0, .int 0, .int 0], vm := .none },
  { cls := 20, slots := #[.int (-1), .int (-1), .int (-1), .int (-1), .int (-1), .int (-1), .int (-1), .int (-1), .int (-1), .int (-1), .int (-1), .int (-1), .int (-1), .int (-1), .int (-1), .int (-1), .int (-1), .int (-1), .int (-1), .int (-1), .int (-1), .int (-1), .int (-1), .int (-1), .int (-1), .int (-1), .int (-1), .int (-1), .int (-1), .int (-1), .int (-1), .int (-1), .int (-1), .int (-1), .int (-1), .int (-1), .int (-1), .int (-1), .int (-1), .int (-1), .int (-1), .int (-1), .int (-1), .int (-1), .int (-1), .int (-1), .int (-1), .int (-1), .int (-1), .int (-1), .int (-1), .int (-1), .int (-1), .int (-1), .int (-1), .int (-1), .int (-1), .int (-1), .int (-1), .int (-1), .int (-1), .int (-1), .int (-1), .int (-1), .int (-1), .int (-1), .int (-1), .int (-1), .int (-1), .int (-1), .int (-1), .int (-1), .int (-1), .int (-1), .int (-1), .int (-1), .int (-1), .int (-1), .int (-1), .int (-1), .int (-1), .int (-1), .int (-1), .int (-1), .int (-1), .int (-1), .int (-1), .int (-1), .int (-1), .int (-1), .int (-1), .int (-1), .int (-1), .int (-1), .int (-1), .int (-1), .int (-1), .int (-1), .int (-1), .int (-1), .int (-1), .int (-1), .int (-1), .int (-1), .int (-1), .int (-1), .int (-1), .int (-1), .int (-1), .int (-1), .int (-1), .int (-1), .int (-1), .int (-1), .int (-1), .int (-1), .int (-1), .int (-1), .int (-1), .int (-1), .int (-1), .int (-1), .int (-1), .int (-1), .int (-1), .int (-1), .int (-1), .int (-1), .int (-1), .int (-1), .int (-1), .int (-1), .int (-1), .int (-1), .int (-1), .int (-1), .int (-1), .int (-1), .int (-1), .int (-1), .int (-1), .int (-1), .int (-1), .int (-1), .int (-1), .int (-1), .int (-1), .int (-1), .int (-1), .int (-1), .int (-1), .int (-1), .int (-1), .int (-1), .int (-1), .int (-1), .int (-1), .int (-1), .int (-1), .int (-1), .int (-1), .int (-1), .int (-1), .int (-1), .int (-1), .int (-1), .int (-1), .int (-1), .int (-1), .int (-1), .int (-1), .int (-1), .int (-1), .int (-1), .int (-1), .int (-1), .int (-1), .int (-1), .int (-1), .int (-1), .int (-1), .int (-1), .int (-1), .int (-1), .int (-1), .int (-1), .int (-1), .int (-1), .int (-1), .int (-1), .int (-1), .int (-1), .int (-1), .int (-1), .int (-1), .int (-1), .int (-1), .int (-1), .int (-1), .int (-1), .int (-1), .int (-1), .int (-1), .int (-1), .int (-1), .int (-1), .int (-1), .int (-1), .int (-1), .int (-1), .int (-1), .int (-1), .int (-1), .int (-1), .int (-1), .int (-1), .int (-1), .int (-1), .int (-1), .int (-1), .int (-1), .int (-1), .int (-1), .int (-1), .int (-1), .int (-1), .int (-1), .int (-1), .int (-1), .int (-1), .int (-1), .int (-1), .int (-1), .int (-1), .int (-1), .int (-1), .int (-1), .int (-1), .int (-1), .int (-1), .int (-1), .int (-1), .int (-1), .int (-1), .int (-1), .int (-1), .int (-1), .int (-1), .int (-1), .int (-1), .int (-1), .int (-1), .int (-1), .int (-1), .int (-1), .int (-1), .int (-1), .int (-1), .int (-1), .int (-1), .int (-1), .int (-1), .int (-1), .int (-1), .int (-1), .int (-1), .int (-1), .int (-1), .int (-1), .int (-1), .int (-1), .int (-1), .int (-1), .int (-1), .int (-1), .int (-1), .int (-1), .int (-1), .int (-1), .int (-1), .int (-1), .int (-1), .int (-1), .int (-1), .int (-1), .int (-1), .int (-1), .int (-1), .int (-1), .int (-1), .int (-1), .int (-1), .int (-1), .int (-1), .int (-1), .int (-1), .int (-1), .int (-1), .int (-1), .int (-1), .int (-1), .int (-1), .int (-1), .int (-1), .int (-1), .int (-1), .int (-1), .int (-1), .int (-1), .int (-1), .int (-1), .int (-1), .int (-1), .int (-1), .int (-1), .int (-1), .int (-1), .int (-1), .int (-1), .int (-1), .int (-1), .int (-1), .int (-1), .int (-1), .int (-1), .int (-1), .int (-1), .int (-1), .int (-1), .int (-1), .int (-1), .int (-1), .int (-1), .int (-1), .int (-1), .int (-1), .int (-1), .int (-1), .int (-1), .int (-1), .int (-1), .int (-1), .int (-1), .int (-1), .int (-1), .int (-1), .int (-1), .int (-1), .int (-1), .int (-1), .int (-1), .int (-1), .int (-1), .int (-1), .int (-1), .int (-1), .int (-1), .int (-1), .int (-1), .int (-1), .int (-1), .int (-1), .int (-1), .int (-1), .int (-1), .int (-1), .int (-1), .int (-1), .int (-1), .int (-1), .int (-1), .int (-1), .int (-1), .int (-1), .int (-1), .int (-1), .int (-1), .int (-1), .int (-1), .int (-1), .int (-1), .int (-1), .int (-1), .int (-1), .int (-1), .int (-1), .int (-1), .int (-1), .int (-1), .int (-1), .int (-1), .int (-1), .int (-1), .int (-1), .int (-1), .int (-1), .int (-1), .int (-1), .int (-1), .int (-1), .int (-1), .int (-1), .int (-1), .int (-1), .int (-1), .int (-1), .int (-1), .int (-1), .int (-1), .int (-1), .int (-1), .int (-1), .int (-1), .int (-1), .int (-1), .int (-1), .int (-1), .int (-1), .int (-1), .int (-1), .int (-1), .int (-1), .int (-1), .int (-1), .int (-1), .int (-1), .int (-1), .int (-1), .int (-1), .int (-1), .int (-1), .int (-1), .int (-1), .int (-1), .int (-1), .int (-1), .int (-1), .int (-1), .int (-1), .int (-1), .int (-1), .int (-1), .int (-1), .int (-1), .int (-1), .int (-1), .int (-1), .int (-1), .int (-1), .int (-1), .int (-1), .int (-1), .int (-1), .int (-1), .int (-1), .int (-1), .int (-1), .int (-1), .int (-1), .int (-1), .int (-1), .int (-1), .int (-1), .int (-1), .int (-1), .int (-1), .int (-1), .int (-1), .int (-1), .int (-1), .int (-1), .int (-1), .int (-1), .int (-1), .int (-1), .int (-1), .int (-1), .int (-1), .int (-1), .int (-1), .int (-1), .int (-1), .int (-1), .int (-1), .int (-1), .int (-1), .int (-1), .int (-1), .int (-1), .int (-1), .int (-1), .int (-1), .int (-1), .int (-1), .int (-1), .int (-1), .int (-1), .int (-1), .int (-1), .int (-1), .int (-1), .int (-1), .int (-1), .int (-1), .int (-1), .int (-1), .int (-1), .int (-1), .int (-1), .int (-1), .int (-1), .int (-1), .int (-1), .int (-1), .int (-1), .int (-1), .int (-1), .int (-1), .int (-1), .int (-1), .int (-1), .int (-1), .int (-1), .int (-1), .int (-1), .int (-1), .int (-1), .int (-1), .int (-1), .int (-1), .int (-1), .int (-1), .int (-1), .int (-1), .int (-1), .int (-1), .int (-1), .int (-1), .int (-1), .int (-1), .int (-1), .int (-1), .int (-1), .int (-1), .int (-1), .int (-1), .int (-1), .int (-1), .int (-1), .int (-1), .int (-1), .int (-1), .int (-1), .int (-1), .int (-1), .int (-1), .int (-1), .int (-1), .int (-1), .int (-1), .int (-1), .int (-1), .int (-1), .int (-1), .int (-1), .int (-1), .int (-1), .int (-1), .int (-1), .int (-1), .int (-1), .int (-1), .int (-1), .int (-1), .int (-1), .int (-1), .int (-1), .int (-1), .int (-1), .int (-1), .int (-1), .int (-1), .int (-1), .int (-1), .int (-1), .int (-1), .int (-1), .int (-1), .int (-1), .int (-1), .int (-1), .int (-1), .int (-1), .int (-1), .int (-1), .int (-1), .int (-1), .int (-1), .int (-1), .int (-1), .int (-1), .int (-1), .int (-1), .int (-1), .int (-1), .int (-1), .int (-1), .int (-1), .int (-1), .int (-1), .int (-1), .int (-1), .int (-1), .int (-1), .int (-1), .int (-1), .int (-1), .int (-1), .int (-1), .int (-1), .int (-1), .int (-1), .int (-1), .int (-1), .int (-1), .int (-1), .int (-1), .int (-1), .int (-1), .int (-1), .int (-1), .int (-1), .int (-1), .int (-1), .int (-1), .int (-1), .int (-1), .int (-1), .int (-1), .int (-1)], vm := .none },
  { cls := 5, slots := #[.ref 38, .ref 39, .int 0, .int 0], vm := .none },
  { cls := 20, slots := #[.int 0, .int 0, .int 0, .int 0, .int 0, .int 0, .int 0, .int 0, .int 0, .int 0, .int 0, .int 0], vm := .none },
  { cls := 20, slots := #[.int 0, .int 0, .int 0, .int 0, .int 0, .int 0, .int 0, .int 0, .int 0, .int 0, .int 0, .int 0], vm := .none },
  { cls := 6, slots := #[.ref 31, .ref 37, .ref 41, .ref 42, .ref 43, .ref 44, .int 0, .int 0, .int 1, .int 1], vm := .none },
  { cls := 20, slots := #[.int 0, .int 0, .int 0, .int 0, .int 0, .int 0, .int 0, .int 0, .int 0, .int 0, .int 0, .int 0], vm := .none },
  { cls := 20, slots := #[.int 0, .int 0, .int 0, .int 0, .int 0, .int 0, .int 0, .int 0, .int 0, .int 0, .int 0, .int 0], vm := .none },
  { cls := 20, slots := #[.int 0, .int 0, .int 0, .int 0, .int 0, .int 0, .int 0, .int 0, .int 0, .int 0, .int 0, .int 0, .int 0, .int 0, .int 0, .int 0, .int 0, .int 0, .int 0, .int 0, .int 0, .int 0, .int 0, .int 0, .int 0, .int 0, .int 0, .int 0, .int 0, .int 0, .int 0, .int 0, .int 0, .int 0, .int 0, .int 0, .int 0, .int 0, .int 0, .int 0, .int 0, .int 0, .int 0, .int 0, .int 0, .int 0, .int 0, .int 0], vm := .none },
  { cls := 20, slots := #[.int 0, .int 0, .int 0, .int 0, .int 0, .int 0, .int 0, .int 0, .int 0, .int 0, .int 0, .int 0], vm := .none },
  { cls := 7, slots := #[.ref 31, .ref 37, .ref 40, .ref 46, .ref 47, .ref 48, .int 0], vm := .none },
  { cls := 20, slots := #[.int 0, .int 0, .int 0, .int 0, .int 0, .int 0, .int 0, .int 0, .int 0, .int 0, .int 0, .int 0], vm := .none },
  { cls := 20, slots := #[.int 0, .int 0, .int 0, .int 0, .int 0, .int 0, .int 0, .int 0, .int 0, .int 0, .int 0, .int 0], vm := .none },
  { cls := 22, slots := #[.int 0, .int 0, .int 0, .int 0, .int 0, .int 0, .int 0, .int 0, .int 0, .int 0, .int 0, .int 0], vm := .none },
  { cls := 7, slots := #[.ref 31, .ref 37, .ref 40, .ref 50, .ref 51, .ref 52, .int 0], vm := .none },
  { cls := 20, slots := #[.int 0, .int 0, .int 0, .int 0, .int 0, .int 0, .int 0, .int 0, .int 0, .int 0, .int 0, .int 0], vm := .none },
  { cls := 20, slots := #[.int 0, .int 0, .int 0, .int 0, .int 0, .int 0, .int 0, .int 0, .int 0, .int 0, .int 0, .int 0], vm := .none },
  { cls := 22, slots := #[.int 0, .int 0, .int 0, .int 0, .int 0, .int 0, .int 0, .int 0, .int 0, .int 0, .int 0, .int 0], vm := .none },
  { cls := 20, slots := #[.int 0, .int 0, .int 0, .int 0, .int 0, .int 0, .int 0, .int 0, .int 0, .int 2, .int 1, .int 0], vm := .none },
  { cls := 20, slots := #[.int 0, .int 0, .int 0, .int 0, .int 0, .int 0, .int 0, .int 0, .int 0, .int 0, .int 0, .int 0, .int 0, .int 0, .int 0, .int 0, .int 0, .int 0, .int 0, .int 0, .int 0, .int 0, .int 0, .int 0, .int 0, .int 0, .int 0, .int 0, .int 0, .int 0, .int 0, .int 0, .int 0, .int 0, .int 0, .int 0, .int 0, .int 0, .int 0, .int 0, .int 0, .int 0, .int 0, .int 0, .int 0, .int 0, .int 0, .int 0, .int 0, .int 0, .int 0, .int 0, .int 0, .int 0, .int 0, .int 0, .int 0, .int 0, .int 0, .int 0], vm := .none },
  { cls := 20, slots := #[.int 0, .int 0, .int 0, .int 0, .int 0, .int 0], vm := .none },
  { cls := 20, slots := #[.int 0, .int 0, .int 0, .int 0, .int 0, .int 0], vm := .none },
  { cls := 20, slots := #[.int 0, .int 0, .int 0, .int 0, .int 0, .int 0], vm := .none },
  { cls := 20, slots := #[.int 0, .int 0, .int 0, .int 0, .int 0, .int 0], vm := .none },
  { cls := 20, slots := #[.int 0, .int 0, .int 0, .int 0, .int 0, .int 0], vm := .none },
  { cls := 20, slots := #[.int 0, .int 0, .int 0, .int 0, .int 0, .int 0], vm := .none },
  { cls := 20, slots := #[.int 0, .int 1, .int 3, .int 0, .int 0, .int 0, .int 0, .int 0], vm := .none },
  { cls := 15, slots := #[.null, .ref 16, .ref 62, .null, .int 0, .null], vm := .none },
  { cls := 15, slots := #[.null, .ref 16, .ref 63, .null, .int 0, .null], vm := .none },
  { cls := 17, slots := #[.null, .ref 12, .ref 64, .null, .int 0, .null], vm := .none },
  { cls := 15, slots := #[.null, .ref 16, .ref 65, .null, .int 0, .null], vm := .none },
  { cls := 15, slots := #[.null, .ref 16, .ref 66, .null, .int 0, .null], vm := .none },
  { cls := 15, slots := #[.null, .ref 16, .ref 67, .null, .int 0, .null], vm := .none },
  { cls := 17, slots := #[.null, .ref 12, .ref 68, .null, .int 0, .null], vm := .none },
  { cls := 17, slots := #[.null, .ref 12, .ref 69, .null, .int 0, .null], vm := .none },
  { cls := 17, slots := #[.null, .ref 26, .ref 70, .null, .int 0, .null], vm := .none },
  { cls := 17, slots := #[.null, .ref 12, .ref 71, .null, .int 0, .null], vm := .none },
  { cls := 15, slots := #[.null, .ref 16, .ref 72, .null, .int 0, .null], vm := .none },
  { cls := 17, slots := #[.null, .ref 2, .ref 73, .null, .int 0, .null], vm := .none },
  { cls := 17, slots := #[.null, .ref 2, .ref 74, .null, .int 0, .null], vm := .none },
  { cls := 17, slots := #[.null, .ref 4, .ref 75, .null, .int 0, .null], vm := .none },
  { cls := 17, slots := #[.null, .ref 4, .ref 76, .null, .int 0, .null], vm := .none },
  { cls := 17, slots := #[.null, .ref 2, .ref 77, .null, .int 0, .null], vm := .none },
  { cls := 17, slots := #[.null, .ref 2, .ref 78, .null, .int 0, .null], vm := .none },
  { cls := 17, slots := #[.null, .ref 4, .ref 79, .null, .int 0, .null], vm := .none },
  { cls := 17, slots := #[.null, .ref 4, .ref 80, .null, .int 0, .null], vm := .none },
  { cls := 17, slots := #[.null, .ref 2, .ref 81, .null, .int 0, .null], vm := .none },
  { cls := 17, slots := #[.null, .ref 2, .ref 82, .null, .int 0, .null], vm := .none },
  { cls := 17, slots := #[.null, .ref 4, .ref 83, .null, .int 0, .null], vm := .none },
  { cls := 17, slots := #[.null, .ref 4, .ref 84, .null, .int 0, .null], vm := .none },
  { cls := 17, slots := #[.null, .ref 2, .ref 85, .null, .int 0, .null], vm := .none },
  { cls := 17, slots := #[.null, .ref 2, .ref 86, .null, .int 0, .null], vm := .none },
  { cls := 17, slots := #[.null, .ref 4, .ref 87, .null, .int 0, .null], vm := .none },
  { cls := 17, slots := #[.null, .ref 4, .ref 88, .null, .int 0, .null], vm := .none },
  { cls := 17, slots := #[.null, .null, .ref 89, .null, .int 0, .null], vm := .none }]
def zr_f15 : List Frame := [.java { method := ⟨11, 1⟩, pc := 16, locals := #[.val (.ref 89), .val (.ref 2)], stack := [], locked := none },
  .java { method := ⟨13, 1⟩, pc := 2, locals := #[.val (.ref 89), .val (.ref 2)], stack := [], locked := none },
  .java { method := ⟨14, 1⟩, pc := 2, locals := #[.val (.ref 89), .val (.ref 2)], stack := [], locked := none },
  .java { method := ⟨17, 0⟩, pc := 2, locals := #[.val (.ref 89), .val (.ref 2)], stack := [], locked := none },
  .java { method := ⟨2, 25⟩, pc := 13, locals := #[.val (.int 4)], stack := [.ref 89], locked := none },
  .java { method := ⟨2, 1⟩, pc := 1, locals := #[.val (.ref 30), .val (.int 4), .val (.int 2), .val (.int 0)], stack := [], locked := none },
  .java { method := ⟨0, 3⟩, pc := 4, locals := #[.val (.ref 30), .val (.int 4), .val (.int 2), .val (.int 0), .unset, .unset], stack := [], locked := none },
  .java { method := ⟨0, 23⟩, pc := 56, locals := #[.val (.ref 30), .val (.int 0), .val (.int 181), .val (.int (-33)), .val (.ref 53), .val (.ref 54), .val (.ref 55), .val (.ref 61), .val (.int 0), .val (.int 0), .val (.int 2), .val (.int 0), .unset, .unset, .unset], stack := [], locked := none },
  .java { method := ⟨0, 0⟩, pc := 191, locals := #[.val (.ref 0), .val (.ref 30), .val (.ref 53), .val (.ref 54), .val (.ref 55), .val (.ref 56), .val (.ref 57), .val (.ref 58), .val (.ref 59), .val (.ref 60), .val (.ref 61), .val (.int 4), .val (.int 144), .val (.int 0)], stack := [], locked := none },
  .native { method := ⟨0, 0⟩, args := #[] }]
def zr_u15 : Nat := 1788
def zr_w15 : State := stepsAlone start1.p0.tables start1.e0 1000 (zr_mk zr_w14 zr_h14 zr_f14 zr_u14)
set_option maxRecDepth 16384 in
theorem zr_s15 : zr_run start1.p0.tables start1.e0 (zr_same zr_h15 zr_f15 zr_u15) 1000 (zr_mk zr_w14 zr_h14 zr_f14 zr_u14) = true := by decide +kernel
end
section
def zr_h16 : List Cell := [{ cls := 2, slots := #[.ref 31, .ref 37, .ref 40, .ref 45, .ref 49], vm := .none },
  { cls := 3, slots := #[.ref 32, .ref 33, .ref 34, .ref 35, .ref 36, .int 0], vm := .none },
  { cls := 20, slots := #[.int 1, .int 1, .int 3, .int 0], vm := .none },
  { cls := 20, slots := #[.int 2, .int (-1), .int (-1), .int (-1), .int (-1), .int (-1), .int (-1), .int (-1), .int (-1), .int (-1), .int (-1), .int (-1), .int (-1), .int (-1), .int (-1), .int (-1), .int (-1), .int 1, .int 0, .int (-1), .int (-1), .int (-1), .int (-1), .int (-1), .int (-1), .int (-1), .int (-1), .int (-1), .int (-1), .int (-1), .int (-1), .int (-1)], vm := .none },
  { cls := 22, slots := #[.int 0, .int 0, .int 0, .int 0, .int 0, .int 0, .int 0, .int 0, .int 0, .int 0, .int 0, .int 0, .int 0, .int 0, .int 0, .int 0, .int 0, .int 0, .int 0, .int 0, .int 0, .int 0, .int 0, .int 0, .int 0, .int 0, .int 0, .int 0, .int 0, .int 0, .int 0, .int 0], vm := .none },
  { cls := 20, slots := #[.int 0, .int 0, .int 0, .int 0, .int 0, .int 0, .int 0, .int 0, .int 0, .int 0, .int 0, .int 0, .int 0, .int 0, .int 0, .int 0, .int 0, .int 0, .int 0, .int 0, .int 0, .int 0, .int 0, .int 0, .int 0, .int 0, .int 0, .int 0, .int 0, .int 0, .int 0, .int 0], vm := .none },
  { cls := 20, slots := #[.int (-1), .int (-1), .int (-1), .int (-1), .int (-1), .int (-1), .int (-1), .int (-1), .int (-1), .int (-1), .int (-1), .int (-1), .int (-1), .int (-1), .int (-1), .int (-1), .int (-1), .int (-1), .int (-1), .int (-1), .int (-1), .int (-1), .int (-1), .int (-1), .int (-1), .int (-1), .int (-1), .int (-1), .int (-1), .int (-1), .int (-1), .int (-1), .int (-1), .int (-1), .int (-1), .int (-1), .int (-1), .int (-1), .int (-1), .int (-1), .int (-1), .int (-1), .int (-1), .int (-1), .int (-1), .int (-1), .int (-1), .int (-1), .int (-1), .int (-1), .int (-1), .int (-1), .int (-1), .int (-1), .int (-1), .int (-1), .int (-1), .int (-1), .int (-1), .int (-1), .int (-1), .int (-1), .int (-1), .int (-1), .int (-1), .int (-1), .int (-1), .int (-1), .int (-1), .int (-1), .int (-1), .int (-1), .int (-1), .int (-1), .int (-1), .int (-1), .int (-1), .int (-1), .int (-1), .int (-1), .int (-1), .int (-1), .int (-1), .int (-1), .int (-1), .int (-1), .int (-1), .int (-1), .int (-1), .int (-1), .int (-1), .int (-1), .int (-1), .int (-1), .int (-1), .int (-1), .int (-1), .int (-1), .int (-1), .int (-1), .int (-1), .int (-1), .int (-1), .int (-1), .int (-1), .int (-1), .int (-1), .int (-1), .int (-1), .int (-1), .int (-1), .int (-1), .int (-1), .int (-1), .int (-1), .int (-1), .int (-1), .int (-1), .int (-1), .int (-1), .int (-1), .int (-1), .int (-1), .int (-1), .int (-1), .int (-1), .int (-1), .int (-1), .int (-1), .int (-1), .int (-1), .int (-1), .int (-1), .int (-1), .int (-1), .int (-1), .int (-1), .int (-1), .int (-1), .int (-1), .int (-1), .int (-1), .int (-1), .int (-1), .int (-1), .int (-1), .int (-1), .int (-1), .int (-1), .int (-1), .int (-1), .int (-1), .int (-1), .int (-1), .int (-1), .int (-1), .int (-1), .int (-1), .int (-1), .int (-1), .int (-1), .int (-1), .int (-1), .int (-1), .int (-1), .int (-1), .int (-1), .int (-1), .int (-1), .int (-1), .int (-1), .int (-1), .int (-1), .int (-1), .int (-1), .int (-1), .int (-1), .int (-1), .int (-1), .int (-1), .int (-1), .int (-1), .int (-1), .int (-1), .int (-1), .int (-1), .int (-1), .int (-1), .int (-1), .int (-1), .int (-1), .int (-1), .int (-1), .int (-1), .int (-1), .int (-1), .int (-1), .int (-1), .int (-1), .int (-1), .int (-1), .int (-1), .int (-1), .int (-1), .int (-1), .int (-1), .int (-1), .int (-1), .int (-1), .int (-1), .int (-1), .int (-1), .int (-1), .int (-1), .int (-1), .int (-1), .int (-1), .int (-1), .int (-1), .int (-1), .int (-1), .int (-1), .int (-1), .int (-1), .int (-1), .int (-1), .int (-1), .int (-1), .int (-1), .int (-1), .int (-1), .int (-1), .int (-1), .int (-1), .int (-1), .int (-1), .int (-1), .int (-1), .int (-1), .int (-1), .int (-1), .int (-1), .int (-1), .int (-1), .int (-1), .int (-1), .int (-1), .int (-1), .int (-1), .int (-1), .int (-1), .int (-1), .int (-1), .int (-1), .int (-1), .int (-1), .int (-1), .int (-1), .int (-1), .int (-1), .int (-1), .int (-1), .int (-1), .int (-1), .int (-1), .int (-1), .int (-1), .int (-1), .int (-1), .int (-1), .int (-1), .int (-1), .int (-1), .int (-1), .int (-1), .int (-1), .int (-1), .int (-1), .int (-1), .int (-1), .int (-1), .int (-1), .int (-1), .int (-1), .int (-1), .int (-1), .int (-1), .int (-1), .int (-1), .int (-1), .int (-1), .int (-1), .int (-1), .int (-1), .int (-1), .int (-1), .int (-1), .int (-1), .int (-1), .int (-1), .int (-1), .int (-1), .int (-1), .int (-1), .int (-1), .int (-1), .int (-1), .int (-1), .int (-1), .int (-1), .int (-1), .int (-1), .int (-1), .int (-1), .int (-1), .int (-1), .int (-1), .int (-1), .int (-1), .int (-1), .int (-1), .int (-1), .int (-1), .int (-1), .int (-1), .int (-1), .int (-1), .int (-1), .int (-1), .int (-1), .int (-1), .int (-1), .int (-1), .int (-1), .int (-1), .int (-1), .int (-1), .int (-1), .int (-1), .int (-1), .int (-1), .int (-1), .int (-1), .int (-1), .int (-1), .int (-1), .int (-1), .int (-1), .int (-1), .int (-1), .int (-1), .int (-1), .int (-1), .int (-1), .int (-1), .int (-1), .int (-1), .int (-1), .int (-1), .int (-1), .int (-1), .int (-1), .int (-1), .int (-1), .int (-1), .int (-1), .int (-1), .int (-1), .int (-1), .int (-1), .int (-1), .int (-1), .int (-1), .int (-1), .int (-1), .int (-1), .int (-1), .int (-1), .int (-1), .int (-1), .int (-1), .int (-1), .int (-1), .int (-1), .int (-1), .int (-1), .int (-1), .int (-1), .int (-1), .int (-1), .int (-1), .int (-1), .int (-1), .int (-1), .int (-1), .int (-1), .int (-1), .int (-1), .int (-1), .int (-1), .int (-1), .int (-1), .int (-1), .int (-1), .int (-1), .int (-1), .int (-1), .int (-1), .int (-1), .int (-1), .int (-1), .int (-1), .int (-1), .int (-1), .int (-1), .int (-1), .int (-1), .int (-1), .int (-1), .int (-1), .int (-1), .int (-1), .int (-1), .int (-1), .int (-1), .int (-1), .int (-1), .int (-1), .int (-1), .int (-1), .int (-1), .int (-1), .int (-1), .int (-1), .int (-1), .int (-1), .int (-1), .int (-1), .int (-1), .int (-1), .int (-1), .int (-1), .int (-1), .int (-1), .int (-1), .int (-1), .int (-1), .int (-1), .int (-1), .int (-1), .int (-1), .int (-1), .int (-1), .int (-1), .int (-1), .int (-1), .int (-1), .int (-1), .int (-1), .int (-1), .int (-1), .int (-1), .int (-1), .int (-1), .int (-1), .int (-1), .int (-1), .int (-1), .int (-1), .int (-1), .int (-1), .int (-1), .int (-1), .int (-1), .int (-1), .int (-1), .int (-1), .int (-1), .int (-1), .int (-1), .int (-1), .int (-1), .int (-1), .int (-1), .int (-1), .int (-1), .int (-1), .int (-1), .int (-1), .int (-1), .int (-1), .int (-1), .int (-1), .int (-1), .int (-1), .int (-1), .int (-1), .int (-1), .int (-1), .int (-1), .int (-1), .int (-1), .int (-1), .int (-1), .int (-1), .int (-1), .int (-1), .int (-1), .int (-1), .int (-1), .int (-1), .int (-1), .int (-1), .int (-1), .int (-1), .int (-1), .int (-1), .int (-1), .int (-1), .int (-1), .int (-1), .int (-1), .int (-1), .int (-1), .int (-1), .int (-1), .int (-1), .int (-1), .int (-1), .int (-1), .int (-1), .int (-1), .int (-1), .int (-1), .int (-1), .int (-1), .int (-1), .int (-1), .int (-1), .int (-1), .int (-1), .int (-1), .int (-1), .int (-1), .int (-1), .int (-1), .int (-1), .int (-1), .int (-1), .int (-1), .int (-1), .int (-1), .int (-1), .int (-1), .int (-1), .int (-1), .int (-1), .int (-1), .int (-1), .int (-1), .int (-1), .int (-1), .int (-1), .int (-1), .int (-1), .int (-1), .int (-1), .int (-1), .int (-1), .int (-1), .int (-1), .int (-1), .int (-1), .int (-1), .int (-1), .int (-1), .int (-1), .int (-1), .int (-1), .int (-1), .int (-1), .int (-1), .int (-1), .int (-1), .int (-1), .int (-1), .int (-1), .int (-1), .int (-1), .int (-1), .int (-1), .int (-1), .int (-1), .int (-1), .int (-1), .int (-1), .int (-1), .int (-1), .int (-1), .int (-1), .int (-1), .int (-1), .int (-1), .int (-1), .int (-1), .int (-1), .int (-1), .int (-1), .int (-1), .int (-1), .int (-1), .int (-1), .int (-1), .int (-1), .int (-1), .int (-1), .int (-1), .int (-1), .int (-1), .int (-1), .int (-1), .int (-1), .int (-1), .int (-1), .int (-1), .int (-1), .int (-1), .int (-1), .int (-1), .int (-1), .int (-1), .int (-1), .int (-1), .int (-1), .int (-1), .int (-1), .int (-1), .int (-1), .int (-1), .int (-1)], vm := .none },
  { cls := 5, slots := #[.ref 38, .ref 39, .int 0, .int 0], vm := .none },
  { cls := 20, slots := #[.int 0, .int 0, .int 0, .int 0, .int 0, .int 0, .int 0, .int 0, .int 0, .int 0, .int 0, .int 0], vm := .none },
  { cls := 20, slots := #[.int 0, .int 0, .int 0, .int 0, .int 0, .int 0, .int 0, .int 0, .int 0, .int 0, .int 0, .int 0], vm := .none },
  { cls := 6, slots := #[.ref 31, .ref 37, .ref 41, .ref 42, .ref 43, .ref 44, .int 0, .int 0, .int 1, .int 1], vm := .none },
  { cls := 20, slots := #[.int 0, .int 0, .int 0, .int 0, .int 0, .int 0, .int 0, .int 0, .int 0, .int 0, .int 0, .int 0], vm := .none },
  { cls := 20, slots := #[.int 0, .int 0, .int 0, .int 0, .int 0, .int 0, .int 0, .int 0, .int 0, .int 0, .int 0, .int 0], vm := .none },
  { cls := 20, slots := #[.int 0, .int 0, .int 0, .int 0, .int 0, .int 0, .int 0, .int 0, .int 0, .int 0, .int 0, .int 0, .int 0, .int 0, .int 0, .int 0, .int 0, .int 0, .int 0, .int 0, .int 0, .int 0, .int 0, .int 0, .int 0, .int 0, .int 0, .int 0, .int 0, .int 0, .int 0, .int 0, .int 0, .int 0, .int 0, .int 0, .int 0, .int 0, .int 0, .int 0, .int 0, .int 0, .int 0, .int 0, .int 0, .int 0, .int 0, .int 0], vm := .none },
  { cls := 20, slots := #[.int 0, .int 0, .int 0, .int 0, .int 0, .int 0, .int 0, .int 0, .int 0, .int 0, .int 0, .int 0], vm := .none },
  { cls := 7, slots := #[.ref 31, .ref 37, .ref 40, .ref 46, .ref 47, .ref 48, .int 0], vm := .none },
  { cls := 20, slots := #[.int 0, .int 0, .int 0, .int 0, .int 0, .int 0, .int 0, .int 0, .int 0, .int 0, .int 0, .int 0], vm := .none },
  { cls := 20, slots := #[.int 0, .int 0, .int 0, .int 0, .int 0, .int 0, .int 0, .int 0, .int 0, .int 0, .int 0, .int 0], vm := .none },
  { cls := 22, slots := #[.int 0, .int 0, .int 0, .int 0, .int 0, .int 0, .int 0, .int 0, .int 0, .int 0, .int 0, .int 0], vm := .none },
  { cls := 7, slots := #[.ref 31, .ref 37, .ref 40, .ref 50, .ref 51, .ref 52, .int 0], vm := .none },
  { cls := 20, slots := #[.int 0, .int 0, .int 0, .int 0, .int 0, .int 0, .int 0, .int 0, .int 0, .int 0, .int 0, .int 0], vm := .none },
  { cls := 20, slots := #[.int 0, .int 0, .int 0, .int 0, .int 0, .int 0, .int 0, .int 0, .int 0, .int 0, .int 0, .int 0], vm := .none },
  { cls := 22, slots := #[.int 0, .int 0, .int 0, .int 0, .int 0, .int 0, .int 0, .int 0, .int 0, .int 0, .int 0, .int 0], vm := .none },
  { cls := 20, slots := #[.int 3, .int 0, .int 0, .int 0, .int 0, .int 0, .int 0, .int 0, .int 0, .int 2, .int 1, .int 0], vm := .none },
  { cls := 20, slots := #[.int 0, .int 0, .int 0, .int 0, .int 0, .int 0, .int 0, .int 0, .int 0, .int 0, .int 0, .int 0, .int 0, .int 0, .int 0, .int 0, .int 0, .int 0, .int 0, .int 0, .int 0, .int 0, .int 0, .int 0, .int 0, .int 0, .int 0, .int 0, .int 0, .int 0, .int 0, .int 0, .int 0, .int 0, .int 0, .int 0, .int 0, .int 0, .int 0, .int 0, .int 0, .int 0, .int 0, .int 0, .int 0, .int 0, .int 0, .int 0, .int 0, .int 0, .int 0, .int 0, .int 0, .int 0, .int 0, .int 0, .int 0, .int 0, .int 0, .int 0], vm := .none },
  { cls := 20, slots := #[.int 0, .int 0, .int 0, .int 0, .int 0, .int 0], vm := .none },
  { cls := 20, slots := #[.int 0, .int 0, .int 0, .int 0, .int 0, .int 0], vm := .none },
  { cls := 20, slots := #[.int 0, .int 0, .int 0, .int 0, .int 0, .int 0], vm := .none },
  { cls := 20, slots := #[.int 0, .int 0, .int 0, .int 0, .int 0, .int 0], vm := .none },
  { cls := 20, slots := #[.int 0, .int 0, .int 0, .int 0, .int 0, .int 0], vm := .none },
  { cls := 20, slots := #[.int 0, .int 0, .int 0, .int 0, .int 0, .int 0], vm := .none },
  { cls := 20, slots := #[.int 1, .int 1, .int 3, .int 0, .int 0, .int 0, .int 0, .int 0], vm := .none },
  { cls := 15, slots := #[.null, .ref 16, .ref 62, .null, .int 0, .null], vm := .none },
  { cls := 15, slots := #[.null, .ref 16, .ref 63, .null, .int 0, .null], vm := .none },
  { cls := 17, slots := #[.null, .ref 12, .ref 64, .null, .int 0, .null], vm := .none },
  { cls := 15, slots := #[.null, .ref 16, .ref 65, .null, .int 0, .null], vm := .none },
  { cls := 15, slots := #[.null, .ref 16, .ref 66, .null, .int 0, .null], vm := .none },
  { cls := 15, slots := #[.null, .ref 16, .ref 67, .null, .int 0, .null], vm := .none },
  { cls := 17, slots := #[.null, .ref 12, .ref 68, .null, .int 0, .null], vm := .none },
  { cls := 17, slots := #[.null, .ref 12, .ref 69, .null, .int 0, .null], vm := .none },
  { cls := 17, slots := #[.null, .ref 26, .ref 70, .null, .int 0, .null], vm := .none },
  { cls := 17, slots := #[.null, .ref 12, .ref 71, .null, .int 0, .null], vm := .none },
  { cls := 15, slots := #[.null, .ref 16, .ref 72, .null, .int 0, .null], vm := .none },
  { cls := 17, slots := #[.null, .ref 2, .ref 73, .null, .int 0, .null], vm := .none },
  { cls := 17, slots := #[.null, .ref 2, .ref 74, .null, .int 0, .null], vm := .none },
  { cls := 17, slots := #[.null, .ref 4, .ref 75, .null, .int 0, .null], vm := .none },
  { cls := 17, slots := #[.null, .ref 4, .ref 76, .null, .int 0, .null], vm := .none },
  { cls := 17, slots := #[.null, .ref 2, .ref 77, .null, .int 0, .null], vm := .none },
  { cls := 17, slots := #[.null, .ref 2, .ref 78, .null, .int 0, .null], vm := .none },
  { cls := 17, slots := #[.null, .ref 4, .ref 79, .null, .int 0, .null], vm := .none },
  { cls := 17, slots := #[.null, .ref 4, .ref 80, .null, .int 0, .null], vm := .none },
  { cls := 17, slots := #[.null, .ref 2, .ref 81, .null, .int 0, .null], vm := .none },
  { cls := 17, slots := #[.null, .ref 2, .ref 82, .null, .int 0, .null], vm := .none },
  { cls := 17, slots := #[.null, .ref 4, .ref 83, .null, .int 0, .null], vm := .none },
  { cls := 17, slots := #[.null, .ref 4, .ref 84, .null, .int 0, .null], vm := .none },
  { cls := 17, slots := #[.null, .ref 2, .ref 85, .null, .int 0, .null], vm := .none },
  { cls := 17, slots := #[.null, .ref 2, .ref 86, .null, .int 0, .null], vm := .none },
  { cls := 17, slots := #[.null, .ref 4, .ref 87, .null, .int 0, .null], vm := .none },
  { cls := 17, slots := #[.null, .ref 4, .ref 88, .null, .int 0, .null], vm := .none },
  { cls := 17, slots := #[.null, .ref 2, .ref 89, .null, .int 0, .null], vm := .none },
  { cls := 17, slots := #[.null, .ref 2, .ref 90, .null, .int 0, .null], vm := .none },
  { cls := 17, slots := #[.null, .ref 4, .ref 91, .null, .int 0, .null], vm := .none },
  { cls := 17, slots := #[.null, .ref 4, .ref 92, .null, .int 0, .null], vm := .none },
  { cls := 17, slots := #[.null, .ref 2, .ref 93, .null, .int 0, .null], vm := .none },
  { cls := 17, slots := #[.null, .ref 2, .ref 94, .null, .int 0, .null], vm := .none },
  { cls := 17, slots := #[.null, .ref 4, .ref 95, .null, .int 0, .null], vm := .none },
  { cls := 17, slots := #[.null, .ref 4, .ref 96, .null, .int 0, .null], vm := .none }]
def zr_f16 : List Frame := [.java { method := ⟨0, 23⟩, pc := 154, locals := #[.val (.ref 30), .val (.int 0), .val (.int 41), .val (.int 78), .val (.ref 53), .val (.ref 54), .val (.ref 55), .val (.ref 61), .val (.int 2), .val (.int 1), .val (.int 2), .val (.int 0), .unset, .unset, .unset], stack := [.int 3, .int 11, .ref 53], locked := none },
  .java { method := ⟨0, 0⟩, pc := 191, locals := #[.val (.ref 0), .val (.ref 30), .val (.ref 53), .val (.ref 54), .val (.ref 55), .val (.ref 56), .val (.ref 57), .val (.ref 58), .val (.ref 59), .val (.ref 60), .val (.ref 61), .val (.int 5), .val (.int 4), .val (.int 0)], stack := [], locked := none },
  .native { method := ⟨0, 0⟩, args := #[] }]
def zr_u16 : Nat := 1830
def zr_w16 : State := stepsAlone start1.p0.tables start1.e0 908 (zr_mk zr_w15 zr_h15 zr_f15 zr_u15)
set_option maxRecDepth 16384 in
theorem zr_s16 : zr_run start1.p0.tables start1.e0 (zr_same zr_h16 zr_f16 zr_u16) 908 (zr_mk zr_w15 zr_h15 zr_f15 zr_u15) = true := by decide +kernel
end
section
def zr_h17 : List Cell := [{ cls := 2, slots := #[.ref 31, .ref 37, .ref 40, .ref 45, .ref 49], vm := .none },
  { cls := 3, slots := #[.ref 32, .ref 33, .ref 34, .ref 35, .ref 36, .int 0], vm := .none },
  { cls := 20, slots := #[.int 1, .int 2, .int 4, .int 0], vm := .none },
  { cls := 20, slots := #[.int 2, .int (-1), .int (-1), .int (-1), .int (-1), .int (-1), .int (-1), .int (-1), .int (-1), .int 1, .int (-1), .int (-1), .int (-1), .int (-1), .int (-1), .int (-1), .int (-1), .int 1, .int 0, .int 2, .int (-1), .int (-1), .int (-1), .int (-1), .int (-1), .int (-1), .int (-1), .int (-1), .int (-1), .int (-1), .int (-1), .int (-1)], vm := .none },
  { cls := 22, slots := #[.int 0, .int 0, .int 0, .int 0, .int 0, .int 0, .int 0, .int 0, .int 0, .int 0, .int 0, .int 0, .int 0, .int 0, .int 0, .int 0, .int 0, .int 0, .int 0, .int 0, .int 0, .int 0, .int 0, .int 0, .int 0, .int 0, .int 0, .int 0, .int 0, .int 0, .int 0, .int 0], vm := .none },
  { cls := 20, slots := #[.int 0, .int 0, .int 0, .int 0, .int 0, .int 0, .int 0, .int 0, .int 0, .int 0, .int 0, .int 0, .int 0, .int 0, .int 0, .int 0, .int 0, .int 0, .int 0, .int 0, .int 0, .int 0, .int 0, .int 0, .int 0, .int 0, .int 0, .int 0, .int 0, .int 0, .int 0, .int 0], vm := .none },
  { cls := 20, slots := #[.int (-1), .int (-1), .int (-1), .int (-1), .int (-1), .int (-1), .int (-1), .int (-1), .int (-1), .int (-1), .int (-1), .int (-1), .int (-1), .int (-1), .int (-1), .int (-1), .int (-1), .int (-1), .int (-1), .int (-1), .int (-1), .int (-1), .int (-1), .int (-1), .int (-1), .int (-1), .int (-1), .int (-1), .int (-1), .int (-1), .int (-1), .int (-1), .int (-1), .int (-1), .int (-1), .int (-1), .int (-1), .int (-1), .int (-1), .int (-1), .int (-1), .int (-1), .int (-1), .int (-1), .int (-1), .int (-1), .int (-1), .int (-1), .int (-1), .int (-1), .int (-1), .int (-1), .int (-1), .int (-1), .int (-1), .int (-1), .int (-1), .int (-1), .int (-1), .int (-1), .int (-1), .int (-1), .int (-1), .int (-1), .int (-1), .int (-1), .int (-1), .int (-1), .int (-1), .int (-1), .int (-1), .int (-1), .int (-1), .int (-1), .int (-1), .int (-1), .int (-1), .int (-1), .int (-1), .int (-1), .int (-1), .int (-1), .int (-1), .int (-1), .int (-1), .int (-1), .int (-1), .int (-1), .int (-1), .int (-1), .int (-1), .int (-1), .int (-1), .int (-1), .int (-1), .int (-1), .int (-1), .int (-1), .int (-1), .int (-1), .int (-1), .int (-1), .int (-1), .int (-1), .int (-1), .int (-1), .int (-1), .int (-1), .int (-1), .int (-1), .int (-1), .int (-1), .int (-1), .int (-1), .int (-1), .int (-1), .int (-1), .int (-1), .int (-1), .int (-1), .int (-1), .int (-1), .int (-1), .int (-1), .int (-1), .int (-1), .int (-1), .int (-1), .int (-1), .int (-1), .int (-1), .int (-1), .int (-1), .int (-1), .int (-1), .int (-1), .int (-1), .int (-1), .int (-1), .int (-1), .int (-1), .int (-1), .int (-1), .int (-1), .int (-1), .int (-1), .int (-1), .int (-1), .int (-1), .int (-1), .int (-1), .int (-1), .int (-1), .int (-1), .int (-1), .int (-1), .int (-1), .int (-1), .int (-1), .int (-1), .int (-1), .int (-1), .int (-1), .int (-1), .int (-1), .int (-1), .int (-1), .int (-1), .int (-1), .int (-1), .int (-1), .int (-1), .int (-1), .int (-1), .int (-1), .int (-1), .int (-1), .int (-1), .int (-1), .int (-1), .int (-1), .int (-1), .int (-1), .int (-1), .int (-1), .int (-1), .int (-1), .int (-1), .int (-1), .int (-1), .int (-1), .int (-1), .int (-1), .int (-1), .int (-1), .int (-1), .int (-1), .int (-1), .int (-1), .int (-1), .int (-1), .int (-1), .int (-1), .int (-1), .int (-1), .int (-1), .int (-1), .int (-1), .int (-1), .int (-1), .int (-1), .int (-1), .int (-1), .int (-1), .int (-1), .int (-1), .int (-1), .int (-1), .int (-1), .int (-1), .int (-1), .int (-1), .int (-1), .int (-1), .int (-1), .int (-1), .int (-1), .int (-1), .int (-1), .int (-1), .int (-1), .int (-1), .int (-1), .int (-1), .int (-1), .int (-1), .int (-1), .int (-1), .int (-1), .int (-1), .int (-1), .int (-1), .int (-1), .int (-1), .int (-1), .int (-1), .int (-1), .int (-1), .int (-1), .int (-1), .int (-1), .int (-1), .int (-1), .int (-1), .int (-1), .int (-1), .int (-1), .int (-1), .int (-1), .int (-1), .int (-1), .int (-1), .int (-1), .int (-1), .int (-1), .int (-1), .int (-1), .int (-1), .int (-1), .int (-1), .int (-1), .int (-1), .int (-1), .int (-1), .int (-1), .int (-1), .int (-1), .int (-1), .int (-1), .int (-1), .int (-1), .int (-1), .int (-1), .int (-1), .int (-1), .int (-1), .int (-1), .int (-1), .int (-1), .int (-1), .int (-1), .int (-1), .int (-1), .int (-1), .int (-1), .int (-1), .int (-1), .int (-1), .int (-1), .int (-1), .int (-1), .int (-1), .int (-1), .int (-1), .int (-1), .int (-1), .int (-1), .int (-1), .int (-1), .int (-1), .int (-1), .int (-1), .int (-1), .int (-1), .int (-1), .int (-1), .int (-1), .int (-1), .int (-1), .int (-1), .int (-1), .int (-1), .int (-1), .int (-1), .int (-1), .int (-1), .int (-1), .int (-1), .int (-1), .int (-1), .int (-1), .int (-1), .int (-1), .int (-1), .int (-1), .int (-1), .int (-1), .int (-1), .int (-1), .int (-1), .int (-1), .int (-1), .int (-1), .int (-1), .int (-1), .int (-1), .int (-1), .int (-1), .int (-1), .int (-1), .int (-1), .int (-1), .int (-1), .int (-1), .int (-1), .int (-1), .int (-1), .int (-1), .int (-1), .int (-1), .int (-1), .int (-1), .int (-1), .int (-1), .int (-1), .int (-1), .int (-1), .int (-1), .int (-1), .int (-1), .int (-1), .int (-1), .int (-1), .int (-1), .int (-1), .int (-1), .int (-1), .int (-1), .int (-1), .int (-1), .int (-1), .int (-1), .int (-1), .int (-1), .int (-1), .int (-1), .int (-1), .int (-1), .int (-1), .int (-1), .int (-1), .int (-1), .int (-1), .int (-1), .int (-1), .int (-1), .int (-1), .int (-1), .int (-1), .int (-1), .int (-1), .int (-1), .int (-1), .int (-1), .int (-1), .int (-1), .int (-1), .int (-1), .int (-1), .int (-1), .int (-1), .int (-1), .int (-1), .int (-1), .int (-1), .int (-1), .int (-1), .int (-1), .int (-1), .int (-1), .int (-1), .int (-1), .int (-1), .int (-1), .int (-1), .int (-1), .int (-1), .int (-1), .int (-1), .int (-1), .int (-1), .int (-1), .int (-1), .int (-1), .int (-1), .int (-1), .int (-1), .int (-1), .int (-1), .int (-1), .int (-1), .int (-1), .int (-1), .int (-1), .int (-1), .int (-1), .int (-1), .int (-1), .int (-1), .int (-1), .int (-1), .int (-1), .int (-1), .int (-1), .int (-1), .int (-1), .int (-1), .int (-1), .int (-1), .int (-1), .int (-1), .int (-1), .int (-1), .int (-1), .int (-1), .int (-1), .int (-1), .int (-1), .int (-1), .int (-1), .int (-1), .int (-1), .int (-1), .int (-1), .int (-1), .int (-1), .int (-1), .int (-1), .int (-1), .int (-1), .int (-1), .int (-1), .int (-1), .int (-1), .int (-1), .int (-1), .int (-1), .int (-1), .int (-1), .int (-1), .int (-1), .int (-1), .int (-1), .int (-1), .int (-1), .int (-1), .int (-1), .int (-1), .int (-1), .int (-1), .int (-1), .int (-1), .int (-1), .int (-1), .int (-1), .int (-1), .int (-1), .int (-1), .int (-1), .int (-1), .int (-1), .int (-1), .int (-1), .int (-1), .int (-1), .int (-1), .int (-1), .int (-1), .int (-1), .int (-1), .int (-1), .int (-1), .int (-1), .int (-1), .int (-1), .int (-1), .int (-1), .int (-1), .int (-1), .int (-1), .int (-1), .int (-1), .int (-1), .int (-1), .int (-1), .int (-1), .int (-1), .int (-1), .int (-1), .int (-1), .int (-1), .int (-1), .int (-1), .int (-1), .int (-1), .int (-1), .int (-1), .int (-1), .int (-1), .int (-1), .int (-1), .int (-1), .int (-1), .int (-1), .int (-1), .int (-1), .int (-1), .int (-1), .int (-1), .int (-1), .int (-1), .int (-1), .int (-1), .int (-1), .int (-1), .int (-1), .int (-1), .int (-1), .int (-1), .int (-1), .int (-1), .int (-1), .int (-1), .int (-1), .int (-1), .int (-1), .int (-1), .int (-1), .int (-1), .int (-1), .int (-1), .int (-1), .int (-1), .int (-1), .int (-1), .int (-1), .int (-1), .int (-1), .int (-1), .int (-1), .int (-1), .int (-1), .int (-1), .int (-1), .int (-1), .int (-1), .int (-1), .int (-1), .int (-1), .int (-1), .int (-1), .int (-1), .int (-1), .int (-1), .int (-1), .int (-1), .int (-1), .int (-1), .int (-1), .int (-1), .int (-1), .int (-1), .int (-1), .int (-1), .int (-1), .int (-1), .int (-1), .int (-1), .int (-1), .int (-1), .int (-1), .int (-1), .int (-1), .int (-1), .int (-1), .int (-1), .int (-1), .int (-1), .int (-1), .int (-1), .int (-1), .int (-1), .int (-1), .int (-1), .int (-1), .int (-1), .int (-1), .int (-1), .int (-1), .int (-1)], vm := .none },
  { cls := 5, slots := #[.ref 38, .ref 39, .int 0, .int 0], vm := .none },
  { cls := 20, slots := #[.int 0, .int 0, .int 0, .int 0, .int 0, .int 0, .int 0, .int 0, .int 0, .int 0, .int 0, .int 0], vm := .none },
  { cls := 20, slots := #[.int 0, .int 0, .int 0, .int 0, .int 0, .int 0, .int 0, .int 0, .int 0, .int 0, .int 0, .int 0], vm := .none },
  { cls := 6, slots := #[.ref 31, .ref 37, .ref 41, .ref 42, .ref 43, .ref 44, .int 0, .int 0, .int 1, .int 1], vm := .none },
  { cls := 20, slots := #[.int 0, .int 0, .int 0, .int 0, .int 0, .int 0, .int 0, .int 0, .int 0, .int 0, .int 0, .int 0], vm := .none },
  { cls := 20, slots := #[.int 0, .int 0, .int 0, .int 0, .int 0, .int 0, .int 0, .int 0, .int 0, .int 0, .int 0, .int 0], vm := .none },
  { cls := 20, slots := #[.int 0, .int 0, .int 0, .int 0, .int 0, .int 0, .int 0, .int 0, .int 0, .int 0, .int 0, .int 0, .int 0, .int 0, .int 0, .int 0, .int 0, .int 0, .int 0, .int 0, .int 0, .int 0, .int 0, .int 0, .int 0, .int 0, .int 0, .int 0, .int 0, .int 0, .int 0, .int 0, .int 0, .int 0, .int 0, .int 0, .int 0, .int 0, .int 0, .int 0, .int 0, .int 0, .int 0, .int 0, .int 0, .int 0, .int 0, .int 0], vm := .none },
  { cls := 20, slots := #[.int 0, .int 0, .int 0, .int 0, .int 0, .int 0, .int 0, .int 0, .int 0, .int 0, .int 0, .int 0], vm := .none },
  { cls := 7, slots := #[.ref 31, .ref 37, .ref 40, .ref 46, .ref 47, .ref 48, .int 0], vm := .none },
  { cls := 20, slots := #[.int 0, .int 0, .int 0, .int 0, .int 0, .int 0, .int 0, .int 0, .int 0, .int 0, .int 0, .int 0], vm := .none },
  { cls := 20, slots := #[.int 0, .int 0, .int 0, .int 0, .int 0, .int 0, .int 0, .int 0, .int 0, .int 0, .int 0, .int 0], vm := .none },
  { cls := 22, slots := #[.int 0, .int 0, .int 0, .int 0, .int 0, .int 0, .int 0, .int 0, .int 0, .int 0, .int 0, .int 0], vm := .none },
  { cls := 7, slots := #[.ref 31, .ref 37, .ref 40, .ref 50, .ref 51, .ref 52, .int 0], vm := .none },
  { cls := 20, slots := #[.int 0, .int 0, .int 0, .int 0, .int 0, .int 0, .int 0, .int 0, .int 0, .int 0, .int 0, .int 0], vm := .none },
  { cls := 20, slots := #[.int 0, .int 0, .int 0, .int 0, .int 0, .int 0, .int 0, .int 0, .int 0, .int 0, .int 0, .int 0], vm := .none },
  { cls := 22, slots := #[.int 0, .int 0, .int 0, .int 0, .int 0, .int 0, .int 0, .int 0, .int 0, .int 0, .int 0, .int 0], vm := .none },
  { cls := 20, slots := #[.int 3, .int 0, .int 0, .int 0, .int 0, .int 2, .int 0, .int 0, .int 0, .int 2, .int 1, .int 3], vm := .none },
  { cls := 20, slots := #[.int 0, .int 0, .int 0, .int 0, .int 0, .int 0, .int 0, .int 0, .int 0, .int 0, .int 0, .int 0, .int 0, .int 0, .int 0, .int 0, .int 0, .int 0, .int 0, .int 0, .int 0, .int 0, .int 0, .int 0, .int 0, .int 0, .int 0, .int 0, .int 0, .int 0, .int 0, .int 0, .int 0, .int 0, .int 0, .int 0, .int 0, .int 0, .int 0, .int 0, .int 0, .int 0, .int 0, .int 0, .int 0, .int 0, .int 0, .int 0, .int 0, .int 0, .int 0, .int 0, .int 0, .int 0, .int 0, .int 0, .int 0, .int 0, .int 0, .int 0], vm := .none },
  { cls := 20, slots := #[.int 0, .int 0, .int 0, .int 0, .int 0, .int 0], vm := .none },
  { cls := 20, slots := #[.int 0, .int 0, .int 0, .int 0, .int 0, .int 0], vm := .none },
  { cls := 20, slots := #[.int 0, .int 0, .int 0, .int 0, .int 0, .int 0], vm := .none },
  { cls := 20, slots := #[.int 0, .int 0, .int 0, .int 0, .int 0, .int 0], vm := .none },
  { cls := 20, slots := #[.int 0, .int 0, .int 0, .int 0, .int 0, .int 0], vm := .none },
  { cls := 20, slots := #[.int 0, .int 0, .int 0, .int 0, .int 0, .int 0], vm := .none },
  { cls := 20, slots := #[.int 1, .int 2, .int 4, .int 0, .int 0, .int 0, .int 0, .int 0], vm := .none },
  { cls := 15, slots := #[.null, .ref 16, .ref 62, .null, .int 0, .null], vm := .none },
  { cls := 15, slots := #[.null, .ref 16, .ref 63, .null, .int 0, .null], vm := .none },
  { cls := 17, slots := #[.null, .ref 12, .ref 64, .null, .int 0, .null], vm := .none },
  { cls := 15, slots := #[.null, .ref 16, .ref 65, .null, .int 0, .null], vm := .none },
  { cls := 15, slots := #[.null, .ref 16, .ref 66, .null, .int 0, .null], vm := .none },
  { cls := 15, slots := #[.null, .ref 16, .ref 67, .null, .int 0, .null], vm := .none },
  { cls := 17, slots := #[.null, .ref 12, .ref 68, .null, .int 0, .null], vm := .none },
  { cls := 17, slots := #[.null, .ref 12, .ref 69, .null, .int 0, .null], vm := .none },
  { cls := 17, slots := #[.null, .ref 26, .ref 70, .null, .int 0, .null], vm := .none },
  { cls := 17, slots := #[.null, .ref 12, .ref 71, .null, .int 0, .null], vm := .none },
  { cls := 15, slots := #[.null, .ref 16, .ref 72, .null, .int 0, .null], vm := .none },
  { cls := 17, slots := #[.null, .ref 2, .ref 73, .null, .int 0, .null], vm := .none },
  { cls := 17, slots := #[.null, .ref 2, .ref 74, .null, .int 0, .null], vm := .none },
  { cls := 17, slots := #[.null, .ref 4, .ref 75, .null, .int 0, .null], vm := .none },
  { cls := 17, slots := #[.null, .ref 4, .ref 76, .null, .int 0, .null], vm := .none },
  { cls := 17, slots := #[.null, .ref 2, .ref 77, .null, .int 0, .null], vm := .none },
  { cls := 17, slots := #[.null, .ref 2, .ref 78, .null, .int 0, .null], vm := .none },
  { cls := 17, slots := #[.null, .ref 4, .ref 79, .null, .int 0, .null], vm := .none },
  { cls := 17, slots := #[.null, .ref 4, .ref 80, .null, .int 0, .null], vm := .none },
  { cls := 17, slots := #[.null, .ref 2, .ref 81, .null, .int 0, .null], vm := .none },
  { cls := 17, slots := #[.null, .ref 2, .ref 82, .null, .int 0, .null], vm := .none },
  { cls := 17, slots := #[.null, .ref 4, .ref 83, .null, .int 0, .null], vm := .none },
  { cls := 17, slots := #[.null, .ref 4, .ref 84, .null, .int 0, .null], vm := .none },
  { cls := 17, slots := #[.null, .ref 2, .ref 85, .null, .int 0, .null], vm := .none },
  { cls := 17, slots := #[.null, .ref 2, .ref 86, .null, .int 0, .null], vm := .none },
  { cls := 17, slots := #[.null, .ref 4, .ref 87, .null, .int 0, .null], vm := .none },
  { cls := 17, slots := #[.null, .ref 4, .ref 88, .null, .int 0, .null], vm := .none },
  { cls := 17, slots := #[.null, .ref 2, .ref 89, .null, .int 0, .null], vm := .none },
  { cls := 17, slots := #[.null, .ref 2, .ref 90, .null, .int 0, .null], vm := .none },
  { cls := 17, slots := #[.null, .ref 4, .ref 91, .null, .int 0, .null], vm := .none },
  { cls := 17, slots := #[.null, .ref 4, .ref 92, .null, .int 0, .null], vm := .none },
  { cls := 17, slots := #[.null, .ref 2, .ref 93, .null, .int 0, .null], vm := .none },
  { cls := 17, slots := #[.null, .ref 2, .ref 94, .null, .int 0, .null], vm := .none },
  { cls := 17, slots := #[.null, .ref 4, .ref 95, .null, .int 0, .null], vm := .none },
  { cls := 17, slots := #[.null, .ref 4, .ref 96, .null, .int 0, .null], vm := .none },
  { cls := 17, slots := #[.null, .ref 2, .ref 97, .null, .int 0, .null], vm := .none },
  { cls := 17, slots := #[.null, .ref 2, .ref 98, .null, .int 0, .null], vm := .none },
  { cls := 17, slots := #[.null, .ref 4, .ref 99, .null, .int 0, .null], vm := .none },
  { cls := 17, slots := #[.null, .ref 4, .ref 100, .null, .int 0, .null], vm := .none },
  { cls := 17, slots := #[.null, .ref 2, .ref 101, .null, .int 0, .null], vm := .none }]
def zr_f17 : List Frame := [.java { method := ⟨2, 25⟩, pc := 0, locals := #[.val (.int (-1))], stack := [], locked := none },
  .java { method := ⟨2, 1⟩, pc := 1, locals := #[.val (.ref 30), .val (.int (-1)), .val (.int (-1)), .val (.int 0)], stack := [], locked := none },
  .java { method := ⟨0, 3⟩, pc := 4, locals := #[.val (.ref 30), .val (.int (-1)), .val (.int (-1)), .val (.int 0), .unset, .unset], stack := [], locked := none },
  .java { method := ⟨0, 23⟩, pc := 70, locals := #[.val (.ref 30), .val (.int 0), .val (.int 12), .val (.int 49), .val (.ref 53), .val (.ref 54), .val (.ref 55), .val (.ref 61), .val (.int 0), .val (.int 1), .val (.int (-1)), .val (.int 0), .unset, .unset, .unset], stack := [], locked := none },
  .java { method := ⟨0, 0⟩, pc := 191, locals := #[.val (.ref 0), .val (.ref 30), .val (.ref 53), .val (.ref 54), .val (.ref 55), .val (.ref 56), .val (.ref 57), .val (.ref 58), .val (.ref 59), .val (.ref 60), .val (.ref 61), .val (.int 7), .val (.int (-25)), .val (.int 0)], stack := [], locked := none },
  .native { method := ⟨0, 0⟩, args := #[] }]
def zr_u17 : Nat := 1860
def zr_w17 : State := stepsAlone start1.p0.tables start1.e0 988 (zr_mk zr_w16 zr_h16 zr_f16 zr_u16)
set_option maxRecDepth 16384 in
theorem zr_s17 : zr_run start1.p0.tables start1.e0 (zr_same zr_h17 zr_f17 zr_u17) 988 (zr_mk zr_w16 zr_h16 zr_f16 zr_u16) = true := by decide +kernel
end
section
def zr_h18 : List Cell := [{ cls := 2, slots := #[.ref 31, .ref 37, .ref 40, .ref 45, .ref 49], vm := .none },
  { cls := 3, slots := #[.ref 32, .ref 33, .ref 34, .ref 35, .ref 36, .int 0], vm := .none },
  { cls := 20, slots := #[.int 2, .int 2, .int 4, .int 0], vm := .none },
  { cls := 20, slots := #[.int 2, .int (-1), .int (-1), .int (-1), .int (-1), .int (-1), .int (-1), .int (-1), .int (-1), .int 1, .int (-1), .int (-1), .int (-1), .int (-1), .int (-1), .int (-1), .int (-1), .int 1, .int 0, .int 2, .int (-1), .int (-1), .int (-1), .int (-1), .int (-1), .int (-1), .int (-1), .int (-1), .int (-1), .int (-1), .int (-1), .int (-1)], vm := .none },
  { cls := 22, slots := #[.int 0, .int 0, .int 0, .int 0, .int 0, .int 0, .int 0, .int 0, .int 0, .int 0, .int 0, .int 0, .int 0, .int 0, .int 0, .int 0, .int 0, .int 0, .int 0, .int 0, .int 0, .int 0, .int 0, .int 0, .int 0, .int 0, .int 0, .int 0, .int 0, .int 0, .int 0, .int 0], vm := .none },
  { cls := 20, slots := #[.int 0, .int 0, .int 0, .int 0, .int 0, .int 0, .int 0, .int 0, .int 0, .int 0, .int 0, .int 0, .int 0, .int 0, .int 0, .int 0, .int 0, .int 0, .int 0, .int 0, .int 0, .int 0, .int 0, .int 0, .int 0, .int 0, .int 0, .int 0, .int 0, .int 0, .int 0, .int 0], vm := .none },
  { cls := 20, slots := #[.int (-1), .int (-1), .int (-1), .int (-1), .int (-1), .int (-1), .int (-1), .int (-1), .int (-1), .int (-1), .int (-1), .int (-1), .int (-1), .int (-1), .int (-1), .int (-1), .int (-1), .int (-1), .int (-1), .int (-1), .int (-1), .int (-1), .int (-1), .int (-1), .int (-1), .int (-1), .int (-1), .int (-1), .int (-1), .int (-1), .int (-1), .int (-1), .int (-1), .int (-1), .int (-1), .int (-1), .int (-1), .int (-1), .int (-1), .int (-1), .int (-1), .int (-1), .int (-1), .int (-1), .int (-1), .int (-1), .int (-1), .int (-1), .int (-1), .int (-1), .int (-1), .int (-1), .int (-1), .int (-1), .int (-1), .int (-1), .int (-1), .int (-1), .int (-1), .int (-1), .int (-1), .int (-1), .int (-1), .int (-1), .int (-1), .int (-1), .int (-1), .int (-1), .int (-1), .int (-1), .int (-1), .int (-1), .int (-1), .int (-1), .int (-1), .int (-1), .int (-1), .int (-1), .int (-1), .int (-1), .int (-1), .int (-1), .int (-1), .int (-1), .int (-1), .int (-1), .int (-1), .int (-1), .int (-1), .int (-1), .int (-1), .int (-1), .int (-1), .int (-1), .int (-1), .int (-1), .int (-1), .int (-1), .int (-1), .int (-1), .int (-1), .int (-1), .int (-1), .int (-1), .int (-1), .int (-1), .int (-1), .int (-1), .int (-1), .int (-1), .int (-1), .int (-1), .int (-1), .int (-1), .int (-1), .int (-1), .int (-1), .int (-1), .int (-1), .int (-1), .int (-1), .int (-1), .int (-1), .int (-1), .int (-1), .int (-1), .int (-1), .int (-1), .int (-1), .int (-1), .int (-1), .int (-1), .int (-1), .int (-1), .int (-1), .int (-1), .int (-1), .int (-1), .int (-1), .int (-1), .int (-1), .int (-1), .int (-1), .int (-1), .int (-1), .int (-1), .int (-1), .int (-1), .int (-1), .int (-1), .int (-1), .int (-1), .int (-1), .int (-1), .int (-1), .int (-1), .int (-1), .int (-1), .int (-1), .int (-1), .int (-1), .int (-1), .int (-1), .int (-1), .int (-1), .int (-1), .int (-1), .int (-1), .int (-1), .int (-1), .int (-1), .int (-1), .int (-1), .int (-1), .int (-1), .int (-1), .int (-1), .int (-1), .int (-1), .int (-1), .int (-1), .int (-1), .int (-1), .int (-1), .int (-1), .int (-1), .int (-1), .int (-1), .int (-1), .int (-1), .int (-1), .int (-1), .int (-1), .int (-1), .int (-1), .int (-1), .int (-1), .int (-1), .int (-1), .int (-1), .int (-1), .int (-1), .int (-1), .int (-1), .int (-1), .int (-1), .int (-1), .int (-1), .int (-1), .int (-1), .int (-1), .int (-1), .int (-1), .int (-1), .int (-1), .int (-1), .int (-1), .int (-1), .int (-1), .int (-1), .int (-1), .int (-1), .int (-1), .int (-1), .int (-1), .int (-1), .int (-1), .int (-1), .int (-1), .int (-1), .int (-1), .int (-1), .int (-1), .int (-1), .int (-1), .int (-1), .int (-1), .int (-1), .int (-1), .int (-1), .int (-1), .int (-1), .int (-1), .int (-1), .int (-1), .int (-1), .int (-1), .int (-1), .int (-1), .int (-1), .int (-1), .int (-1), .int (-1), .int (-1), .int (-1), .int (-1), .int (-1), .int (-1), .int (-1), .int (-1), .int (-1), .int (-1), .int (-1), .int (-1), .int (-1), .int (-1), .int (-1), .int (-1), .int (-1), .int (-1), .int (-1), .int (-1), .int (-1), .int (-1), .int (-1), .int (-1), .int (-1), .int (-1), .int (-1), .int (-1), .int (-1), .int (-1), .int (-1), .int (-1), .int (-1), .int (-1), .int (-1), .int (-1), .int (-1), .int (-1), .int (-1), .int (-1), .int (-1), .int (-1), .int (-1), .int (-1), .int (-1), .int (-1), .int (-1), .int (-1), .int (-1), .int (-1), .int (-1), .int (-1), .int (-1), .int (-1), .int (-1), .int (-1), .int (-1), .int (-1), .int (-1), .int (-1), .int (-1), .int (-1), .int (-1), .int (-1), .int (-1), .int (-1), .int (-1), .int (-1), .int (-1), .int (-1), .int (-1), .int (-1), .int (-1), .int (-1), .int (-1), .int (-1), .int (-1), .int (-1), .int (-1), .int (-1), .int (-1), .int (-1), .int (-1), .int (-1), .int (-1), .int (-1), .int (-1), .int (-1), .int (-1), .int (-1), .int (-1), .int (-1), .int (-1), .int (-1), .int (-1), .int (-1), .int (-1), .int (-1), .int (-1), .int (-1), .int (-1), .int (-1), .int (-1), .int (-1), .int (-1), .int (-1), .int (-1), .int (-1), .int (-1), .int (-1), .int (-1), .int (-1), .int (-1), .int (-1), .int (-1), .int (-1), .int (-1), .int (-1), .int (-1), .int (-1), .int (-1), .int (-1), .int (-1), .int (-1), .int (-1), .int (-1), .int (-1), .int (-1), .int (-1), .int (-1), .int (-1), .int (-1), .int (-1), .int (-1), .int (-1), .int (-1), .int (-1), .int (-1), .int (-1), .int (-1), .int (-1), .int (-1), .int (-1), .int (-1), .int (-1), .int (-1), .int (-1), .int (-1), .int (-1), .int (-1), .int (-1), .int (-1), .int (-1), .int (-1), .int (-1), .int (-1), .int (-1), .int (-1), .int (-1), .int (-1), .int (-1), .int (-1), .int (-1), .int (-1), .int (-1), .int (-1), .int (-1), .int (-1), .int (-1), .int (-1), .int (-1), .int (-1), .int (-1), .int (-1), .int (-1), .int (-1), .int (-1), .int (-1), .int (-1), .int (-1), .int (-1), .int (-1), .int (-1), .int (-1), .int (-1), .int (-1), .int (-1), .int (-1), .int (-1), .int (-1), .int (-1), .int (-1), .int (-1), .int (-1), .int (-1), .int (-1), .int (-1), .int (-1), .int (-1), .int (-1), .int (-1), .int (-1), .int (-1), .int (-1), .int (-1), .int (-1), .int (-1), .int (-1), .int (-1), .int (-1), .int (-1), .int (-1), .int (-1), .int (-1), .int (-1), .int (-1), .int (-1), .int (-1), .int (-1), .int (-1), .int (-1), .int (-1), .int (-1), .int (-1), .int (-1), .int (-1), .int (-1), .int (-1), .int (-1), .int (-1), .int (-1), .int (-1), .int (-1), .int (-1), .int (-1), .int (-1), .int (-1), .int (-1), .int (-1), .int (-1), .int (-1), .int (-1), .int (-1), .int (-1), .int (-1), .int (-1), .int (-1), .int (-1), .int (-1), .int (-1), .int (-1), .int (-1), .int (-1), .int (-1), .int (-1), .int (-1), .int (-1), .int (-1), .int (-1), .int (-1), .int (-1), .int (-1), .int (-1), .int (-1), .int (-1), .int (-1), .int (-1), .int (-1), .int (-1), .int (-1), .int (-1), .int (-1), .int (-1), .int (-1), .int (-1), .int (-1), .int (-1), .int (-1), .int (-1), .int (-1), .int (-1), .int (-1), .int (-1), .int (-1), .int (-1), .int (-1), .int (-1), .int (-1), .int (-1), .int (-1), .int (-1), .int (-1), .int (-1), .int (-1), .int (-1), .int (-1), .int (-1), .int (-1), .int (-1), .int (-1), .int (-1), .int (-1), .int (-1), .int (-1), .int (-1), .int (-1), .int (-1), .int (-1), .int (-1), .int (-1), .int (-1), .int (-1), .int (-1), .int (-1), .int (-1), .int (-1), .int (-1), .int (-1), .int (-1), .int (-1), .int (-1), .int (-1), .int (-1), .int (-1), .int (-1), .int (-1), .int (-1), .int (-1), .int (-1), .int (-1), .int (-1), .int (-1), .int (-1), .int (-1), .int (-1), .int (-1), .int (-1), .int (-1), .int (-1), .int (-1), .int (-1), .int (-1), .int (-1), .int (-1), .int (-1), .int (-1), .int (-1), .int (-1), .int (-1), .int (-1), .int (-1), .int (-1), .int (-1), .int (-1), .int (-1), .int (-1), .int (-1), .int (-1), .int (-1), .int (-1), .int (-1), .int (-1), .int (-1), .int (-1), .int (-1), .int (-1), .int (-1), .int (-1), .int (-1), .int (-1), .int (-1), .int (-1), .int (-1), .int (-1), .int (-1), .int (-1), .int (-1), .int (-1), .int (-1), .int (-1), .int (-1), .int (-1), .int (-1), .int (-1), .int (-1), .int (-1), .int (-1), .int (-1)], vm := .none },
  { cls := 5, slots := #[.ref 38, .ref 39, .int 0, .int 0], vm := .none },
  { cls := 20, slots := #[.int 0, .int 0, .int 0, .int 0, .int 0, .int 0, .int 0, .int 0, .int 0, .int 0, .int 0, .int 0], vm := .none },
  { cls := 20, slots := #[.int 0, .int 0, .int 0, .int 0, .int 0, .int 0, .int 0, .int 0, .int 0, .int 0, .int 0, .int 0], vm := .none },
  { cls := 6, slots := #[.ref 31, .ref 37, .ref 41, .ref 42, .ref 43, .ref 44, .int 0, .int 0, .int 0, .int 1], vm := .none },
  { cls := 20, slots := #[.int 0, .int 0, .int 0, .int 0, .int 0, .int 0, .int 0, .int 0, .int 0, .int 0, .int 0, .int 0], vm := .none },
  { cls := 20, slots := #[.int 0, .int 0, .int 0, .int 0, .int 0, .int 0, .int 0, .int 0, .int 0, .int 0, .int 0, .int 0], vm := .none },
  { cls := 20, slots := #[.int 0, .int 0, .int 0, .int 0, .int 0, .int 0, .int 0, .int 0, .int 0, .int 0, .int 0, .int 0, .int 0, .int 0, .int 0, .int 0, .int 0, .int 0, .int 0, .int 0, .int 0, .int 0, .int 0, .int 0, .int 0, .int 0, .int 0, .int 0, .int 0, .int 0, .int 0, .int 0, .int 0, .int 0, .int 0, .int 0, .int 0, .int 0, .int 0, .int 0, .int 0, .int 0, .int 0, .int 0, .int 0, .int 0, .int 0, .int 0], vm := .none },
  { cls := 20, slots := #[.int 0, .int 0, .int 0, .int 0, .int 0, .int 0, .int 0, .int 0, .int 0, .int 0, .int 0, .int 0], vm := .none },
  { cls := 7, slots := #[.ref 31, .ref 37, .ref 40, .ref 46, .ref 47, .ref 48, .int 0], vm := .none },
  { cls := 20, slots := #[.int 0, .int 0, .int 0, .int 0, .int 0, .int 0, .int 0, .int 0, .int 0, .int 0, .int 0, .int 0], vm := .none },
  { cls := 20, slots := #[.int 0, .int 0, .int 0, .int 0, .int 0, .int 0, .int 0, .int 0, .int 0, .int 0, .int 0, .int 0], vm := .none },
  { cls := 22, slots := #[.int 0, .int 0, .int 0, .int 0, .int 0, .int 0, .int 0, .int 0, .int 0, .int 0, .int 0, .int 0], vm := .none },
  { cls := 7, slots := #[.ref 31, .ref 37, .ref 40, .ref 50, .ref 51, .ref 52, .int 0], vm := .none },
  { cls := 20, slots := #[.int 0, .int 0, .int 0, .int 0, .int 0, .int 0, .int 0, .int 0, .int 0, .int 0, .int 0, .int 0], vm := .none },
  { cls := 20, slots := #[.int 0, .int 0, .int 0, .int 0, .int 0, .int 0, .int 0, .int 0, .int 0, .int 0, .int 0, .int 0], vm := .none },
  { cls := 22, slots := #[.int 0, .int 0, .int 0, .int 0, .int 0, .int 0, .int 0, .int 0, .int 0, .int 0, .int 0, .int 0], vm := .none },
  { cls := 20, slots := #[.int 3, .int 0, .int 0, .int 0, .int 0, .int 2, .int 0, .int 0, .int 64, .int 2, .int 1, .int 3], vm := .none },
  { cls := 20, slots := #[.int 0, .int 0, .int 0, .int 0, .int 0, .int 0, .int 0, .int 0, .int 0, .int 0, .int 0, .int 0, .int 0, .int 0, .int 0, .int 0, .int 0, .int 0, .int 0, .int 0, .int 0, .int 0, .int 0, .int 0, .int 0, .int 0, .int 0, .int 0, .int 0, .int 0, .int 0, .int 0, .int 0, .int 0, .int 0, .int 0, .int 0, .int 0, .int 0, .int 0, .int 0, .int 0, .int 0, .int 0, .int 0, .int 0, .int 0, .int 0, .int 0, .int 0, .int 0, .int 0, .int 0, .int 0, .int 0, .int 0, .int 0, .int 0, .int 0, .int 0], vm := .none },
  { cls := 20, slots := #[.int 0, .int 0, .int 0, .int 0, .int 0, .int 0], vm := .none },
  { cls := 20, slots := #[.int 0, .int 0, .int 0, .int 0, .int 0, .int 0], vm := .none },
  { cls := 20, slots := #[.int 0, .int 0, .int 0, .int 0, .int 0, .int 0], vm := .none },
  { cls := 20, slots := #[.int 0, .int 0, .int 0, .int 0, .int 0, .int 0], vm := .none },
  { cls := 20, slots := #[.int 0, .int 0, .int 0, .int 0, .int 0, .int 0], vm := .none },
  { cls := 20, slots := #[.int 0, .int 0, .int 0, .int 0, .int 0, .int 0], vm := .none },
  { cls := 20, slots := #[.int 2, .int 2, .int 4, .int 0, .int 0, .int 0, .int 0, .int 0], vm := .none },
  { cls := 15, slots := #[.null, .ref 16, .ref 62, .null, .int 0, .null], vm := .none },
  { cls := 15, slots := #[.null, .ref 16, .ref 63, .null, .int 0, .null], vm := .none },
  { cls := 17, slots := #[.null, .ref 12, .ref 64, .null, .int 0, .null], vm := .none },
  { cls := 15, slots := #[.null, .ref 16, .ref 65, .null, .int 0, .null], vm := .none },
  { cls := 15, slots := #[.null, .ref 16, .ref 66, .null, .int 0, .null], vm := .none },
  { cls := 15, slots := #[.null, .ref 16, .ref 67, .null, .int 0, .null], vm := .none },
  { cls := 17, slots := #[.null, .ref 12, .ref 68, .null, .int 0, .null], vm := .none },
  { cls := 17, slots := #[.null, .ref 12, .ref 69, .null, .int 0, .null], vm := .none },
  { cls := 17, slots := #[.null, .ref 26, .ref 70, .null, .int 0, .null], vm := .none },
  { cls := 17, slots := #[.null, .ref 12, .ref 71, .null, .int 0, .null], vm := .none },
  { cls := 15, slots := #[.null, .ref 16, .ref 72, .null, .int 0, .null], vm := .none },
  { cls := 17, slots := #[.null, .ref 2, .ref 73, .null, .int 0, .null], vm := .none },
  { cls := 17, slots := #[.null, .ref 2, .ref 74, .null, .int 0, .null], vm := .none },
  { cls := 17, slots := #[.null, .ref 4, .ref 75, .null, .int 0, .null], vm := .none },
  { cls := 17, slots := #[.null, .ref 4, .ref 76, .null, .int 0, .null], vm := .none },
  { cls := 17, slots := #[.null, .ref 2, .ref 77, .null, .int 0, .null], vm := .none },
  { cls := 17, slots := #[.null, .ref 2, .ref 78, .null, .int 0, .null], vm := .none },
  { cls := 17, slots := #[.null, .ref 4, .ref 79, .null, .int 0, .null], vm := .none },
  { cls := 17, slots := #[.null, .ref 4, .ref 80, .null, .int 0, .null], vm := .none },
  { cls := 17, slots := #[.null, .ref 2, .ref 81, .null, .int 0, .null], vm := .none },
  { cls := 17, slots := #[.null, .ref 2, .ref 82, .null, .int 0, .null], vm := .none },
  { cls := 17, slots := #[.null, .ref 4, .ref 83, .null, .int 0, .null], vm := .none },
  { cls := 17, slots := #[.null, .ref 4, .ref 84, .null, .int 0, .null], vm := .none },
  { cls := 17, slots := #[.null, .ref 2, .ref 85, .null, .int 0, .null], vm := .none },
  { cls := 17, slots := #[.null, .ref 2, .ref 86, .null, .int 0, .null], vm := .none },
  { cls := 17, slots := #[.null, .ref 4, .ref 87, .null, .int 0, .null], vm := .none },
  { cls := 17, slots := #[.null, .ref 4, .ref 88, .null, .int 0, .null], vm := .none },
  { cls := 17, slots := #[.null, .ref 2, .ref 89, .null, .int 0, .null], vm := .none },
  { cls := 17, slots := #[.null, .ref 2, .ref 90, .null, .int 0, .null], vm := .none },
  { cls := 17, slots := #[.null, .ref 4, .ref 91, .null, .int 0, .null], vm := .none },
  { cls := 17, slots := #[.null, .ref 4, .ref 92, .null, .int 0, .null], vm := .none },
  { cls := 17, slots := #[.null, .ref 2, .ref 93, .null, .int 0, .null], vm := .none },
  { cls := 17, slots := #[.null, .ref 2, .ref 94, .null, .int 0, .null], vm := .none },
  { cls := 17, slots := #[.null, .ref 4, .ref 95, .null, .int 0, .null], vm := .none },
  { cls := 17, slots := #[.null, .ref 4, .ref 96, .null, .int 0, .null], vm := .none },
  { cls := 17, slots := #[.null, .ref 2, .ref 97, .null, .int 0, .null], vm := .none },
  { cls := 17, slots := #[.null, .ref 2, .ref 98, .null, .int 0, .null], vm := .none },
  { cls := 17, slots := #[.null, .ref 4, .ref 99, .null, .int 0, .null], vm := .none },
  { cls := 17, slots := #[.null, .ref 4, .ref 100, .null, .int 0, .null], vm := .none },
  { cls := 17, slots := #[.null, .ref 2, .ref 101, .null, .int 0, .null], vm := .none },
  { cls := 17, slots := #[.null, .ref 2, .ref 102, .null, .int 0, .null], vm := .none },
  { cls := 17, slots := #[.null, .ref 4, .ref 103, .null, .int 0, .null], vm := .none },
  { cls := 17, slots := #[.null, .ref 4, .ref 104, .null, .int 0, .null], vm := .none }]
def zr_f18 : List Frame := [.java { method := ⟨2, 18⟩, pc := 14, locals := #[.val (.int 2)], stack := [.int 1], locked := none },
  .java { method := ⟨2, 24⟩, pc := 1, locals := #[.val (.int 2)], stack := [], locked := none },
  .java { method := ⟨2, 2⟩, pc := 1, locals := #[.val (.ref 30), .val (.int 2), .val (.int 2), .val (.int 0), .val (.int 1)], stack := [], locked := none },
  .java { method := ⟨0, 4⟩, pc := 6, locals := #[.val (.ref 30), .val (.int 2), .val (.int 2), .val (.int 0), .val (.int 1), .unset, .unset], stack := [], locked := none },
  .java { method := ⟨0, 23⟩, pc := 392, locals := #[.val (.ref 30), .val (.int 5), .val (.int (-17)), .val (.int 20), .val (.ref 53), .val (.ref 54), .val (.ref 55), .val (.ref 61), .val (.int 2), .val (.int 0), .val (.int 2), .val (.int 1), .val (.int 8), .val (.int 0), .unset], stack := [], locked := none },
  .java { method := ⟨0, 0⟩, pc := 191, locals := #[.val (.ref 0), .val (.ref 30), .val (.ref 53), .val (.ref 54), .val (.ref 55), .val (.ref 56), .val (.ref 57), .val (.ref 58), .val (.ref 59), .val (.ref 60), .val (.ref 61), .val (.int 9), .val (.int (-54)), .val (.int 5)], stack := [], locked := none },
  .native { method := ⟨0, 0⟩, args := #[] }]
def zr_u18 : Nat := 1878
def zr_w18 : State := stepsAlone start1.p0.tables start1.e0 891 (zr_mk zr_w17 zr_h17 zr_f17 zr_u17)
set_option maxRecDepth 16384 in
theorem zr_s18 : zr_run start1.p0.tables start1.e0 (zr_same zr_h18 zr_f18 zr_u18) 891 (zr_mk zr_w17 zr_h17 zr_f17 zr_u17) = true := by decide +kernel
end
section
def zr_h19 : List Cell := [{ cls := 2, slots := #[.ref 31, .ref 37, .ref 40, .ref 45, .ref 49], vm := .none },
  { cls := 3, slots := #[.ref 32, .ref 33, .ref 34, .ref 35, .ref 36, .int 0], vm := .none },
  { cls := 20, slots := #[.int 2, .int 2, .int 4, .int 0], vm := .none },
  { cls := 20, slots := #[.int 2, .int (-1), .int (-1), .int (-1), .int (-1), .int (-1), .int (-1), .int (-1), .int (-1), .int 1, .int (-1), .int (-1), .int (-1), .int (-1), .int (-1), .int (-1), .int (-1), .int 1, .int 0, .int 2, .int (-1), .int (-1), .int (-1), .int (-1), .int (-1), .int (-1), .int (-1), .int (-1), .int (-1), .int (-1), .int (-1), .int (-1)], vm := .none },
  { cls := 22, slots := #[.int 0, .int 0, .int 0, .int 0, .int 0, .int 0, .int 0, .int 0, .int 0, .int 0, .int 0, .int 0, .int 0, .int 0, .int 0, .int 0, .int 0, .int 0, .int 0, .int 0, .int 0, .int 0, .int 0, .int 0, .int 0, .int 0, .int 0, .int 0, .int 0, .int 0, .int 0, .int 0], vm := .none },
  { cls := 20, slots := #[.int 0, .int 0, .int 0, .int 0, .int 0, .int 0, .int 0, .int 0, .int 0, .int 0, .int 0, .int 0, .int 0, .int 0, .int 0, .int 0, .int 4, .int 0, .int 0, .int 0, .int 0, .int 0, .int 0, .int 0, .int 0, .int 0, .int 0, .int 0, .int 0, .int 0, .int 0, .int 0], vm := .none },
  { cls := 20, slots := #[.int (-1), .int (-1), .int (-1), .int (-1), .int (-1), .int (-1), .int (-1), .int (-1), .int (-1), .int (-1), .int (-1), .int (-1), .int (-1), .int (-1), .int (-1), .int (-1), .int (-1), .int (-1), .int (-1), .int (-1), .int (-1), .int (-1), .int (-1), .int (-1), .int (-1), .int (-1), .int (-1), .int (-1), .int (-1), .int (-1), .int (-1), .int (-1), .int (-1), .int (-1), .int (-1), .int (-1), .int (-1), .int (-1), .int (-1), .int (-1), .int (-1), .int (-1), .int (-1), .int (-1), .int (-1), .int (-1), .int (-1), .int (-1), .int (-1), .int (-1), .int (-1), .int (-1), .int (-1), .int (-1), .int (-1), .int (-1), .int (-1), .int (-1), .int (-1), .int (-1), .int (-1), .int (-1), .int (-1), .int (-1), .int (-1), .int (-1), .int (-1), .int (-1), .int (-1), .int (-1), .int (-1), .int (-1), .int (-1), .int (-1), .int (-1), .int (-1), .int (-1), .int (-1), .int (-1), .int (-1), .int (-1), .int (-1), .int (-1), .int (-1), .int (-1), .int (-1), .int (-1), .int (-1), .int (-1), .int (-1), .int (-1), .int (-1), .int (-1), .int (-1), .int (-1), .int (-1), .int (-1), .int (-1), .int (-1), .int (-1), .int (-1), .int (-1), .int (-1), .int (-1), .int (-1), .int (-1), .int (-1), .int (-1), .int (-1), .int (-1), .int (-1), .int (-1), .int (-1), .int (-1), .int (-1), .int (-1), .int (-1), .int (-1), .int (-1), .int (-1), .int (-1), .int (-1), .int (-1), .int (-1), .int (-1), .int (-1), .int (-1), .int (-1), .int (-1), .int (-1), .int (-1), .int (-1), .int (-1), .int (-1), .int (-1), .int (-1), .int (-1), .int (-1), .int (-1), .int (-1), .int (-1), .int (-1), .int (-1), .int (-1), .int (-1), .int (-1), .int (-1), .int (-1), .int (-1), .int (-1), .int (-1), .int (-1), .int (-1), .int (-1), .int (-1), .int (-1), .int (-1), .int (-1), .int (-1), .int (-1), .int (-1), .int (-1), .int (-1), .int (-1), .int (-1), .int (-1), .int (-1), .int (-1), .int (-1), .int (-1), .int (-1), .int (-1), .int (-1), .int (-1), .int (-1), .int (-1), .int (-1), .int (-1), .int (-1), .int (-1), .int (-1), .int (-1), .int (-1), .int (-1), .int (-1), .int (-1), .int (-1), .int (-1), .int (-1), .int (-1), .int (-1), .int (-1), .int (-1), .int (-1), .int (-1), .int (-1), .int (-1), .int (-1), .int (-1), .int (-1), .int (-1), .int (-1), .int (-1), .int (-1), .int (-1), .int (-1), .int (-1), .int (-1), .int (-1), .int (-1), .int (-1), .int (-1), .int (-1), .int (-1), .int (-1), .int (-1), .int (-1), .int (-1), .int (-1), .int (-1), .int (-1), .int (-1), .int (-1), .int (-1), .int (-1), .int (-1), .int (-1), .int (-1), .int (-1), .int (-1), .int (-1), .int (-1), .int (-1), .int (-1), .int (-1), .int (-1), .int (-1), .int (-1), .int (-1), .int (-1), .int (-1), .int (-1), .int (-1), .int (-1), .int (-1), .int (-1), .int (-1), .int (-1), .int (-1), .int (-1), .int (-1), .int (-1), .int (-1), .int (-1), .int (-1), .int (-1), .int (-1), .int (-1), .int (-1), .int (-1), .int (-1), .int (-1), .int (-1), .int (-1), .int (-1), .int (-1), .int (-1), .int (-1), .int (-1), .int (-1), .int (-1), .int (-1), .int (-1), .int (-1), .int (-1), .int (-1), .int (-1), .int (-1), .int (-1), .int (-1), .int (-1), .int (-1), .int (-1), .int (-1), .int (-1), .int (-1), .int (-1), .int (-1), .int (-1), .int (-1), .int (-1), .int (-1), .int (-1), .int (-1), .int (-1), .int (-1), .int (-1), .int (-1), .int (-1), .int (-1), .int (-1), .int (-1), .int (-1), .int (-1), .int (-1), .int (-1), .int (-1), .int (-1), .int (-1), .int (-1), .int (-1), .int (-1), .int (-1), .int (-1), .int (-1), .int (-1), .int (-1), .int (-1), .int (-1), .int (-1), .int (-1), .int (-1), .int (-1), .int (-1), .int (-1), .int (-1), .int (-1), .int (-1), .int (-1), .int (-1), .int (-1), .int (-1), .int (-1), .int (-1), .int (-1), .int (-1), .int (-1), .int (-1), .int (-1), .int (-1), .int (-1), .int (-1), .int (-1), .int (-1), .int (-1), .int (-1), .int (-1), .int (-1), .int (-1), .int (-1), .int (-1), .int (-1), .int (-1), .int (-1), .int (-1), .int (-1), .int (-1), .int (-1), .int (-1), .int (-1), .int (-1), .int (-1), .int (-1), .int (-1), .int (-1), .int (-1), .int (-1), .int (-1), .int (-1), .int (-1), .int (-1), .int (-1), .int (-1), .int (-1), .int (-1), .int (-1), .int (-1), .int (-1), .int (-1), .int (-1), .int (-1), .int (-1), .int (-1), .int (-1), .int (-1), .int (-1), .int (-1), .int (-1), .int (-1), .int (-1), .int (-1), .int (-1), .int (-1), .int (-1), .int (-1), .int (-1), .int (-1), .int (-1), .int (-1), .int (-1), .int (-1), .int (-1), .int (-1), .int (-1), .int (-1), .int (-1), .int (-1), .int (-1), .int (-1), .int (-1), .int (-1), .int (-1), .int (-1), .int (-1), .int (-1), .int (-1), .int (-1), .int (-1), .int (-1), .int (-1), .int (-1), .int (-1), .int (-1), .int (-1), .int (-1), .int (-1), .int (-1), .int (-1), .int (-1), .int (-1), .int (-1), .int (-1), .int (-1), .int (-1), .int (-1), .int (-1), .int (-1), .int (-1), .int (-1), .int (-1), .int (-1), .int (-1), .int (-1), .int (-1), .int (-1), .int (-1), .int (-1), .int (-1), .int (-1), .int (-1), .int (-1), .int (-1), .int (-1), .int (-1), .int (-1), .int (-1), .int (-1), .int (-1), .int (-1), .int (-1), .int (-1), .int (-1), .int (-1), .int (-1), .int (-1), .int (-1), .int (-1), .int (-1), .int (-1), .int (-1), .int (-1), .int (-1), .int (-1), .int (-1), .int (-1), .int (-1), .int (-1), .int (-1), .int (-1), .int (-1), .int (-1), .int (-1), .int (-1), .int (-1), .int (-1), .int (-1), .int (-1), .int (-1), .int (-1), .int (-1), .int (-1), .int (-1), .int (-1), .int (-1), .int (-1), .int (-1), .int (-1), .int (-1), .int (-1), .int (-1), .int (-1), .int (-1), .int (-1), .int (-1), .int (-1), .int (-1), .int (-1), .int (-1), .int (-1), .int (-1), .int (-1), .int (-1), .int (-1), .int (-1), .int (-1), .int (-1), .int (-1), .int (-1), .int (-1), .int (-1), .int (-1), .int (-1), .int (-1), .int (-1), .int (-1), .int (-1), .int (-1), .int (-1), .int (-1), .int (-1), .int (-1), .int (-1), .int (-1), .int (-1), .int (-1), .int (-1), .int (-1), .int (-1), .int (-1), .int (-1), .int (-1), .int (-1), .int (-1), .int (-1), .int (-1), .int (-1), .int (-1), .int (-1), .int (-1), .int (-1), .int (-1), .int (-1), .int (-1), .int (-1), .int (-1), .int (-1), .int (-1), .int (-1), .int (-1), .int (-1), .int (-1), .int (-1), .int (-1), .int (-1), .int (-1), .int (-1), .int (-1), .int (-1), .int (-1), .int (-1), .int (-1), .int (-1), .int (-1), .int (-1), .int (-1), .int (-1), .int (-1), .int (-1), .int (-1), .int (-1), .int (-1), .int (-1), .int (-1), .int (-1), .int (-1), .int (-1), .int (-1), .int (-1), .int (-1), .int (-1), .int (-1), .int (-1), .int (-1), .int (-1), .int (-1), .int (-1), .int (-1), .int (-1), .int (-1), .int (-1), .int (-1), .int (-1), .int (-1), .int (-1), .int (-1), .int (-1), .int (-1), .int (-1), .int (-1), .int (-1), .int (-1), .int (-1), .int (-1), .int (-1), .int (-1), .int (-1), .int (-1), .int (-1), .int (-1), .int (-1), .int (-1), .int (-1), .int (-1), .int (-1), .int (-1), .int (-1), .int (-1), .int (-1), .int (-1), .int (-1), .int (-1), .int (-1), .int (-1), .int (-1), .int (-1), .int (-1), .int (-1), .int (-1), .int (-1), .int (-1)], vm := .none },
  { cls := 5, slots := #[.ref 38, .ref 39, .int 0, .int 0], vm := .none },
  { cls := 20, slots := #[.int 0, .int 0, .int 0, .int 0, .int 0, .int 0, .int 0, .int 0, .int 0, .int 0, .int 0, .int 0], vm := .none },
  { cls := 20, slots := #[.int 0, .int 0, .int 0, .int 0, .int 0, .int 0, .int 0, .int 0, .int 0, .int 0, .int 0, .int 0], vm := .none },
  { cls := 6, slots := #[.ref 31, .ref 37, .ref 41, .ref 42, .ref 43, .ref 44, .int 0, .int 0, .int 0, .int 1], vm := .none },
  { cls := 20, slots := #[.int 0, .int 0, .int 0, .int 0, .int 0, .int 0, .int 0, .int 0, .int 0, .int 0, .int 0, .int 0], vm := .none },
  { cls := 20, slots := #[.int 0, .int 0, .int 0, .int 0, .int 0, .int 0, .int 0, .int 0, .int 0, .int 0, .int 0, .int 0], vm := .none },
  { cls := 20, slots := #[.int 0, .int 0, .int 0, .int 0, .int 0, .int 0, .int 0, .int 0, .int 0, .int 0, .int 0, .int 0, .int 0, .int 0, .int 0, .int 0, .int 0, .int 0, .int 0, .int 0, .int 0, .int 0, .int 0, .int 0, .int 0, .int 0, .int 0, .int 0, .int 0, .int 0, .int 0, .int 0, .int 0, .int 0, .int 0, .int 0, .int 0, .int 0, .int 0, .int 0, .int 0, .int 0, .int 0, .int 0, .int 0, .int 0, .int 0, .int 0], vm := .none },
  { cls := 20, slots := #[.int 0, .int 0, .int 0, .int 0, .int 0, .int 0, .int 0, .int 0, .int 0, .int 0, .int 0, .int 0], vm := .none },
  { cls := 7, slots := #[.ref 31, .ref 37, .ref 40, .ref 46, .ref 47, .ref 48, .int 0], vm := .none },
  { cls := 20, slots := #[.int 0, .int 0, .int 0, .int 0, .int 0, .int 0, .int 0, .int 0, .int 0, .int 0, .int 0, .int 0], vm := .none },
  { cls := 20, slots := #[.int 0, .int 0, .int 0, .int 0, .int 0, .int 0, .int 0, .int 0, .int 0, .int 0, .int 0, .int 0], vm := .none },
  { cls := 22, slots := #[.int 0, .int 0, .int 0, .int 0, .int 0, .int 0, .int 0, .int 0, .int 0, .int 0, .int 0, .int 0], vm := .none },
  { cls := 7, slots := #[.ref 31, .ref 37, .ref 40, .ref 50, .ref 51, .ref 52, .int 0], vm := .none },
  { cls := 20, slots := #[.int 0, .int 0, .int 0, .int 0, .int 0, .int 0, .int 0, .int 0, .int 0, .int 0, .int 0, .int 0], vm := .none },
  { cls := 20, slots := #[.int 0, .int 0, .int 0, .int 0, .int 0, .int 0, .int 0, .int 0, .int 0, .int 0, .int 0, .int 0], vm := .none },
  { cls := 22, slots := #[.int 0, .int 0, .int 0, .int 0, .int 0, .int 0, .int 0, .int 0, .int 0, .int 0, .int 0, .int 0], vm := .none },
  { cls := 20, slots := #[.int 3, .int 0, .int 0, .int 0, .int 0, .int 2, .int 0, .int 0, .int 64, .int 2, .int 1, .int 3], vm := .none },
  { cls := 20, slots := #[.int 0, .int 0, .int 0, .int 0, .int 0, .int 0, .int 0, .int 0, .int 0, .int 0, .int 0, .int 0, .int 0, .int 0, .int 0, .int 0, .int 0, .int 0, .int 0, .int 0, .int 0, .int 0, .int 0, .int 0, .int 0, .int 0, .int 0, .int 0, .int 0, .int 0, .int 0, .int 0, .int 0, .int 0, .int 0, .int 0, .int 0, .int 0, .int 0, .int 0, .int 0, .int 0, .int 0, .int 0, .int 0, .int 0, .int 0, .int 0, .int 0, .int 0, .int 0, .int 0, .int 0, .int 0, .int 0, .int 0, .int 0, .int 0, .int 0, .int 0], vm := .none },
  { cls := 20, slots := #[.int 0, .int 0, .int 0, .int 0, .int 0, .int 0], vm := .none },
  { cls := 20, slots := #[.int 0, .int 0, .int 0, .int 0, .int 0, .int 0], vm := .none },
  { cls := 20, slots := #[.int 0, .int 0, .int 0, .int 0, .int 0, .int 0], vm := .none },
  { cls := 20, slots := #[.int 0, .int 0, .int 0, .int 0, .int 0, .int 0], vm := .none },
  { cls := 20, slots := #[.int 0, .int 0, .int 0, .int 0, .int 0, .int 0], vm := .none },
  { cls := 20, slots := #[.int 0, .int 0, .int 0, .int 0, .int 0, .int 0], vm := .none },
  { cls := 20, slots := #[.int 2, .int 2, .int 4, .int 0, .int 0, .int 0, .int 0, .int 0], vm := .none },
  { cls := 15, slots := #[.null, .ref 16, .ref 62, .null, .int 0, .null], vm := .none },
  { cls := 15, slots := #[.null, .ref 16, .ref 63, .null, .int 0, .null], vm := .none },
  { cls := 17, slots := #[.null, .ref 12, .ref 64, .null, .int 0, .null], vm := .none },
  { cls := 15, slots := #[.null, .ref 16, .ref 65, .null, .int 0, .null], vm := .none },
  { cls := 15, slots := #[.null, .ref 16, .ref 66, .null, .int 0, .null], vm := .none },
  { cls := 15, slots := #[.null, .ref 16, .ref 67, .null, .int 0, .null], vm := .none },
  { cls := 17, slots := #[.null, .ref 12, .ref 68, .null, .int 0, .null], vm := .none },
  { cls := 17, slots := #[.null, .ref 12, .ref 69, .null, .int 0, .null], vm := .none },
  { cls := 17, slots := #[.null, .ref 26, .ref 70, .null, .int 0, .null], vm := .none },
  { cls := 17, slots := #[.null, .ref 12, .ref 71, .null, .int 0, .null], vm := .none },
  { cls := 15, slots := #[.null, .ref 16, .ref 72, .null, .int 0, .null], vm := .none },
  { cls := 17, slots := #[.null, .ref 2, .ref 73, .null, .int 0, .null], vm := .none },
  { cls := 17, slots := #[.null, .ref 2, .ref 74, .null, .int 0, .null], vm := .none },
  { cls := 17, slots := #[.null, .ref 4, .ref 75, .null, .int 0, .null], vm := .none },
  { cls := 17, slots := #[.null, .ref 4, .ref 76, .null, .int 0, .null], vm := .none },
  { cls := 17, slots := #[.null, .ref 2, .ref 77, .null, .int 0, .null], vm := .none },
  { cls := 17, slots := #[.null, .ref 2, .ref 78, .null, .int 0, .null], vm := .none },
  { cls := 17, slots := #[.null, .ref 4, .ref 79, .null, .int 0, .null], vm := .none },
  { cls := 17, slots := #[.null, .ref 4, .ref 80, .null, .int 0, .null], vm := .none },
  { cls := 17, slots := #[.null, .ref 2, .ref 81, .null, .int 0, .null], vm := .none },
  { cls := 17, slots := #[.null, .ref 2, .ref 82, .null, .int 0, .null], vm := .none },
  { cls := 17, slots := #[.null, .ref 4, .ref 83, .null, .int 0, .null], vm := .none },
  { cls := 17, slots := #[.null, .ref 4, .ref 84, .null, .int 0, .null], vm := .none },
  { cls := 17, slots := #[.null, .ref 2, .ref 85, .null, .int 0, .null], vm := .none },
  { cls := 17, slots := #[.null, .ref 2, .ref 86, .null, .int 0, .null], vm := .none },
  { cls := 17, slots := #[.null, .ref 4, .ref 87, .null, .int 0, .null], vm := .none },
  { cls := 17, slots := #[.null, .ref 4, .ref 88, .null, .int 0, .null], vm := .none },
  { cls := 17, slots := #[.null, .ref 2, .ref 89, .null, .int 0, .null], vm := .none },
  { cls := 17, slots := #[.null, .ref 2, .ref 90, .null, .int 0, .null], vm := .none },
  { cls := 17, slots := #[.null, .ref 4, .ref 91, .null, .int 0, .null], vm := .none },
  { cls := 17, slots := #[.null, .ref 4, .ref 92, .null, .int 0, .null], vm := .none },
  { cls := 17, slots := #[.null, .ref 2, .ref 93, .null, .int 0, .null], vm := .none },
  { cls := 17, slots := #[.null, .ref 2, .ref 94, .null, .int 0, .null], vm := .none },
  { cls := 17, slots := #[.null, .ref 4, .ref 95, .null, .int 0, .null], vm := .none },
  { cls := 17, slots := #[.null, .ref 4, .ref 96, .null, .int 0, .null], vm := .none },
  { cls := 17, slots := #[.null, .ref 2, .ref 97, .null, .int 0, .null], vm := .none },
  { cls := 17, slots := #[.null, .ref 2, .ref 98, .null, .int 0, .null], vm := .none },
  { cls := 17, slots := #[.null, .ref 4, .ref 99, .null, .int 0, .null], vm := .none },
  { cls := 17, slots := #[.null, .ref 4, .ref 100, .null, .int 0, .null], vm := .none },
  { cls := 17, slots := #[.null, .ref 2, .ref 101, .null, .int 0, .null], vm := .none },
  { cls := 17, slots := #[.null, .ref 2, .ref 102, .null, .int 0, .null], vm := .none },
  { cls := 17, slots := #[.null, .ref 4, .ref 103, .null, .int 0, .null], vm := .none },
  { cls := 17, slots := #[.null, .ref 4, .ref 104, .null, .int 0, .null], vm := .none },
  { cls := 15, slots := #[.null, .ref 10, .ref 105, .null, .int 0, .null], vm := .none },
  { cls := 17, slots := #[.null, .ref 8, .ref 106, .null, .int 0, .null], vm := .none },
  { cls := 17, slots := #[.null, .ref 2, .ref 107, .null, .int 0, .null], vm := .none }]
def zr_f19 : List Frame := [.java { method := ⟨2, 19⟩, pc := 1, locals := #[.val (.int 0)], stack := [.int 0], locked := none },
  .java { method := ⟨3, 1⟩, pc := 1, locals := #[.val (.ref 31), .val (.int 0)], stack := [], locked := none },
  .java { method := ⟨2, 27⟩, pc := 10, locals := #[.val (.ref 30), .val (.int 0), .val (.int 2)], stack := [.int 2], locked := none },
  .java { method := ⟨2, 3⟩, pc := 11, locals := #[.val (.ref 30), .val (.int 0), .val (.int 0), .val (.int 2), .val (.int 1000), .unset], stack := [], locked := none },
  .java { method := ⟨0, 5⟩, pc := 6, locals := #[.val (.ref 30), .val (.int 0), .val (.int 0), .val (.int 2), .val (.int 1000), .unset, .unset], stack := [], locked := none },
  .java { method := ⟨0, 23⟩, pc := 279, locals := #[.val (.ref 30), .val (.int 5), .val (.int (-46)), .val (.int (-9)), .val (.ref 53), .val (.ref 54), .val (.ref 55), .val (.ref 61), .val (.int 0), .val (.int 2), .val (.int 3), .unset, .unset, .unset, .unset], stack := [], locked := none },
  .java { method := ⟨0, 0⟩, pc := 191, locals := #[.val (.ref 0), .val (.ref 30), .val (.ref 53), .val (.ref 54), .val (.ref 55), .val (.ref 56), .val (.ref 57), .val (.ref 58), .val (.ref 59), .val (.ref 60), .val (.ref 61), .val (.int 11), .val (.int 168), .val (.int 5)], stack := [], locked := none },
  .native { method := ⟨0, 0⟩, args := #[] }]
def zr_u19 : Nat := 1896
def zr_w19 : State := stepsAlone start1.p0.tables start1.e0 897 (zr_mk zr_w18 zr_h18 zr_f18 zr_u18)
set_option maxRecDepth 16384 in
theorem zr_s19 : zr_run start1.p0.tables start1.e0 (zr_same zr_h19 zr_f19 zr_u19) 897 (zr_mk zr_w18 zr_h18 zr_f18 zr_u18) = true := by decide +kernel
end
section
def zr_h20 : List Cell := [{ cls := 2, slots := #[.ref 31, .ref 37, .ref 40, .ref 45, .ref 49], vm := .none },
  { cls := 3, slots := #[.ref 32, .ref 33, .ref 34, .ref 35, .ref 36, .int 0], vm := .none },
  { cls := 20, slots := #[.int 2, .int 2, .int 4, .int 0], vm := .none },
  { cls := 20, slots := #[.int 2, .int (-1), .int (-1), .int (-1), .int (-1), .int (-1), .int (-1), .int (-1), .int (-1), .int 1, .int (-1), .int (-1), .int (-1), .int (-1), .int (-1), .int (-1), .int (-1), .int 1, .int 0, .int 2, .int (-1), .int (-1), .int (-1), .int (-1), .int (-1), .int (-1), .int (-1), .int (-1), .int (-1), .int (-1), .int (-1), .int (-1)], vm := .none },
  { cls := 22, slots := #[.int 0, .int 0, .int 0, .int 0, .int 0, .int 0, .int 0, .int 0, .int 0, .int 0, .int 0, .int 0, .int 0, .int 0, .int 0, .int 0, .int 0, .int 0, .int 0, .int 0, .int 0, .int 0, .int 0, .int 0, .int 0, .int 0, .int 0, .int 0, .int 0, .int 0, .int 0, .int 0], vm := .none },
  { cls := 20, slots := #[.int 0, .int 0, .int 0, .int 0, .int 0, .int 0, .int 0, .int 0, .int 0, .int 2, .int 0, .int 0, .int 0, .int 0, .int 0, .int 0, .int 4, .int 0, .int 0, .int 0, .int 0, .int 0, .int 0, .int 0, .int 0, .int 0, .int 0, .int 0, .int 0, .int 0, .int 0, .int 0], vm := .none },
  { cls := 20, slots := #[.int (-1), .int (-1), .int (-1), .int (-1), .int (-1), .int (-1), .int (-1), .int (-1), .int (-1), .int (-1), .int (-1), .int (-1), .int (-1), .int (-1), .int (-1), .int (-1), .int (-1), .int (-1), .int (-1), .int (-1), .int (-1), .int (-1), .int (-1), .int (-1), .int (-1), .int (-1), .int (-1), .int (-1), .int (-1), .int (-1), .int (-1), .int (-1), .int (-1), .int (-1), .int (-1), .int (-1), .int (-1), .int (-1), .int (-1), .int (-1), .int (-1), .int (-1), .int (-1), .int (-1), .int (-1), .int (-1), .int (-1), .int (-1), .int (-1), .int (-1), .int (-1), .int (-1), .int (-1), .int (-1), .int (-1), .int (-1), .int (-1), .int (-1), .int (-1), .int (-1), .int (-1), .int (-1), .int (-1), .int (-1), .int (-1), .int (-1), .int (-1), .int (-1), .int (-1), .int (-1), .int (-1), .int (-1), .int (-1), .int (-1), .int (-1), .int (-1), .int (-1), .int (-1), .int (-1), .int (-1), .int (-1), .int (-1), .int (-1), .int (-1), .int (-1), .int (-1), .int (-1), .int (-1), .int (-1), .int (-1), .int (-1), .int (-1), .int (-1), .int (-1), .int (-1), .int (-1), .int (-1), .int (-1), .int (-1), .int (-1), .int (-1), .int (-1), .int (-1), .int (-1), .int (-1), .int (-1), .int (-1), .int (-1), .int (-1), .int (-1), .int (-1), .int (-1), .int (-1), .int (-1), .int (-1), .int (-1), .int (-1), .int (-1), .int (-1), .int (-1), .int (-1), .int (-1), .int (-1), .int (-1), .int (-1), .int (-1), .int (-1), .int (-1), .int (-1), .int (-1), .int (-1), .int (-1), .int (-1), .int (-1), .int (-1), .int (-1), .int (-1), .int (-1), .int (-1), .int (-1), .int (-1), .int (-1), .int (-1), .int (-1), .int (-1), .int (-1), .int (-1), .int (-1), .int (-1), .int (-1), .int (-1), .int (-1), .int (-1), .int (-1), .int (-1), .int (-1), .int (-1), .int (-1), .int (-1), .int (-1), .int (-1), .int (-1), .int (-1), .int (-1), .int (-1), .int (-1), .int (-1), .int (-1), .int (-1), .int (-1), .int (-1), .int (-1), .int (-1), .int (-1), .int (-1), .int (-1), .int (-1), .int (-1), .int (-1), .int (-1), .int (-1), .int (-1), .int (-1), .int (-1), .int (-1), .int (-1), .int (-1), .int (-1), .int (-1), .int (-1), .int (-1), .int (-1), .int (-1), .int (-1), .int (-1), .int (-1), .int (-1), .int (-1), .int (-1), .int (-1), .int (-1), .int (-1), .int (-1), .int (-1), .int (-1), .int (-1), .int (-1), .int (-1), .int (-1), .int (-1), .int (-1), .int (-1), .int (-1), .int (-1), .int (-1), .int (-1), .int (-1), .int (-1), .int (-1), .int (-1), .int (-1), .int (-1), .int (-1), .int (-1), .int (-1), .int (-1), .int (-1), .int (-1), .int (-1), .int (-1), .int (-1), .int (-1), .int (-1), .int (-1), .int (-1), .int (-1), .int (-1), .int (-1), .int (-1), .int (-1), .int (-1), .int (-1), .int (-1), .int (-1), .int (-1), .int (-1), .int (-1), .int (-1), .int (-1), .int (-1), .int (-1), .int (-1), .int (-1), .int (-1), .int (-1), .int (-1), .int (-1), .int (-1), .int (-1), .int (-1), .int (-1), .int (-1), .int (-1), .int (-1), .int (-1), .int (-1), .int (-1), .int (-1), .int (-1), .int (-1), .int (-1), .int (-1), .int (-1), .int (-1), .int (-1), .int (-1), .int (-1), .int (-1), .int (-1), .int (-1), .int (-1), .int (-1), .int (-1), .int (-1), .int (-1), .int (-1), .int (-1), .int (-1), .int (-1), .int (-1), .int (-1), .int (-1), .int (-1), .int (-1), .int (-1), .int (-1), .int (-1), .int (-1), .int (-1), .int (-1), .int (-1), .int (-1), .int (-1), .int (-1), .int (-1), .int (-1), .int (-1), .int (-1), .int (-1), .int (-1), .int (-1), .int (-1), .int (-1), .int (-1), .int (-1), .int (-1), .int (-1), .int (-1), .int (-1), .int (-1), .int (-1), .int (-1), .int (-1), .int (-1), .int (-1), .int (-1), .int (-1), .int (-1), .int (-1), .int (-1), .int (-1), .int (-1), .int (-1), .int (-1), .int (-1), .int (-1), .int (-1), .int (-1), .int (-1), .int (-1), .int (-1), .int (-1), .int (-1), .int (-1), .int (-1), .int (-1), .int (-1), .int (-1), .int (-1), .int (-1), .int (-1), .int (-1), .int (-1), .int (-1), .int (-1), .int (-1), .int (-1), .int (-1), .int (-1), .int (-1), .int (-1), .int (-1), .int (-1), .int (-1), .int (-1), .int (-1), .int (-1), .int (-1), .int (-1), .int (-1), .int (-1), .int (-1), .int (-1), .int (-1), .int (-1), .int (-1), .int (-1), .int (-1), .int (-1), .int (-1), .int (-1), .int (-1), .int (-1), .int (-1), .int (-1), .int (-1), .int (-1), .int (-1), .int (-1), .int (-1), .int (-1), .int (-1), .int (-1), .int (-1), .int (-1), .int (-1), .int (-1), .int (-1), .int (-1), .int (-1), .int (-1), .int (-1), .int (-1), .int (-1), .int (-1), .int (-1), .int (-1), .int (-1), .int (-1), .int (-1), .int (-1), .int (-1), .int (-1), .int (-1), .int (-1), .int (-1), .int (-1), .int (-1), .int (-1), .int (-1), .int (-1), .int (-1), .int (-1), .int (-1), .int (-1), .int (-1), .int (-1), .int (-1), .int (-1), .int (-1), .int (-1), .int (-1), .int (-1), .int (-1), .int (-1), .int (-1), .int (-1), .int (-1), .int (-1), .int (-1), .int (-1), .int (-1), .int (-1), .int (-1), .int (-1), .int (-1), .int (-1), .int (-1), .int (-1), .int (-1), .int (-1), .int (-1), .int (-1), .int (-1), .int (-1), .int (-1), .int (-1), .int (-1), .int (-1), .int (-1), .int (-1), .int (-1), .int (-1), .int (-1), .int (-1), .int (-1), .int (-1), .int (-1), .int (-1), .int (-1), .int (-1), .int (-1), .int (-1), .int (-1), .int (-1), .int (-1), .int (-1), .int (-1), .int (-1), .int (-1), .int (-1), .int (-1), .int (-1), .int (-1), .int (-1), .int (-1), .int (-1), .int (-1), .int (-1), .int (-1), .int (-1), .int (-1), .int (-1), .int (-1), .int (-1), .int (-1), .int (-1), .int (-1), .int (-1), .int (-1), .int (-1), .int (-1), .int (-1), .int (-1), .int (-1), .int (-1), .int (-1), .int (-1), .int (-1), .int (-1), .int (-1), .int (-1), .int (-1), .int (-1), .int (-1), .int (-1), .int (-1), .int (-1), .int (-1), .int (-1), .int (-1), .int (-1), .int (-1), .int (-1), .int (-1), .int (-1), .int (-1), .int (-1), .int (-1), .int (-1), .int (-1), .int (-1), .int (-1), .int (-1), .int (-1), .int (-1), .int (-1), .int (-1), .int (-1), .int (-1), .int (-1), .int (-1), .int (-1), .int (-1), .int (-1), .int (-1), .int (-1), .int (-1), .int (-1), .int (-1), .int (-1), .int (-1), .int (-1), .int (-1), .int (-1), .int (-1), .int (-1), .int (-1), .int (-1), .int (-1), .int (-1), .int (-1), .int (-1), .int (-1), .int (-1), .int (-1), .int (-1), .int (-1), .int (-1), .int (-1), .int (-1), .int (-1), .int (-1), .int (-1), .int (-1), .int (-1), .int (-1), .int (-1), .int (-1), .int (-1), .int (-1), .int (-1), .int (-1), .int (-1), .int (-1), .int (-1), .int (-1), .int (-1), .int (-1), .int (-1), .int (-1), .int (-1), .int (-1), .int (-1), .int (-1), .int (-1), .int (-1), .int (-1), .int (-1), .int (-1), .int (-1), .int (-1), .int (-1), .int (-1), .int (-1), .int (-1), .int (-1), .int (-1), .int (-1), .int (-1), .int (-1), .int (-1), .int (-1), .int (-1), .int (-1), .int (-1), .int (-1), .int (-1), .int (-1), .int (-1), .int (-1), .int (-1), .int (-1), .int (-1), .int (-1), .int (-1), .int (-1), .int (-1), .int (-1), .int (-1), .int (-1), .int (-1), .int (-1), .int (-1), .int (-1), .int (-1), .int (-1), .int (-1), .int (-1), .int (-1)], vm := .none },
  { cls := 5, slots := #[.ref 38, .ref 39, .int 0, .int 0], vm := .none },
  { cls := 20, slots := #[.int 0, .int 0, .int 0, .int 0, .int 0, .int 0, .int 0, .int 0, .int 0, .int 0, .int 0, .int 0], vm := .none },
  { cls := 20, slots := #[.int 0, .int 0, .int 0, .int 0, .int 0, .int 0, .int 0, .int 0, .int 0, .int 0, .int 0, .int 0], vm := .none },
  { cls := 6, slots := #[.ref 31, .ref 37, .ref 41, .ref 42, .ref 43, .ref 44, .int 0, .int 0, .int 0, .int 1], vm := .none },
  { cls := 20, slots := #[.int 0, .int 0, .int 0, .int 0, .int 0, .int 0, .int 0, .int 0, .int 0, .int 0, .int 0, .int 0], vm := .none },
  { cls := 20, slots := #[.int 0, .int 0, .int 0, .int 0, .int 0, .int 0, .int 0, .int 0, .int 0, .int 0, .int 0, .int 0], vm := .none },
  { cls := 20, slots := #[.int 0, .int 0, .int 0, .int 0, .int 0, .int 0, .int 0, .int 0, .int 0, .int 0, .int 0, .int 0, .int 0, .int 0, .int 0, .int 0, .int 0, .int 0, .int 0, .int 0, .int 0, .int 0, .int 0, .int 0, .int 0, .int 0, .int 0, .int 0, .int 0, .int 0, .int 0, .int 0, .int 0, .int 0, .int 0, .int 0, .int 0, .int 0, .int 0, .int 0, .int 0, .int 0, .int 0, .int 0, .int 0, .int 0, .int 0, .int 0], vm := .none },
  { cls := 20, slots := #[.int 0, .int 0, .int 0, .int 0, .int 0, .int 0, .int 0, .int 0, .int 0, .int 0, .int 0, .int 0], vm := .none },
  { cls := 7, slots := #[.ref 31, .ref 37, .ref 40, .ref 46, .ref 47, .ref 48, .int 0], vm := .none },
  { cls := 20, slots := #[.int 0, .int 0, .int 0, .int 0, .int 0, .int 0, .int 0, .int 0, .int 0, .int 0, .int 0, .int 0], vm := .none },
  { cls := 20, slots := #[.int 0, .int 0, .int 0, .int 0, .int 0, .int 0, .int 0, .int 0, .int 0, .int 0, .int 0, .int 0], vm := .none },
  { cls := 22, slots := #[.int 0, .int 0, .int 0, .int 0, .int 0, .int 0, .int 0, .int 0, .int 0, .int 0, .int 0, .int 0], vm := .none },
  { cls := 7, slots := #[.ref 31, .ref 37, .ref 40, .ref 50, .ref 51, .ref 52, .int 0], vm := .none },
  { cls := 20, slots := #[.int 0, .int 0, .int 0, .int 0, .int 0, .int 0, .int 0, .int 0, .int 0, .int 0, .int 0, .int 0], vm := .none },
  { cls := 20, slots := #[.int 0, .int 0, .int 0, .int 0, .int 0, .int 0, .int 0, .int 0, .int 0, .int 0, .int 0, .int 0], vm := .none },
  { cls := 22, slots := #[.int 0, .int 0, .int 0, .int 0, .int 0, .int 0, .int 0, .int 0, .int 0, .int 0, .int 0, .int 0], vm := .none },
  { cls := 20, slots := #[.int 3, .int 0, .int 0, .int 0, .int 0, .int 34, .int 0, .int 0, .int 64, .int 2, .int 1, .int 3], vm := .none },
  { cls := 20, slots := #[.int 0, .int 0, .int 0, .int 0, .int 0, .int 2, .int 0, .int 0, .int 0, .int 0, .int 0, .int 0, .int 0, .int 0, .int 0, .int 0, .int 0, .int 0, .int 0, .int 0, .int 0, .int 0, .int 0, .int 0, .int 0, .int 0, .int 0, .int 0, .int 0, .int 0, .int 0, .int 0, .int 0, .int 0, .int 0, .int 0, .int 0, .int 0, .int 0, .int 0, .int 0, .int 0, .int 0, .int 0, .int 0, .int 0, .int 0, .int 0, .int 0, .int 0, .int 0, .int 0, .int 0, .int 0, .int 0, .int 0, .int 0, .int 0, .int 0, .int 0], vm := .none },
  { cls := 20, slots := #[.int 0, .int 0, .int 0, .int 0, .int 0, .int 0], vm := .none },
  { cls := 20, slots := #[.int 0, .int 0, .int 0, .int 0, .int 0, .int 0], vm := .none },
  { cls := 20, slots := #[.int 0, .int 0, .int 0, .int 0, .int 0, .int 0], vm := .none },
  { cls := 20, slots := #[.int 0, .int 0, .int 0, .int 0, .int 0, .int 0], vm := .none },
  { cls := 20, slots := #[.int 0, .int 0, .int 0, .int 0, .int 0, .int 0], vm := .none },
  { cls := 20, slots := #[.int 0, .int 0, .int 0, .int 0, .int 0, .int 0], vm := .none },
  { cls := 20, slots := #[.int 2, .int 2, .int 4, .int 0, .int 0, .int 0, .int 0, .int 0], vm := .none },
  { cls := 15, slots := #[.null, .ref 16, .ref 62, .null, .int 0, .null], vm := .none },
  { cls := 15, slots := #[.null, .ref 16, .ref 63, .null, .int 0, .null], vm := .none },
  { cls := 17, slots := #[.null, .ref 12, .ref 64, .null, .int 0, .null], vm := .none },
  { cls := 15, slots := #[.null, .ref 16, .ref 65, .null, .int 0, .null], vm := .none },
  { cls := 15, slots := #[.null, .ref 16, .ref 66, .null, .int 0, .null], vm := .none },
  { cls := 15, slots := #[.null, .ref 16, .ref 67, .null, .int 0, .null], vm := .none },
  { cls := 17, slots := #[.null, .ref 12, .ref 68, .null, .int 0, .null], vm := .none },
  { cls := 17, slots := #[.null, .ref 12, .ref 69, .null, .int 0, .null], vm := .none },
  { cls := 17, slots := #[.null, .ref 26, .ref 70, .null, .int 0, .null], vm := .none },
  { cls := 17, slots := #[.null, .ref 12, .ref 71, .null, .int 0, .null], vm := .none },
  { cls := 15, slots := #[.null, .ref 16, .ref 72, .null, .int 0, .null], vm := .none },
  { cls := 17, slots := #[.null, .ref 2, .ref 73, .null, .int 0, .null], vm := .none },
  { cls := 17, slots := #[.null, .ref 2, .ref 74, .null, .int 0, .null], vm := .none },
  { cls := 17, slots := #[.null, .ref 4, .ref 75, .null, .int 0, .null], vm := .none },
  { cls := 17, slots := #[.null, .ref 4, .ref 76, .null, .int 0, .null], vm := .none },
  { cls := 17, slots := #[.null, .ref 2, .ref 77, .null, .int 0, .null], vm := .none },
  { cls := 17, slots := #[.null, .ref 2, .ref 78, .null, .int 0, .null], vm := .none },
  { cls := 17, slots := #[.null, .ref 4, .ref 79, .null, .int 0, .null], vm := .none },
  { cls := 17, slots := #[.null, .ref 4, .ref 80, .null, .int 0, .null], vm := .none },
  { cls := 17, slots := #[.null, .ref 2, .ref 81, .null, .int 0, .null], vm := .none },
  { cls := 17, slots := #[.null, .ref 2, .ref 82, .null, .int 0, .null], vm := .none },
  { cls := 17, slots := #[.null, .ref 4, .ref 83, .null, .int 0, .null], vm := .none },
  { cls := 17, slots := #[.null, .ref 4, .ref 84, .null, .int 0, .null], vm := .none },
  { cls := 17, slots := #[.null, .ref 2, .ref 85, .null, .int 0, .null], vm := .none },
  { cls := 17, slots := #[.null, .ref 2, .ref 86, .null, .int 0, .null], vm := .none },
  { cls := 17, slots := #[.null, .ref 4, .ref 87, .null, .int 0, .null], vm := .none },
  { cls := 17, slots := #[.null, .ref 4, .ref 88, .null, .int 0, .null], vm := .none },
  { cls := 17, slots := #[.null, .ref 2, .ref 89, .null, .int 0, .null], vm := .none },
  { cls := 17, slots := #[.null, .ref 2, .ref 90, .null, .int 0, .null], vm := .none },
  { cls := 17, slots := #[.null, .ref 4, .ref 91, .null, .int 0, .null], vm := .none },
  { cls := 17, slots := #[.null, .ref 4, .ref 92, .null, .int 0, .null], vm := .none },
  { cls := 17, slots := #[.null, .ref 2, .ref 93, .null, .int 0, .null], vm := .none },
  { cls := 17, slots := #[.null, .ref 2, .ref 94, .null, .int 0, .null], vm := .none },
  { cls := 17, slots := #[.null, .ref 4, .ref 95, .null, .int 0, .null], vm := .none },
  { cls := 17, slots := #[.null, .ref 4, .ref 96, .null, .int 0, .null], vm := .none },
  { cls := 17, slots := #[.null, .ref 2, .ref 97, .null, .int 0, .null], vm := .none },
  { cls := 17, slots := #[.null, .ref 2, .ref 98, .null, .int 0, .null], vm := .none },
  { cls := 17, slots := #[.null, .ref 4, .ref 99, .null, .int 0, .null], vm := .none },
  { cls := 17, slots := #[.null, .ref 4, .ref 100, .null, .int 0, .null], vm := .none },
  { cls := 17, slots := #[.null, .ref 2, .ref 101, .null, .int 0, .null], vm := .none },
  { cls := 17, slots := #[.null, .ref 2, .ref 102, .null, .int 0, .null], vm := .none },
  { cls := 17, slots := #[.null, .ref 4, .ref 103, .null, .int 0, .null], vm := .none },
  { cls := 17, slots := #[.null, .ref 4, .ref 104, .null, .int 0, .null], vm := .none },
  { cls := 15, slots := #[.null, .ref 10, .ref 105, .null, .int 0, .null], vm := .none },
  { cls := 17, slots := #[.null, .ref 8, .ref 106, .null, .int 0, .null], vm := .none },
  { cls := 17, slots := #[.null, .ref 2, .ref 107, .null, .int 0, .null], vm := .none },
  { cls := 15, slots := #[.null, .ref 10, .ref 108, .null, .int 0, .null], vm := .none },
  { cls := 17, slots := #[.null, .ref 12, .ref 109, .null, .int 0, .null], vm := .none }]
def zr_f20 : List Frame := [.java { method := ⟨2, 3⟩, pc := 0, locals := #[.val (.ref 30), .val (.int 0), .val (.int 1), .val (.int 1), .val (.int 100), .unset], stack := [], locked := none },
  .java { method := ⟨0, 5⟩, pc := 6, locals := #[.val (.ref 30), .val (.int 0), .val (.int 1), .val (.int 1), .val (.int 100), .unset, .unset], stack := [], locked := none },
  .java { method := ⟨0, 23⟩, pc := 595, locals := #[.val (.ref 30), .val (.int 12), .val (.int 36), .val (.int 73), .val (.ref 53), .val (.ref 54), .val (.ref 55), .val (.ref 61), .val (.int 0), .val (.int 1), .val (.int 1), .val (.int 5), .val (.int 1), .val (.int 1), .val (.int (-1))], stack := [], locked := none },
  .java { method := ⟨0, 0⟩, pc := 191, locals := #[.val (.ref 0), .val (.ref 30), .val (.ref 53), .val (.ref 54), .val (.ref 55), .val (.ref 56), .val (.ref 57), .val (.ref 58), .val (.ref 59), .val (.ref 60), .val (.ref 61), .val (.int 14), .val (.int (-1)), .val (.int 12)], stack := [], locked := none },
  .native { method := ⟨0, 0⟩, args := #[] }]
def zr_u20 : Nat := 1908
def zr_w20 : State := stepsAlone start1.p0.tables start1.e0 969 (zr_mk zr_w19 zr_h19 zr_f19 zr_u19)
set_option maxRecDepth 16384 in
theorem zr_s20 : zr_run start1.p0.tables start1.e0 (zr_same zr_h20 zr_f20 zr_u20) 969 (zr_mk zr_w19 zr_h19 zr_f19 zr_u19) = true := by decide +kernel
end
section
def zr_h21 : List Cell := [{ cls := 2, slots := #[.ref 31, .ref 37, .ref 40, .ref 45, .ref 49], vm := .none },
  { cls := 3, slots := #[.ref 32, .ref 33, .ref 34, .ref 35, .ref 36, .int 0], vm := .none },
  { cls := 20, slots := #[.int 2, .int 2, .int 4, .int 0], vm := .none },
  { cls := 20, slots := #[.int 2, .int (-1), .int (-1), .int (-1), .int (-1), .int (-1), .int (-1), .int (-1), .int (-1), .int 1, .int (-1), .int (-1), .int (-1), .int (-1), .int (-1), .int (-1), .int (-1), .int 1, .int 0, .int 2, .int (-1), .int (-1), .int (-1), .int (-1), .int (-1), .int (-1), .int (-1), .int (-1), .int (-1), .int (-1), .int (-1), .int (-1)], vm := .none },
  { cls := 22, slots := #[.int 0, .int 0, .int 0, .int 0, .int 0, .int 0, .int 0, .int 0, .int 0, .int 0, .int 0, .int 0, .int 0, .int 0, .int 0, .int 0, .int 0, .int 0, .int 0, .int 0, .int 0, .int 0, .int 0, .int 0, .int 0, .int 0, .int 0, .int 0, .int 0, .int 0, .int 0, .int 0], vm := .none },
  { cls := 20, slots := #[.int 0, .int 0, .int 0, .int 0, .int 0, .int 0, .int 0, .int 0, .int 0, .int 2, .int 0, .int 0, .int 0, .int 0, .int 0, .int 0, .int 4, .int 0, .int 0, .int 0, .int 0, .int 0, .int 0, .int 0, .int 0, .int 0, .int 0, .int 0, .int 0, .int 0, .int 0, .int 0], vm := .none },
  { cls := 20, slots := #[.int (-1), .int (-1), .int (-1), .int (-1), .int (-1), .int (-1), .int (-1), .int (-1), .int (-1), .int (-1), .int (-1), .int (-1), .int (-1), .int (-1), .int (-1), .int (-1), .int (-1), .int (-1), .int (-1), .int (-1), .int (-1), .int 1, .int (-1), .int (-1), .int (-1), .int (-1), .int (-1), .int (-1), .int (-1), .int (-1), .int (-1), .int (-1), .int (-1), .int (-1), .int (-1), .int (-1), .int (-1), .int (-1), .int (-1), .int (-1), .int (-1), .int (-1), .int (-1), .int (-1), .int (-1), .int (-1), .int (-1), .int (-1), .int (-1), .int (-1), .int (-1), .int (-1), .int (-1), .int (-1), .int (-1), .int (-1), .int (-1), .int (-1), .int (-1), .int (-1), .int (-1), .int (-1), .int (-1), .int (-1), .int (-1), .int (-1), .int (-1), .int (-1), .int (-1), .int (-1), .int (-1), .int (-1), .int (-1), .int (-1), .int (-1), .int (-1), .int (-1), .int (-1), .int (-1), .int (-1), .int (-1), .int (-1), .int (-1), .int (-1), .int (-1), .int (-1), .int (-1), .int (-1), .int (-1), .int (-1), .int (-1), .int (-1), .int (-1), .int (-1), .int (-1), .int (-1), .int (-1), .int (-1), .int (-1), .int (-1), .int (-1), .int (-1), .int (-1), .int (-1), .int (-1), .int (-1), .int (-1), .int (-1), .int (-1), .int (-1), .int (-1), .int (-1), .int (-1), .int (-1), .int (-1), .int (-1), .int (-1), .int (-1), .int (-1), .int (-1), .int (-1), .int (-1), .int (-1), .int (-1), .int (-1), .int (-1), .int (-1), .int (-1), .int (-1), .int (-1), .int (-1), .int (-1), .int (-1), .int (-1), .int (-1), .int (-1), .int (-1), .int (-1), .int (-1), .int (-1), .int (-1), .int (-1), .int (-1), .int (-1), .int (-1), .int (-1), .int (-1), .int (-1), .int (-1), .int (-1), .int (-1), .int (-1), .int (-1), .int (-1), .int (-1), .int (-1), .int (-1), .int (-1), .int (-1), .int (-1), .int (-1), .int (-1), .int (-1), .int (-1), .int (-1), .int (-1), .int (-1), .int (-1), .int (-1), .int (-1), .int (-1), .int (-1), .int (-1), .int (-1), .int (-1), .int (-1), .int (-1), .int (-1), .int (-1), .int (-1), .int (-1), .int (-1), .int (-1), .int (-1), .int (-1), .int (-1), .int (-1), .int (-1), .int (-1), .int (-1), .int (-1), .int (-1), .int (-1), .int (-1), .int (-1), .int (-1), .int (-1), .int (-1), .int (-1), .int (-1), .int (-1), .int (-1), .int (-1), .int (-1), .int (-1), .int (-1), .int (-1), .int (-1), .int (-1), .int (-1), .int (-1), .int (-1), .int (-1), .int (-1), .int (-1), .int (-1), .int (-1), .int (-1), .int (-1), .int (-1), .int (-1), .int (-1), .int (-1), .int (-1), .int (-1), .int (-1), .int (-1), .int (-1), .int (-1), .int (-1), .int (-1), .int (-1), .int (-1), .int (-1), .int (-1), .int (-1), .int (-1), .int (-1), .int (-1), .int (-1), .int (-1), .int (-1), .int (-1), .int (-1), .int (-1), .int (-1), .int (-1), .int (-1), .int (-1), .int (-1), .int (-1), .int (-1), .int (-1), .int (-1), .int (-1), .int (-1), .int (-1), .int (-1), .int (-1), .int (-1), .int (-1), .int (-1), .int (-1), .int (-1), .int (-1), .int (-1), .int (-1), .int (-1), .int (-1), .int (-1), .int (-1), .int (-1), .int (-1), .int (-1), .int (-1), .int (-1), .int (-1), .int (-1), .int (-1), .int (-1), .int (-1), .int (-1), .int (-1), .int (-1), .int (-1), .int (-1), .int (-1), .int (-1), .int (-1), .int (-1), .int (-1), .int (-1), .int (-1), .int (-1), .int (-1), .int (-1), .int (-1), .int (-1), .int (-1), .int (-1), .int (-1), .int (-1), .int (-1), .int (-1), .int (-1), .int (-1), .int (-1), .int (-1), .int (-1), .int (-1), .int (-1), .int (-1), .int (-1), .int (-1), .int (-1), .int (-1), .int (-1), .int (-1), .int (-1), .int (-1), .int (-1), .int (-1), .int (-1), .int (-1), .int (-1), .int (-1), .int (-1), .int (-1), .int (-1), .int (-1), .int (-1), .int (-1), .int (-1), .int (-1), .int (-1), .int (-1), .int (-1), .int (-1), .int (-1), .int (-1), .int (-1), .int (-1), .int (-1), .int (-1), .int (-1), .int (-1), .int (-1), .int (-1), .int (-1), .int (-1), .int (-1), .int (-1), .int (-1), .int (-1), .int (-1), .int (-1), .int (-1), .int (-1), .int (-1), .int (-1), .int (-1), .int (-1), .int (-1), .int (-1), .int (-1), .int (-1), .int (-1), .int (-1), .int (-1), .int (-1), .int (-1), .int (-1), .int (-1), .int (-1), .int (-1), .int (-1), .int (-1), .int (-1), .int (-1), .int (-1), .int (-1), .int (-1), .int (-1), .int (-1), .int (-1), .int (-1), .int (-1), .int (-1), .int (-1), .int (-1), .int (-1), .int (-1), .int (-1), .int (-1), .int (-1), .int (-1), .int (-1), .int (-1), .int (-1), .int (-1), .int (-1), .int (-1), .int (-1), .int (-1), .int (-1), .int (-1), .int (-1), .int (-1), .int (-1), .int (-1), .int (-1), .int (-1), .int (-1), .int (-1), .int (-1), .int (-1), .int (-1), .int (-1), .int (-1), .int (-1), .int (-1), .int (-1), .int (-1), .int (-1), .int (-1), .int (-1), .int (-1), .int (-1), .int (-1), .int (-1), .int (-1), .int (-1), .int (-1), .int (-1), .int (-1), .int (-1), .int (-1), .int (-1), .int (-1), .int (-1), .int (-1), .int (-1), .int (-1), .int (-1), .int (-1), .int (-1), .int (-1), .int (-1), .int (-1), .int (-1), .int (-1), .int (-1), .int (-1), .int (-1), .int (-1), .int (-1), .int (-1), .int (-1), .int (-1), .int (-1), .int (-1), .int (-1), .int (-1), .int (-1), .int (-1), .int (-1), .int (-1), .int (-1), .int (-1), .int (-1), .int (-1), .int (-1), .int (-1), .int (-1), .int (-1), .int (-1), .int (-1), .int (-1), .int (-1), .int (-1), .int (-1), .int (-1), .int (-1), .int (-1), .int (-1), .int (-1), .int (-1), .int (-1), .int (-1), .int (-1), .int (-1), .int (-1), .int (-1), .int (-1), .int (-1), .int (-1), .int (-1), .int (-1), .int (-1), .int (-1), .int (-1), .int (-1), .int (-1), .int (-1), .int (-1), .int (-1), .int (-1), .int (-1), .int (-1), .int (-1), .int (-1), .int (-1), .int (-1), .int (-1), .int (-1), .int (-1), .int (-1), .int (-1), .int (-1), .int (-1), .int (-1), .int (-1), .int (-1), .int (-1), .int (-1), .int (-1), .int (-1), .int (-1), .int (-1), .int (-1), .int (-1), .int (-1), .int (-1), .int (-1), .int (-1), .int (-1), .int (-1), .int (-1), .int (-1), .int (-1), .int (-1), .int (-1), .int (-1), .int (-1), .int (-1), .int (-1), .int (-1), .int (-1), .int (-1), .int (-1), .int (-1), .int (-1), .int (-1), .int (-1), .int (-1), .int (-1), .int (-1), .int (-1), .int (-1), .int (-1), .int (-1), .int (-1), .int (-1), .int (-1), .int (-1), .int (-1), .int (-1), .int (-1), .int (-1), .int (-1), .int (-1), .int (-1), .int (-1), .int (-1), .int (-1), .int (-1), .int (-1), .int (-1), .int (-1), .int (-1), .int (-1), .int (-1), .int (-1), .int (-1), .int (-1), .int (-1), .int (-1), .int (-1), .int (-1), .int (-1), .int (-1), .int (-1), .int (-1), .int (-1), .int (-1), .int (-1), .int (-1), .int (-1), .int (-1), .int (-1), .int (-1), .int (-1), .int (-1), .int (-1), .int (-1), .int (-1), .int (-1), .int (-1), .int (-1), .int (-1), .int (-1), .int (-1), .int (-1), .int (-1), .int (-1), .int (-1), .int (-1), .int (-1), .int (-1), .int (-1), .int (-1), .int (-1), .int (-1), .int (-1), .int (-1), .int (-1), .int (-1), .int (-1), .int (-1), .int (-1), .int (-1), .int (-1), .int (-1), .int (-1), .int (-1), .int (-1), .int (-1), .int (-1), .int (-1), .int (-1)], vm := .none },
  { cls := 5, slots := #[.ref 38, .ref 39, .int 0, .int 0], vm := .none },
  { cls := 20, slots := #[.int 0, .int 0, .int 0, .int 0, .int 0, .int 0, .int 0, .int 0, .int 0, .int 0, .int 0, .int 0], vm := .none },
  { cls := 20, slots := #[.int 0, .int 0, .int 0, .int 0, .int 0, .int 0, .int 0, .int 0, .int 0, .int 0, .int 0, .int 0], vm := .none },
  { cls := 6, slots := #[.ref 31, .ref 37, .ref 41, .ref 42, .ref 43, .ref 44, .int 0, .int 0, .int 0, .int 1], vm := .none },
  { cls := 20, slots := #[.int 0, .int 0, .int 0, .int 0, .int 0, .int 0, .int 0, .int 0, .int 0, .int 0, .int 0, .int 0], vm := .none },
  { cls := 20, slots := #[.int 0, .int 0, .int 0, .int 0, .int 0, .int 0, .int 0, .int 0, .int 0, .int 0, .int 0, .int 0], vm := .none },
  { cls := 20, slots := #[.int 0, .int 0, .int 0, .int 0, .int 0, .int 0, .int 0, .int 0, .int 0, .int 0, .int 0, .int 0, .int 0, .int 0, .int 0, .int 0, .int 0, .int 0, .int 0, .int 0, .int 0, .int 0, .int 0, .int 0, .int 0, .int 0, .int 0, .int 0, .int 0, .int 0, .int 0, .int 0, .int 0, .int 0, .int 0, .int 0, .int 0, .int 0, .int 0, .int 0, .int 0, .int 0, .int 0, .int 0, .int 0, .int 0, .int 0, .int 0], vm := .none },
  { cls := 20, slots := #[.int 0, .int 0, .int 0, .int 0, .int 0, .int 0, .int 0, .int 0, .int 0, .int 0, .int 0, .int 0], vm := .none },
  { cls := 7, slots := #[.ref 31, .ref 37, .ref 40, .ref 46, .ref 47, .ref 48, .int 0], vm := .none },
  { cls := 20, slots := #[.int 0, .int 0, .int 0, .int 0, .int 0, .int 0, .int 0, .int 0, .int 0, .int 0, .int 0, .int 0], vm := .none },
  { cls := 20, slots := #[.int 0, .int 0, .int 0, .int 0, .int 0, .int 0, .int 0, .int 0, .int 0, .int 0, .int 0, .int 0], vm := .none },
  { cls := 22, slots := #[.int 0, .int 0, .int 0, .int 0, .int 0, .int 0, .int 0, .int 0, .int 0, .int 0, .int 0, .int 0], vm := .none },
  { cls := 7, slots := #[.ref 31, .ref 37, .ref 40, .ref 50, .ref 51, .ref 52, .int 0], vm := .none },
  { cls := 20, slots := #[.int 0, .int 0, .int 0, .int 0, .int 0, .int 0, .int 0, .int 0, .int 0, .int 0, .int 0, .int 0], vm := .none },
  { cls := 20, slots := #[.int 0, .int 0, .int 0, .int 0, .int 0, .int 0, .int 0, .int 0, .int 0, .int 0, .int 0, .int 0], vm := .none },
  { cls := 22, slots := #[.int 0, .int 0, .int 0, .int 0, .int 0, .int 0, .int 0, .int 0, .int 0, .int 0, .int 0, .int 0], vm := .none },
  { cls := 20, slots := #[.int 3, .int 0, .int 0, .int 0, .int 0, .int 34, .int 0, .int 0, .int 64, .int 2, .int 1, .int 3], vm := .none },
  { cls := 20, slots := #[.int 0, .int 0, .int 0, .int 0, .int 0, .int 2, .int 0, .int 0, .int 0, .int 0, .int 0, .int 0, .int 0, .int 0, .int 0, .int 0, .int 0, .int 0, .int 0, .int 0, .int 0, .int 0, .int 0, .int 0, .int 0, .int 0, .int 0, .int 0, .int 3, .int 0, .int 0, .int 0, .int 0, .int 0, .int 0, .int 0, .int 0, .int 0, .int 0, .int 0, .int 0, .int 0, .int 0, .int 0, .int 0, .int 0, .int 0, .int 0, .int 0, .int 0, .int 0, .int 0, .int 0, .int 0, .int 0, .int 0, .int 0, .int 0, .int 0, .int 0], vm := .none },
  { cls := 20, slots := #[.int 0, .int 0, .int 0, .int 0, .int 0, .int 0], vm := .none },
  { cls := 20, slots := #[.int 0, .int 0, .int 0, .int 0, .int 0, .int 0], vm := .none },
  { cls := 20, slots := #[.int 0, .int 0, .int 0, .int 0, .int 0, .int 0], vm := .none },
  { cls := 20, slots := #[.int 0, .int 0, .int 0, .int 0, .int 0, .int 0], vm := .none },
  { cls := 20, slots := #[.int 0, .int 0, .int 0, .int 0, .int 0, .int 0], vm := .none },
  { cls := 20, slots := #[.int 0, .int 0, .int 0, .int 0, .int 0, .int 0], vm := .none },
  { cls := 20, slots := #[.int 2, .int 2, .int 4, .int 0, .int 0, .int 0, .int 0, .int 0], vm := .none },
  { cls := 15, slots := #[.null, .ref 16, .ref 62, .null, .int 0, .null], vm := .none },
  { cls := 15, slots := #[.null, .ref 16, .ref 63, .null, .int 0, .null], vm := .none },
  { cls := 17, slots := #[.null, .ref 12, .ref 64, .null, .int 0, .null], vm := .none },
  { cls := 15, slots := #[.null, .ref 16, .ref 65, .null, .int 0, .null], vm := .none },
  { cls := 15, slots := #[.null, .ref 16, .ref 66, .null, .int 0, .null], vm := .none },
  { cls := 15, slots := #[.null, .ref 16, .ref 67, .null, .int 0, .null], vm := .none },
  { cls := 17, slots := #[.null, .ref 12, .ref 68, .null, .int 0, .null], vm := .none },
  { cls := 17, slots := #[.null, .ref 12, .ref 69, .null, .int 0, .null], vm := .none },
  { cls := 17, slots := #[.null, .ref 26, .ref 70, .null, .int 0, .null], vm := .none },
  { cls := 17, slots := #[.null, .ref 12, .ref 71, .null, .int 0, .null], vm := .none },
  { cls := 15, slots := #[.null, .ref 16, .ref 72, .null, .int 0, .null], vm := .none },
  { cls := 17, slots := #[.null, .ref 2, .ref 73, .null, .int 0, .null], vm := .none },
  { cls := 17, slots := #[.null, .ref 2, .ref 74, .null, .int 0, .null], vm := .none },
  { cls := 17, slots := #[.null, .ref 4, .ref 75, .null, .int 0, .null], vm := .none },
  { cls := 17, slots := #[.null, .ref 4, .ref 76, .null, .int 0, .null], vm := .none },
  { cls := 17, slots := #[.null, .ref 2, .ref 77, .null, .int 0, .null], vm := .none },
  { cls := 17, slots := #[.null, .ref 2, .ref 78, .null, .int 0, .null], vm := .none },
  { cls := 17, slots := #[.null, .ref 4, .ref 79, .null, .int 0, .null], vm := .none },
  { cls := 17, slots := #[.null, .ref 4, .ref 80, .null, .int 0, .null], vm := .none },
  { cls := 17, slots := #[.null, .ref 2, .ref 81, .null, .int 0, .null], vm := .none },
  { cls := 17, slots := #[.null, .ref 2, .ref 82, .null, .int 0, .null], vm := .none },
  { cls := 17, slots := #[.null, .ref 4, .ref 83, .null, .int 0, .null], vm := .none },
  { cls := 17, slots := #[.null, .ref 4, .ref 84, .null, .int 0, .null], vm := .none },
  { cls := 17, slots := #[.null, .ref 2, .ref 85, .null, .int 0, .null], vm := .none },
  { cls := 17, slots := #[.null, .ref 2, .ref 86, .null, .int 0, .null], vm := .none },
  { cls := 17, slots := #[.null, .ref 4, .ref 87, .null, .int 0, .null], vm := .none },
  { cls := 17, slots := #[.null, .ref 4, .ref 88, .null, .int 0, .null], vm := .none },
  { cls := 17, slots := #[.null, .ref 2, .ref 89, .null, .int 0, .null], vm := .none },
  { cls := 17, slots := #[.null, .ref 2, .ref 90, .null, .int 0, .null], vm := .none },
  { cls := 17, slots := #[.null, .ref 4, .ref 91, .null, .int 0, .null], vm := .none },
  { cls := 17, slots := #[.null, .ref 4, .ref 92, .null, .int 0, .null], vm := .none },
  { cls := 17, slots := #[.null, .ref 2, .ref 93, .null, .int 0, .null], vm := .none },
  { cls := 17, slots := #[.null, .ref 2, .ref 94, .null, .int 0, .null], vm := .none },
  { cls := 17, slots := #[.null, .ref 4, .ref 95, .null, .int 0, .null], vm := .none },
  { cls := 17, slots := #[.null, .ref 4, .ref 96, .null, .int 0, .null], vm := .none },
  { cls := 17, slots := #[.null, .ref 2, .ref 97, .null, .int 0, .null], vm := .none },
  { cls := 17, slots := #[.null, .ref 2, .ref 98, .null, .int 0, .null], vm := .none },
  { cls := 17, slots := #[.null, .ref 4, .ref 99, .null, .int 0, .null], vm := .none },
  { cls := 17, slots := #[.null, .ref 4, .ref 100, .null, .int 0, .null], vm := .none },
  { cls := 17, slots := #[.null, .ref 2, .ref 101, .null, .int 0, .null], vm := .none },
  { cls := 17, slots := #[.null, .ref 2, .ref 102, .null, .int 0, .null], vm := .none },
  { cls := 17, slots := #[.null, .ref 4, .ref 103, .null, .int 0, .null], vm := .none },
  { cls := 17, slots := #[.null, .ref 4, .ref 104, .null, .int 0, .null], vm := .none },
  { cls := 15, slots := #[.null, .ref 10, .ref 105, .null, .int 0, .null], vm := .none },
  { cls := 17, slots := #[.null, .ref 8, .ref 106, .null, .int 0, .null], vm := .none },
  { cls := 17, slots := #[.null, .ref 2, .ref 107, .null, .int 0, .null], vm := .none },
  { cls := 15, slots := #[.null, .ref 10, .ref 108, .null, .int 0, .null], vm := .none },
  { cls := 17, slots := #[.null, .ref 12, .ref 109, .null, .int 0, .null], vm := .none },
  { cls := 17, slots := #[.null, .ref 14, .ref 110, .null, .int 0, .null], vm := .none },
  { cls := 17, slots := #[.null, .ref 14, .ref 111, .null, .int 0, .null], vm := .none },
  { cls := 17, slots := #[.null, .ref 12, .ref 112, .null, .int 0, .null], vm := .none },
  { cls := 17, slots := #[.null, .ref 2, .ref 113, .null, .int 0, .null], vm := .none }]
def zr_f21 : List Frame := [.java { method := ⟨0, 23⟩, pc := 576, locals := #[.val (.ref 30), .val (.int 12), .val (.int 147), .val (.int 184), .val (.ref 53), .val (.ref 54), .val (.ref 55), .val (.ref 61), .val (.int 1), .val (.int 0), .val (.int 2), .val (.int 28), .val (.int 1), .val (.int 2), .val (.int (-1))], stack := [], locked := none },
  .java { method := ⟨0, 0⟩, pc := 191, locals := #[.val (.ref 0), .val (.ref 30), .val (.ref 53), .val (.ref 54), .val (.ref 55), .val (.ref 56), .val (.ref 57), .val (.ref 58), .val (.ref 59), .val (.ref 60), .val (.ref 61), .val (.int 15), .val (.int 110), .val (.int 12)], stack := [], locked := none },
  .native { method := ⟨0, 0⟩, args := #[] }]
def zr_u21 : Nat := 1932
def zr_w21 : State := stepsAlone start1.p0.tables start1.e0 879 (zr_mk zr_w20 zr_h20 zr_f20 zr_u20)
set_option maxRecDepth 16384 in
theorem zr_s21 : zr_run start1.p0.tables start1.e0 (zr_same zr_h21 zr_f21 zr_u21) 879 (zr_mk zr_w20 zr_h20 zr_f20 zr_u20) = true := by decide +kernel
end
section
def zr_h22 : List Cell := [{ cls := 2, slots := #[.ref 31, .ref 37, .ref 40, .ref 45, .ref 49], vm := .none },
  { cls := 3, slots := #[.ref 32, .ref 33, .ref 34, .ref 35, .ref 36, .int 0], vm := .none },
  { cls := 20, slots := #[.int 2, .int 2, .int 4, .int 0], vm := .none },
  { cls := 20, slots := #[.int 2, .int (-1), .int (-1), .int (-1), .int (-1), .int (-1), .int (-1), .int (-1), .int (-1), .int 1, .int (-1), .int (-1), .int (-1), .int (-1), .int (-1), .int (-1), .int (-1), .int 1, .int 0, .int 2, .int (-1), .int (-1), .int (-1), .int (-1), .int (-1), .int (-1), .int (-1), .int (-1), .int (-1), .int (-1), .int (-1), .int (-1)], vm := .none },
  { cls := 22, slots := #[.int 0, .int 0, .int 0, .int 0, .int 0, .int 0, .int 0, .int 0, .int 0, .int 0, .int 0, .int 0, .int 0, .int 0, .int 0, .int 0, .int 0, .int 0, .int 0, .int 0, .int 0, .int 0, .int 0, .int 0, .int 0, .int 0, .int 0, .int 0, .int 0, .int 0, .int 0, .int 0], vm := .none },
  { cls := 20, slots := #[.int 0, .int 0, .int 0, .int 0, .int 0, .int 0, .int 0, .int 0, .int 0, .int 2, .int 0, .int 0, .int 0, .int 0, .int 0, .int 0, .int 4, .int 0, .int 0, .int 0, .int 0, .int 0, .int 0, .int 0, .int 0, .int 0, .int 0, .int 0, .int 0, .int 0, .int 0, .int 0], vm := .none },
  { cls := 20, slots := #[.int (-1), .int (-1), .int (-1), .int (-1), .int (-1), .int (-1), .int (-1), .int (-1), .int (-1), .int (-1), .int (-1), .int (-1), .int (-1), .int (-1), .int (-1), .int (-1), .int (-1), .int (-1), .int (-1), .int (-1), .int (-1), .int 1, .int (-1), .int (-1), .int (-1), .int (-1), .int (-1), .int (-1), .int (-1), .int (-1), .int (-1), .int (-1), .int (-1), .int (-1), .int (-1), .int (-1), .int (-1), .int (-1), .int (-1), .int (-1), .int (-1), .int (-1), .int (-1), .int (-1), .int (-1), .int (-1), .int (-1), .int (-1), .int (-1), .int (-1), .int (-1), .int (-1), .int (-1), .int (-1), .int (-1), .int (-1), .int (-1), .int (-1), .int (-1), .int (-1), .int (-1), .int (-1), .int (-1), .int (-1), .int (-1), .int (-1), .int (-1), .int (-1), .int (-1), .int (-1), .int (-1), .int (-1), .int (-1), .int (-1), .int (-1), .int (-1), .int (-1), .int (-1), .int (-1), .int (-1), .int (-1), .int (-1), .int (-1), .int (-1), .int (-1), .int (-1), .int (-1), .int (-1), .int (-1), .int (-1), .int (-1), .int (-1), .int (-1), .int (-1), .int (-1), .int (-1), .int (-1), .int (-1), .int (-1), .int (-1), .int (-1), .int (-1), .int (-1), .int (-1), .int (-1), .int (-1), .int (-1), .int (-1), .int (-1), .int (-1), .int (-1), .int (-1), .int (-1), .int (-1), .int (-1), .int (-1), .int (-1), .int (-1), .int (-1), .int (-1), .int (-1), .int (-1), .int (-1), .int (-1), .int (-1), .int (-1), .int (-1), .int (-1), .int (-1), .int (-1), .int (-1), .int (-1), .int (-1), .int (-1), .int (-1), .int (-1), .int (-1), .int (-1), .int (-1), .int (-1), .int (-1), .int (-1), .int (-1), .int (-1), .int (-1), .int (-1), .int (-1), .int (-1), .int (-1), .int (-1), .int (-1), .int (-1), .int (-1), .int (-1), .int (-1), .int (-1), .int (-1), .int (-1), .int (-1), .int (-1), .int (-1), .int (-1), .int 2, .int (-1), .int (-1), .int (-1), .int (-1), .int (-1), .int (-1), .int (-1), .int (-1), .int (-1), .int (-1), .int (-1), .int (-1), .int (-1), .int (-1), .int (-1), .int (-1), .int (-1), .int (-1), .int (-1), .int (-1), .int (-1), .int (-1), .int (-1), .int (-1), .int (-1), .int (-1), .int (-1), .int (-1), .int (-1), .int (-1), .int (-1), .int (-1), .int (-1), .int (-1), .int (-1), .int (-1), .int (-1), .int (-1), .int (-1), .int (-1), .int (-1), .int (-1), .int (-1), .int (-1), .int (-1), .int (-1), .int (-1), .int (-1), .int (-1), .int (-1), .int (-1), .int (-1), .int (-1), .int (-1), .int (-1), .int (-1), .int (-1), .int (-1), .int (-1), .int (-1), .int (-1), .int (-1), .int (-1), .int (-1), .int (-1), .int (-1), .int (-1), .int (-1), .int (-1), .int (-1), .int (-1), .int (-1), .int (-1), .int (-1), .int (-1), .int (-1), .int (-1), .int (-1), .int (-1), .int (-1), .int (-1), .int (-1), .int (-1), .int (-1), .int (-1), .int (-1), .int (-1), .int (-1), .int (-1), .int (-1), .int (-1), .int (-1), .int (-1), .int (-1), .int (-1), .int (-1), .int (-1), .int (-1), .int (-1), .int (-1), .int (-1), .int (-1), .int (-1), .int (-1), .int (-1), .int (-1), .int (-1), .int (-1), .int (-1), .int (-1), .int (-1), .int (-1), .int (-1), .int (-1), .int (-1), .int (-1), .int (-1), .int (-1), .int (-1), .int (-1), .int (-1), .int (-1), .int (-1), .int (-1), .int (-1), .int (-1), .int (-1), .int (-1), .int (-1), .int (-1), .int (-1), .int (-1), .int (-1), .int (-1), .int (-1), .int (-1), .int (-1), .int (-1), .int (-1), .int (-1), .int (-1), .int (-1), .int (-1), .int (-1), .int (-1), .int (-1), .int (-1), .int (-1), .int (-1), .int (-1), .int (-1), .int (-1), .int (-1), .int (-1), .int (-1), .int (-1), .int (-1), .int (-1), .int (-1), .int (-1), .int (-1), .int (-1), .int (-1), .int (-1), .int (-1), .int (-1), .int (-1), .int (-1), .int (-1), .int (-1), .int (-1), .int (-1), .int (-1), .int (-1), .int (-1), .int (-1), .int (-1), .int (-1), .int (-1), .int (-1), .int (-1), .int (-1), .int (-1), .int (-1), .int (-1), .int (-1), .int (-1), .int (-1), .int (-1), .int (-1), .int (-1), .int (-1), .int (-1), .int (-1), .int (-1), .int (-1), .int (-1), .int (-1), .int (-1), .int (-1), .int (-1), .int (-1), .int (-1), .int (-1), .int (-1), .int (-1), .int (-1), .int (-1), .int (-1), .int (-1), .int (-1), .int (-1), .int (-1), .int (-1), .int (-1), .int (-1), .int (-1), .int (-1), .int (-1), .int (-1), .int (-1), .int (-1), .int (-1), .int (-1), .int (-1), .int (-1), .int (-1), .int (-1), .int (-1), .int (-1), .int (-1), .int (-1), .int (-1), .int (-1), .int (-1), .int (-1), .int (-1), .int (-1), .int (-1), .int (-1), .int (-1), .int (-1), .int (-1), .int (-1), .int (-1), .int (-1), .int (-1), .int (-1), .int (-1), .int (-1), .int (-1), .int (-1), .int (-1), .int (-1), .int (-1), .int (-1), .int (-1), .int (-1), .int (-1), .int (-1), .int (-1), .int (-1), .int (-1), .int (-1), .int (-1), .int (-1), .int (-1), .int (-1), .int (-1), .int (-1), .int (-1), .int (-1), .int (-1), .int (-1), .int (-1), .int (-1), .int (-1), .int (-1), .int (-1), .int (-1), .int (-1), .int (-1), .int (-1), .int (-1), .int (-1), .int (-1), .int (-1), .int (-1), .int (-1), .int (-1), .int (-1), .int (-1), .int (-1), .int (-1), .int (-1), .int (-1), .int (-1), .int (-1), .int (-1), .int (-1), .int (-1), .int (-1), .int (-1), .int (-1), .int (-1), .int (-1), .int (-1), .int (-1), .int (-1), .int (-1), .int (-1), .int (-1), .int (-1), .int (-1), .int (-1), .int (-1), .int (-1), .int (-1), .int (-1), .int (-1), .int (-1), .int (-1), .int (-1), .int (-1), .int (-1), .int (-1), .int (-1), .int (-1), .int (-1), .int (-1), .int (-1), .int (-1), .int (-1), .int (-1), .int (-1), .int (-1), .int (-1), .int (-1), .int (-1), .int (-1), .int (-1), .int (-1), .int (-1), .int (-1), .int (-1), .int (-1), .int (-1), .int (-1), .int (-1), .int (-1), .int (-1), .int (-1), .int (-1), .int (-1), .int (-1), .int (-1), .int (-1), .int (-1), .int (-1), .int (-1), .int (-1), .int (-1), .int (-1), .int (-1), .int (-1), .int (-1), .int (-1), .int (-1), .int (-1), .int (-1), .int (-1), .int (-1), .int (-1), .int (-1), .int (-1), .int (-1), .int (-1), .int (-1), .int (-1), .int (-1), .int (-1), .int (-1), .int (-1), .int (-1), .int (-1), .int (-1), .int (-1), .int (-1), .int (-1), .int (-1), .int (-1), .int (-1), .int (-1), .int (-1), .int (-1), .int (-1), .int (-1), .int (-1), .int (-1), .int (-1), .int (-1), .int (-1), .int (-1), .int (-1), .int (-1), .int (-1), .int (-1), .int (-1), .int (-1), .int (-1), .int (-1), .int (-1), .int (-1), .int (-1), .int (-1), .int (-1), .int (-1), .int (-1), .int (-1), .int (-1), .int (-1), .int (-1), .int (-1), .int (-1), .int (-1), .int (-1), .int (-1), .int (-1), .int (-1), .int (-1), .int (-1), .int (-1), .int (-1), .int (-1), .int (-1), .int (-1), .int (-1), .int (-1), .int (-1), .int (-1), .int (-1), .int (-1), .int (-1), .int (-1), .int (-1), .int (-1), .int (-1), .int (-1), .int (-1), .int (-1), .int (-1), .int (-1), .int (-1), .int (-1), .int (-1), .int (-1), .int (-1), .int (-1), .int (-1), .int (-1), .int (-1), .int (-1), .int (-1), .int (-1), .int (-1), .int (-1), .int (-1), .int (-1), .int (-1), .int (-1), .int (-1), .int (-1), .int (-1), .int (-1), .int (-1), .int (-1), .int (-1)], vm := .none },
  { cls := 5, slots := #[.ref 38, .ref 39, .int 0, .int 0], vm := .none },
  { cls := 20, slots := #[.int 0, .int 0, .int 0, .int 0, .int 0, .int 0, .int 0, .int 0, .int 0, .int 0, .int 0, .int 0], vm := .none },
  { cls := 20, slots := #[.int 0, .int 0, .int 0, .int 0, .int 0, .int 0, .int 0, .int 0, .int 0, .int 0, .int 0, .int 0], vm := .none },
  { cls := 6, slots := #[.ref 31, .ref 37, .ref 41, .ref 42, .ref 43, .ref 44, .int 0, .int 0, .int 0, .int 1], vm := .none },
  { cls := 20, slots := #[.int 0, .int 0, .int 0, .int 0, .int 0, .int 0, .int 0, .int 0, .int 0, .int 0, .int 0, .int 0], vm := .none },
  { cls := 20, slots := #[.int 0, .int 0, .int 0, .int 0, .int 0, .int 0, .int 0, .int 0, .int 0, .int 0, .int 0, .int 0], vm := .none },
  { cls := 20, slots := #[.int 0, .int 0, .int 0, .int 0, .int 0, .int 0, .int 0, .int 0, .int 0, .int 0, .int 0, .int 0, .int 0, .int 0, .int 0, .int 0, .int 0, .int 0, .int 0, .int 0, .int 0, .int 0, .int 0, .int 0, .int 0, .int 0, .int 0, .int 0, .int 0, .int 0, .int 0, .int 0, .int 0, .int 0, .int 0, .int 0, .int 0, .int 0, .int 0, .int 0, .int 0, .int 0, .int 0, .int 0, .int 0, .int 0, .int 0, .int 0], vm := .none },
  { cls := 20, slots := #[.int 0, .int 0, .int 0, .int 0, .int 0, .int 0, .int 0, .int 0, .int 0, .int 0, .int 0, .int 0], vm := .none },
  { cls := 7, slots := #[.ref 31, .ref 37, .ref 40, .ref 46, .ref 47, .ref 48, .int 0], vm := .none },
  { cls := 20, slots := #[.int 0, .int 0, .int 0, .int 0, .int 0, .int 0, .int 0, .int 0, .int 0, .int 0, .int 0, .int 0], vm := .none },
  { cls := 20, slots := #[.int 0, .int 0, .int 0, .int 0, .int 0, .int 0, .int 0, .int 0, .int 0, .int 0, .int 0, .int 0], vm := .none },
  { cls := 22, slots := #[.int 0, .int 0, .int 0, .int 0, .int 0, .int 0, .int 0, .int 0, .int 0, .int 0, .int 0, .int 0], vm := .none },
  { cls := 7, slots := #[.ref 31, .ref 37, .ref 40, .ref 50, .ref 51, .ref 52, .int 0], vm := .none },
  { cls := 20, slots := #[.int 0, .int 0, .int 0, .int 0, .int 0, .int 0, .int 0, .int 0, .int 0, .int 0, .int 0, .int 0], vm := .none },
  { cls := 20, slots := #[.int 0, .int 0, .int 0, .int 0, .int 0, .int 0, .int 0, .int 0, .int 0, .int 0, .int 0, .int 0], vm := .none },
  { cls := 22, slots := #[.int 0, .int 0, .int 0, .int 0, .int 0, .int 0, .int 0, .int 0, .int 0, .int 0, .int 0, .int 0], vm := .none },
  { cls := 20, slots := #[.int 3, .int 0, .int 0, .int 0, .int 0, .int 34, .int 0, .int 0, .int 64, .int 2, .int 1, .int 3], vm := .none },
  { cls := 20, slots := #[.int 0, .int 0, .int 0, .int 0, .int 0, .int 2, .int 0, .int 0, .int 0, .int 0, .int 0, .int 0, .int 0, .int 0, .int 0, .int 0, .int 0, .int 0, .int 0, .int 0, .int 0, .int 0, .int 0, .int 0, .int 0, .int 0, .int 0, .int 0, .int 3, .int 0, .int 0, .int 0, .int 0, .int 0, .int 0, .int 0, .int 0, .int 0, .int 0, .int 0, .int 0, .int 0, .int 0, .int 0, .int 0, .int 0, .int 0, .int 0, .int 0, .int 0, .int 0, .int 0, .int 0, .int 0, .int 0, .int 0, .int 0, .int 0, .int 0, .int 0], vm := .none },
  { cls := 20, slots := #[.int 0, .int 0, .int 0, .int 0, .int 0, .int 0], vm := .none },
  { cls := 20, slots := #[.int 0, .int 0, .int 0, .int 0, .int 0, .int 0], vm := .none },
  { cls := 20, slots := #[.int 0, .int 0, .int 0, .int 0, .int 0, .int 0], vm := .none },
  { cls := 20, slots := #[.int 0, .int 0, .int 0, .int 0, .int 0, .int 0], vm := .none },
  { cls := 20, slots := #[.int 0, .int 0, .int 0, .int 0, .int 0, .int 0], vm := .none },
  { cls := 20, slots := #[.int 0, .int 0, .int 0, .int 0, .int 0, .int 0], vm := .none },
  { cls := 20, slots := #[.int 2, .int 2, .int 4, .int 0, .int 0, .int 0, .int 0, .int 0], vm := .none },
  { cls := 15, slots := #[.null, .ref 16, .ref 62, .null, .int 0, .null], vm := .none },
  { cls := 15, slots := #[.null, .ref 16, .ref 63, .null, .int 0, .null], vm := .none },
  { cls := 17, slots := #[.null, .ref 12, .ref 64, .null, .int 0, .null], vm := .none },
  { cls := 15, slots := #[.null, .ref 16, .ref 65, .null, .int 0, .null], vm := .none },
  { cls := 15, slots := #[.null, .ref 16, .ref 66, .null, .int 0, .null], vm := .none },
  { cls := 15, slots := #[.null, .ref 16, .ref 67, .null, .int 0, .null], vm := .none },
  { cls := 17, slots := #[.null, .ref 12, .ref 68, .null, .int 0, .null], vm := .none },
  { cls := 17, slots := #[.null, .ref 12, .ref 69, .null, .int 0, .null], vm := .none },
  { cls := 17, slots := #[.null, .ref 26, .ref 70, .null, .int 0, .null], vm := .none },
  { cls := 17, slots := #[.null, .ref 12, .ref 71, .null, .int 0, .null], vm := .none },
  { cls := 15, slots := #[.null, .ref 16, .ref 72, .null, .int 0, .null], vm := .none },
  { cls := 17, slots := #[.null, .ref 2, .ref 73, .null, .int 0, .null], vm := .none },
  { cls := 17, slots := #[.null, .ref 2, .ref 74, .null, .int 0, .null], vm := .none },
  { cls := 17, slots := #[.null, .ref 4, .ref 75, .null, .int 0, .null], vm := .none },
  { cls := 17, slots := #[.null, .ref 4, .ref 76, .null, .int 0, .null], vm := .none },
  { cls := 17, slots := #[.null, .ref 2, .ref 77, .null, .int 0, .null], vm := .none },
  { cls := 17, slots := #[.null, .ref 2, .ref 78, .null, .int 0, .null], vm := .none },
  { cls := 17, slots := #[.null, .ref 4, .ref 79, .null, .int 0, .null], vm := .none },
  { cls := 17, slots := #[.null, .ref 4, .ref 80, .null, .int 0, .null], vm := .none },
  { cls := 17, slots := #[.null, .ref 2, .ref 81, .null, .int 0, .null], vm := .none },
  { cls := 17, slots := #[.null, .ref 2, .ref 82, .null, .int 0, .null], vm := .none },
  { cls := 17, slots := #[.null, .ref 4, .ref 83, .null, .int 0, .null], vm := .none },
  { cls := 17, slots := #[.null, .ref 4, .ref 84, .null, .int 0, .null], vm := .none },
  { cls := 17, slots := #[.null, .ref 2, .ref 85, .null, .int 0, .null], vm := .none },
  { cls := 17, slots := #[.null, .ref 2, .ref 86, .null, .int 0, .null], vm := .none },
  { cls := 17, slots := #[.null, .ref 4, .ref 87, .null, .int 0, .null], vm := .none },
  { cls := 17, slots := #[.null, .ref 4, .ref 88, .null, .int 0, .null], vm := .none },
  { cls := 17, slots := #[.null, .ref 2, .ref 89, .null, .int 0, .null], vm := .none },
  { cls := 17, slots := #[.null, .ref 2, .ref 90, .null, .int 0, .null], vm := .none },
  { cls := 17, slots := #[.null, .ref 4, .ref 91, .null, .int 0, .null], vm := .none },
  { cls := 17, slots := #[.null, .ref 4, .ref 92, .null, .int 0, .null], vm := .none },
  { cls := 17, slots := #[.null, .ref 2, .ref 93, .null, .int 0, .null], vm := .none },
  { cls := 17, slots := #[.null, .ref 2, .ref 94, .null, .int 0, .null], vm := .none },
  { cls := 17, slots := #[.null, .ref 4, .ref 95, .null, .int 0, .null], vm := .none },
  { cls := 17, slots := #[.null, .ref 4, .ref 96, .null, .int 0, .null], vm := .none },
  { cls := 17, slots := #[.null, .ref 2, .ref 97, .null, .int 0, .null], vm := .none },
  { cls := 17, slots := #[.null, .ref 2, .ref 98, .null, .int 0, .null], vm := .none },
  { cls := 17, slots := #[.null, .ref 4, .ref 99, .null, .int 0, .null], vm := .none },
  { cls := 17, slots := #[.null, .ref 4, .ref 100, .null, .int 0, .null], vm := .none },
  { cls := 17, slots := #[.null, .ref 2, .ref 101, .null, .int 0, .null], vm := .none },
  { cls := 17, slots := #[.null, .ref 2, .ref 102, .null, .int 0, .null], vm := .none },
  { cls := 17, slots := #[.null, .ref 4, .ref 103, .null, .int 0, .null], vm := .none },
  { cls := 17, slots := #[.null, .ref 4, .ref 104, .null, .int 0, .null], vm := .none },
  { cls := 15, slots := #[.null, .ref 10, .ref 105, .null, .int 0, .null], vm := .none },
  { cls := 17, slots := #[.null, .ref 8, .ref 106, .null, .int 0, .null], vm := .none },
  { cls := 17, slots := #[.null, .ref 2, .ref 107, .null, .int 0, .null], vm := .none },
  { cls := 15, slots := #[.null, .ref 10, .ref 108, .null, .int 0, .null], vm := .none },
  { cls := 17, slots := #[.null, .ref 12, .ref 109, .null, .int 0, .null], vm := .none },
  { cls := 17, slots := #[.null, .ref 14, .ref 110, .null, .int 0, .null], vm := .none },
  { cls := 17, slots := #[.null, .ref 14, .ref 111, .null, .int 0, .null], vm := .none },
  { cls := 17, slots := #[.null, .ref 12, .ref 112, .null, .int 0, .null], vm := .none },
  { cls := 17, slots := #[.null, .ref 2, .ref 113, .null, .int 0, .null], vm := .none },
  { cls := 17, slots := #[.null, .ref 14, .ref 114, .null, .int 0, .null], vm := .none },
  { cls := 17, slots := #[.null, .ref 14, .ref 115, .null, .int 0, .null], vm := .none },
  { cls := 17, slots := #[.null, .ref 12, .ref 116, .null, .int 0, .null], vm := .none },
  { cls := 17, slots := #[.null, .ref 2, .ref 117, .null, .int 0, .null], vm := .none }]
def zr_f22 : List Frame := [.java { method := ⟨0, 23⟩, pc := 549, locals := #[.val (.ref 30), .val (.int 12), .val (.int 7), .val (.int 44), .val (.ref 53), .val (.ref 54), .val (.ref 55), .val (.ref 61), .val (.int 0), .val (.int 0), .val (.int 2), .val (.int 8), .val (.int 0), .unset, .unset], stack := [.int 20, .int 1], locked := none },
  .java { method := ⟨0, 0⟩, pc := 191, locals := #[.val (.ref 0), .val (.ref 30), .val (.ref 53), .val (.ref 54), .val (.ref 55), .val (.ref 56), .val (.ref 57), .val (.ref 58), .val (.ref 59), .val (.ref 60), .val (.ref 61), .val (.int 16), .val (.int (-30)), .val (.int 12)], stack := [], locked := none },
  .native { method := ⟨0, 0⟩, args := #[] }]
def zr_u22 : Nat := 1956
def zr_w22 : State := stepsAlone start1.p0.tables start1.e0 876 (zr_mk zr_w21 zr_h21 zr_f21 zr_u21)
set_option maxRecDepth 16384 in
theorem zr_s22 : zr_run start1.p0.tables start1.e0 (zr_same zr_h22 zr_f22 zr_u22) 876 (zr_mk zr_w21 zr_h21 zr_f21 zr_u21) = true := by decide +kernel
end
section
def zr_h23 : List Cell := [{ cls := 2, slots := #[.ref 31, .ref 37, .ref 40, .ref 45, .ref 49], vm := .none },
  { cls := 3, slots := #[.ref 32, .ref 33, .ref 34, .ref 35, .ref 36, .int 0], vm := .none },
  { cls := 20, slots := #[.int 2, .int 2, .int 4, .int 0], vm := .none },
  { cls := 20, slots := #[.int 2, .int (-1), .int (-1), .int (-1), .int (-1), .int (-1), .int (-1), .int (-1), .int (-1), .int 1, .int (-1), .int (-1), .int (-1), .int (-1), .int (-1), .int (-1), .int (-1), .int 1, .int 0, .int 2, .int (-1), .int (-1), .int (-1), .int (-1), .int (-1), .int (-1), .int (-1), .int (-1), .int (-1), .int (-1), .int (-1), .int (-1)], vm := .none },
  { cls := 22, slots := #[.int 0, .int 0, .int 0, .int 0, .int 0, .int 0, .int 0, .int 0, .int 0, .int 0, .int 0, .int 0, .int 0, .int 0, .int 0, .int 0, .int 0, .int 0, .int 0, .int 0, .int 0, .int 0, .int 0, .int 0, .int 0, .int 0, .int 0, .int 0, .int 0, .int 0, .int 0, .int 0], vm := .none },
  { cls := 20, slots := #[.int 0, .int 0, .int 0, .int 0, .int 0, .int 0, .int 0, .int 0, .int 0, .int 2, .int 0, .int 0, .int 0, .int 0, .int 0, .int 0, .int 4, .int 0, .int 0, .int 0, .int 0, .int 0, .int 0, .int 0, .int 0, .int 0, .int 0, .int 0, .int 0, .int 0, .int 0, .int 0], vm := .none },
  { cls := 20, slots := #[.int (-1), .int (-1), .int 0, .int (-1), .int (-1), .int (-1), .int (-1), .int (-1), .int (-1), .int (-1), .int (-1), .int (-1), .int (-1), .int (-1), .int (-1), .int (-1), .int (-1), .int (-1), .int (-1), .int (-1), .int (-1), .int 1, .int (-1), .int (-1), .int (-1), .int (-1), .int (-1), .int (-1), .int (-1), .int (-1), .int (-1), .int (-1), .int (-1), .int (-1), .int (-1), .int (-1), .int (-1), .int (-1), .int (-1), .int (-1), .int (-1), .int (-1), .int (-1), .int (-1), .int (-1), .int (-1), .int (-1), .int (-1), .int (-1), .int (-1), .int (-1), .int (-1), .int (-1), .int (-1), .int (-1), .int (-1), .int (-1), .int (-1), .int (-1), .int (-1), .int (-1), .int (-1), .int (-1), .int (-1), .int (-1), .int (-1), .int (-1), .int (-1), .int (-1), .int (-1), .int (-1), .int (-1), .int (-1), .int (-1), .int (-1), .int (-1), .int (-1), .int (-1), .int (-1), .int (-1), .int (-1), .int (-1), .int (-1), .int (-1), .int (-1), .int (-1), .int (-1), .int (-1), .int (-1), .int (-1), .int (-1), .int (-1), .int (-1), .int (-1), .int (-1), .int (-1), .int (-1), .int (-1), .int (-1), .int (-1), .int (-1), .int (-1), .int (-1), .int (-1), .int (-1), .int (-1), .int (-1), .int (-1), .int (-1), .int (-1), .int (-1), .int (-1), .int (-1), .int (-1), .int (-1), .int (-1), .int (-1), .int (-1), .int (-1), .int (-1), .int (-1), .int (-1), .int (-1), .int (-1), .int (-1), .int (-1), .int (-1), .int (-1), .int (-1), .int (-1), .int (-1), .int (-1), .int (-1), .int (-1), .int (-1), .int (-1), .int (-1), .int (-1), .int (-1), .int (-1), .int (-1), .int (-1), .int (-1), .int (-1), .int (-1), .int (-1), .int (-1), .int (-1), .int (-1), .int (-1), .int (-1), .int (-1), .int (-1), .int (-1), .int (-1), .int (-1), .int (-1), .int (-1), .int (-1), .int (-1), .int (-1), .int (-1), .int 2, .int (-1), .int (-1), .int (-1), .int (-1), .int (-1), .int (-1), .int (-1), .int (-1), .int (-1), .int (-1), .int (-1), .int (-1), .int (-1), .int (-1), .int (-1), .int (-1), .int (-1), .int (-1), .int (-1), .int (-1), .int (-1), .int (-1), .int (-1), .int (-1), .int (-1), .int (-1), .int (-1), .int (-1), .int (-1), .int (-1), .int (-1), .int (-1), .int (-1), .int (-1), .int (-1), .int (-1), .int (-1), .int (-1), .int (-1), .int (-1), .int (-1), .int (-1), .int (-1), .int (-1), .int (-1), .int (-1), .int (-1), .int (-1), .int (-1), .int (-1), .int (-1), .int (-1), .int (-1), .int (-1), .int (-1), .int (-1), .int (-1), .int (-1), .int (-1), .int (-1), .int (-1), .int (-1), .int (-1), .int (-1), .int (-1), .int (-1), .int (-1), .int (-1), .int (-1), .int (-1), .int (-1), .int (-1), .int (-1), .int (-1), .int (-1), .int (-1), .int (-1), .int (-1), .int (-1), .int (-1), .int (-1), .int (-1), .int (-1), .int (-1), .int (-1), .int (-1), .int (-1), .int (-1), .int (-1), .int (-1), .int (-1), .int (-1), .int (-1), .int (-1), .int (-1), .int (-1), .int (-1), .int (-1), .int (-1), .int (-1), .int (-1), .int (-1), .int (-1), .int (-1), .int (-1), .int (-1), .int (-1), .int (-1), .int (-1), .int (-1), .int (-1), .int (-1), .int (-1), .int (-1), .int (-1), .int (-1), .int (-1), .int (-1), .int (-1), .int (-1), .int (-1), .int (-1), .int (-1), .int (-1), .int (-1), .int (-1), .int (-1), .int (-1), .int (-1), .int (-1), .int (-1), .int (-1), .int (-1), .int (-1), .int (-1), .int (-1), .int (-1), .int (-1), .int (-1), .int (-1), .int (-1), .int (-1), .int (-1), .int (-1), .int (-1), .int (-1), .int (-1), .int (-1), .int (-1), .int (-1), .int (-1), .int (-1), .int (-1), .int (-1), .int (-1), .int (-1), .int (-1), .int (-1), .int (-1), .int (-1), .int (-1), .int (-1), .int (-1), .int (-1), .int (-1), .int (-1), .int (-1), .int (-1), .int (-1), .int (-1), .int (-1), .int (-1), .int (-1), .int (-1), .int (-1), .int (-1), .int (-1), .int (-1), .int (-1), .int (-1), .int (-1), .int (-1), .int (-1), .int (-1), .int (-1), .int (-1), .int (-1), .int (-1), .int (-1), .int (-1), .int (-1), .int (-1), .int (-1), .int (-1), .int (-1), .int (-1), .int (-1), .int (-1), .int (-1), .int (-1), .int (-1), .int (-1), .int (-1), .int (-1), .int (-1), .int (-1), .int (-1), .int (-1), .int (-1), .int (-1), .int (-1), .int (-1), .int (-1), .int (-1), .int (-1), .int (-1), .int (-1), .int (-1), .int (-1), .int (-1), .int (-1), .int (-1), .int (-1), .int (-1), .int (-1), .int (-1), .int (-1), .int (-1), .int (-1), .int (-1), .int (-1), .int (-1), .int (-1), .int (-1), .int (-1), .int (-1), .int (-1), .int (-1), .int (-1), .int (-1), .int (-1), .int (-1), .int (-1), .int (-1), .int (-1), .int (-1), .int (-1), .int (-1), .int (-1), .int (-1), .int (-1), .int (-1), .int (-1), .int (-1), .int (-1), .int (-1), .int (-1), .int (-1), .int (-1), .int (-1), .int (-1), .int (-1), .int (-1), .int (-1), .int (-1), .int (-1), .int (-1), .int (-1), .int (-1), .int (-1), .int (-1), .int (-1), .int (-1), .int (-1), .int (-1), .int (-1), .int (-1), .int (-1), .int (-1), .int (-1), .int (-1), .int (-1), .int (-1), .int (-1), .int (-1), .int (-1), .int (-1), .int (-1), .int (-1), .int (-1), .int (-1), .int (-1), .int (-1), .int (-1), .int (-1), .int (-1), .int (-1), .int (-1), .int (-1), .int (-1), .int (-1), .int (-1), .int (-1), .int (-1), .int (-1), .int (-1), .int (-1), .int (-1), .int (-1), .int (-1), .int (-1), .int (-1), .int (-1), .int (-1), .int (-1), .int (-1), .int (-1), .int (-1), .int (-1), .int (-1), .int (-1), .int (-1), .int (-1), .int (-1), .int (-1), .int (-1), .int (-1), .int (-1), .int (-1), .int (-1), .int (-1), .int (-1), .int (-1), .int (-1), .int (-1), .int (-1), .int (-1), .int (-1), .int (-1), .int (-1), .int (-1), .int (-1), .int (-1), .int (-1), .int (-1), .int (-1), .int (-1), .int (-1), .int (-1), .int (-1), .int (-1), .int (-1), .int (-1), .int (-1), .int (-1), .int (-1), .int (-1), .int (-1), .int (-1), .int (-1), .int (-1), .int (-1), .int (-1), .int (-1), .int (-1), .int (-1), .int (-1), .int (-1), .int (-1), .int (-1), .int (-1), .int (-1), .int (-1), .int (-1), .int (-1), .int (-1), .int (-1), .int (-1), .int (-1), .int (-1), .int (-1), .int (-1), .int (-1), .int (-1), .int (-1), .int (-1), .int (-1), .int (-1), .int (-1), .int (-1), .int (-1), .int (-1), .int (-1), .int (-1), .int (-1), .int (-1), .int (-1), .int (-1), .int (-1), .int (-1), .int (-1), .int (-1), .int (-1), .int (-1), .int (-1), .int (-1), .int (-1), .int (-1), .int (-1), .int (-1), .int (-1), .int (-1), .int (-1), .int (-1), .int (-1), .int (-1), .int (-1), .int (-1), .int (-1), .int (-1), .int (-1), .int (-1), .int (-1), .int (-1), .int (-1), .int (-1), .int (-1), .int (-1), .int (-1), .int (-1), .int (-1), .int (-1), .int (-1), .int (-1), .int (-1), .int (-1), .int (-1), .int (-1), .int (-1), .int (-1), .int (-1), .int (-1), .int (-1), .int (-1), .int (-1), .int (-1), .int (-1), .int (-1), .int (-1), .int (-1), .int (-1), .int (-1), .int (-1), .int (-1), .int (-1), .int (-1), .int (-1), .int (-1), .int (-1), .int (-1), .int (-1), .int (-1), .int (-1), .int (-1), .int (-1), .int (-1), .int (-1), .int (-1), .int (-1), .int (-1), .int (-1), .int (-1), .int (-1), .int (-1), .int (-1), .int (-1), .int (-1)], vm := .none },
  { cls := 5, slots := #[.ref 38, .ref 39, .int 0, .int 0], vm := .none },
  { cls := 20, slots := #[.int 0, .int 0, .int 0, .int 0, .int 0, .int 0, .int 0, .int 0, .int 0, .int 0, .int 0, .int 0], vm := .none },
  { cls := 20, slots := #[.int 0, .int 0, .int 0, .int 0, .int 0, .int 0, .int 0, .int 0, .int 0, .int 0, .int 0, .int 0], vm := .none },
  { cls := 6, slots := #[.ref 31, .ref 37, .ref 41, .ref 42, .ref 43, .ref 44, .int 0, .int 0, .int 0, .int 1], vm := .none },
  { cls := 20, slots := #[.int 0, .int 0, .int 0, .int 0, .int 0, .int 0, .int 0, .int 0, .int 0, .int 0, .int 0, .int 0], vm := .none },
  { cls := 20, slots := #[.int 0, .int 0, .int 0, .int 0, .int 0, .int 0, .int 0, .int 0, .int 0, .int 0, .int 0, .int 0], vm := .none },
  { cls := 20, slots := #[.int 0, .int 0, .int 0, .int 0, .int 0, .int 0, .int 0, .int 0, .int 0, .int 0, .int 0, .int 0, .int 0, .int 0, .int 0, .int 0, .int 0, .int 0, .int 0, .int 0, .int 0, .int 0, .int 0, .int 0, .int 0, .int 0, .int 0, .int 0, .int 0, .int 0, .int 0, .int 0, .int 0, .int 0, .int 0, .int 0, .int 0, .int 0, .int 0, .int 0, .int 0, .int 0, .int 0, .int 0, .int 0, .int 0, .int 0, .int 0], vm := .none },
  { cls := 20, slots := #[.int 0, .int 0, .int 0, .int 0, .int 0, .int 0, .int 0, .int 0, .int 0, .int 0, .int 0, .int 0], vm := .none },
  { cls := 7, slots := #[.ref 31, .ref 37, .ref 40, .ref 46, .ref 47, .ref 48, .int 0], vm := .none },
  { cls := 20, slots := #[.int 0, .int 0, .int 0, .int 0, .int 0, .int 0, .int 0, .int 0, .int 0, .int 0, .int 0, .int 0], vm := .none },
  { cls := 20, slots := #[.int 0, .int 0, .int 0, .int 0, .int 0, .int 0, .int 0, .int 0, .int 0, .int 0, .int 0, .int 0], vm := .none },
  { cls := 22, slots := #[.int 0, .int 0, .int 0, .int 0, .int 0, .int 0, .int 0, .int 0, .int 0, .int 0, .int 0, .int 0], vm := .none },
  { cls := 7, slots := #[.ref 31, .ref 37, .ref 40, .ref 50, .ref 51, .ref 52, .int 0], vm := .none },
  { cls := 20, slots := #[.int 0, .int 0, .int 0, .int 0, .int 0, .int 0, .int 0, .int 0, .int 0, .int 0, .int 0, .int 0], vm := .none },
  { cls := 20, slots := #[.int 0, .int 0, .int 0, .int 0, .int 0, .int 0, .int 0, .int 0, .int 0, .int 0, .int 0, .int 0], vm := .none },
  { cls := 22, slots := #[.int 0, .int 0, .int 0, .int 0, .int 0, .int 0, .int 0, .int 0, .int 0, .int 0, .int 0, .int 0], vm := .none },
  { cls := 20, slots := #[.int 3, .int 0, .int 0, .int 0, .int 0, .int 34, .int 0, .int 0, .int 64, .int 2, .int 1, .int 3], vm := .none },
  { cls := 20, slots := #[.int 0, .int 0, .int 0, .int 0, .int 0, .int 2, .int 0, .int 0, .int 1, .int 0, .int 0, .int 0, .int 0, .int 0, .int 0, .int 0, .int 0, .int 0, .int 0, .int 0, .int 0, .int 0, .int 0, .int 0, .int 0, .int 0, .int 0, .int 0, .int 3, .int 0, .int 0, .int 0, .int 0, .int 0, .int 0, .int 0, .int 0, .int 0, .int 0, .int 0, .int 0, .int 0, .int 0, .int 0, .int 0, .int 0, .int 0, .int 0, .int 0, .int 0, .int 0, .int 0, .int 0, .int 0, .int 0, .int 0, .int 0, .int 0, .int 0, .int 0], vm := .none },
  { cls := 20, slots := #[.int 0, .int 0, .int 0, .int 0, .int 0, .int 0], vm := .none },
  { cls := 20, slots := #[.int 0, .int 0, .int 0, .int 0, .int 0, .int 0], vm := .none },
  { cls := 20, slots := #[.int 0, .int 0, .int 0, .int 0, .int 0, .int 0], vm := .none },
  { cls := 20, slots := #[.int 0, .int 0, .int 0, .int 0, .int 0, .int 0], vm := .none },
  { cls := 20, slots := #[.int 0, .int 0, .int 0, .int 0, .int 0, .int 0], vm := .none },
  { cls := 20, slots := #[.int 0, .int 0, .int 0, .int 0, .int 0, .int 0], vm := .none },
  { cls := 20, slots := #[.int 2, .int 2, .int 4, .int 0, .int 0, .int 0, .int 0, .int 0], vm := .none },
  { cls := 15, slots := #[.null, .ref 16, .ref 62, .null, .int 0, .null], vm := .none },
  { cls := 15, slots := #[.null, .ref 16, .ref 63, .null, .int 0, .null], vm := .none },
  { cls := 17, slots := #[.null, .ref 12, .ref 64, .null, .int 0, .null], vm := .none },
  { cls := 15, slots := #[.null, .ref 16, .ref 65, .null, .int 0, .null], vm := .none },
  { cls := 15, slots := #[.null, .ref 16, .ref 66, .null, .int 0, .null], vm := .none },
  { cls := 15, slots := #[.null, .ref 16, .ref 67, .null, .int 0, .null], vm := .none },
  { cls := 17, slots := #[.null, .ref 12, .ref 68, .null, .int 0, .null], vm := .none },
  { cls := 17, slots := #[.null, .ref 12, .ref 69, .null, .int 0, .null], vm := .none },
  { cls := 17, slots := #[.null, .ref 26, .ref 70, .null, .int 0, .null], vm := .none },
  { cls := 17, slots := #[.null, .ref 12, .ref 71, .null, .int 0, .null], vm := .none },
  { cls := 15, slots := #[.null, .ref 16, .ref 72, .null, .int 0, .null], vm := .none },
  { cls := 17, slots := #[.null, .ref 2, .ref 73, .null, .int 0, .null], vm := .none },
  { cls := 17, slots := #[.null, .ref 2, .ref 74, .null, .int 0, .null], vm := .none },
  { cls := 17, slots := #[.null, .ref 4, .ref 75, .null, .int 0, .null], vm := .none },
  { cls := 17, slots := #[.null, .ref 4, .ref 76, .null, .int 0, .null], vm := .none },
  { cls := 17, slots := #[.null, .ref 2, .ref 77, .null, .int 0, .null], vm := .none },
  { cls := 17, slots := #[.null, .ref 2, .ref 78, .null, .int 0, .null], vm := .none },
  { cls := 17, slots := #[.null, .ref 4, .ref 79, .null, .int 0, .null], vm := .none },
  { cls := 17, slots := #[.null, .ref 4, .ref 80, .null, .int 0, .null], vm := .none },
  { cls := 17, slots := #[.null, .ref 2, .ref 81, .null, .int 0, .null], vm := .none },
  { cls := 17, slots := #[.null, .ref 2, .ref 82, .null, .int 0, .null], vm := .none },
  { cls := 17, slots := #[.null, .ref 4, .ref 83, .null, .int 0, .null], vm := .none },
  { cls := 17, slots := #[.null, .ref 4, .ref 84, .null, .int 0, .null], vm := .none },
  { cls := 17, slots := #[.null, .ref 2, .ref 85, .null, .int 0, .null], vm := .none },
  { cls := 17, slots := #[.null, .ref 2, .ref 86, .null, .int 0, .null], vm := .none },
  { cls := 17, slots := #[.null, .ref 4, .ref 87, .null, .int 0, .null], vm := .none },
  { cls := 17, slots := #[.null, .ref 4, .ref 88, .null, .int 0, .null], vm := .none },
  { cls := 17, slots := #[.null, .ref 2, .ref 89, .null, .int 0, .null], vm := .none },
  { cls := 17, slots := #[.null, .ref 2, .ref 90, .null, .int 0, .null], vm := .none },
  { cls := 17, slots := #[.null, .ref 4, .ref 91, .null, .int 0, .null], vm := .none },
  { cls := 17, slots := #[.null, .ref 4, .ref 92, .null, .int 0, .null], vm := .none },
  { cls := 17, slots := #[.null, .ref 2, .ref 93, .null, .int 0, .null], vm := .none },
  { cls := 17, slots := #[.null, .ref 2, .ref 94, .null, .int 0, .null], vm := .none },
  { cls := 17, slots := #[.null, .ref 4, .ref 95, .null, .int 0, .null], vm := .none },
  { cls := 17, slots := #[.null, .ref 4, .ref 96, .null, .int 0, .null], vm := .none },
  { cls := 17, slots := #[.null, .ref 2, .ref 97, .null, .int 0, .null], vm := .none },
  { cls := 17, slots := #[.null, .ref 2, .ref 98, .null, .int 0, .null], vm := .none },
  { cls := 17, slots := #[.null, .ref 4, .ref 99, .null, .int 0, .null], vm := .none },
  { cls := 17, slots := #[.null, .ref 4, .ref 100, .null, .int 0, .null], vm := .none },
  { cls := 17, slots := #[.null, .ref 2, .ref 101, .null, .int 0, .null], vm := .none },
  { cls := 17, slots := #[.null, .ref 2, .ref 102, .null, .int 0, .null], vm := .none },
  { cls := 17, slots := #[.null, .ref 4, .ref 103, .null, .int 0, .null], vm := .none },
  { cls := 17, slots := #[.null, .ref 4, .ref 104, .null, .int 0, .null], vm := .none },
  { cls := 15, slots := #[.null, .ref 10, .ref 105, .null, .int 0, .null], vm := .none },
  { cls := 17, slots := #[.null, .ref 8, .ref 106, .null, .int 0, .null], vm := .none },
  { cls := 17, slots := #[.null, .ref 2, .ref 107, .null, .int 0, .null], vm := .none },
  { cls := 15, slots := #[.null, .ref 10, .ref 108, .null, .int 0, .null], vm := .none },
  { cls := 17, slots := #[.null, .ref 12, .ref 109, .null, .int 0, .null], vm := .none },
  { cls := 17, slots := #[.null, .ref 14, .ref 110, .null, .int 0, .null], vm := .none },
  { cls := 17, slots := #[.null, .ref 14, .ref 111, .null, .int 0, .null], vm := .none },
  { cls := 17, slots := #[.null, .ref 12, .ref 112, .null, .int 0, .null], vm := .none },
  { cls := 17, slots := #[.null, .ref 2, .ref 113, .null, .int 0, .null], vm := .none },
  { cls := 17, slots := #[.null, .ref 14, .ref 114, .null, .int 0, .null], vm := .none },
  { cls := 17, slots := #[.null, .ref 14, .ref 115, .null, .int 0, .null], vm := .none },
  { cls := 17, slots := #[.null, .ref 12, .ref 116, .null, .int 0, .null], vm := .none },
  { cls := 17, slots := #[.null, .ref 2, .ref 117, .null, .int 0, .null], vm := .none },
  { cls := 17, slots := #[.null, .ref 14, .ref 118, .null, .int 0, .null], vm := .none },
  { cls := 17, slots := #[.null, .ref 14, .ref 119, .null, .int 0, .null], vm := .none },
  { cls := 17, slots := #[.null, .ref 12, .ref 120, .null, .int 0, .null], vm := .none },
  { cls := 17, slots := #[.null, .ref 2, .ref 121, .null, .int 0, .null], vm := .none }]
def zr_f23 : List Frame := [.java { method := ⟨2, 20⟩, pc := 0, locals := #[.val (.int 1)], stack := [], locked := none },
  .java { method := ⟨2, 26⟩, pc := 1, locals := #[.val (.int 1)], stack := [], locked := none },
  .java { method := ⟨2, 3⟩, pc := 5, locals := #[.val (.ref 30), .val (.int 2), .val (.int 1), .val (.int (-1)), .val (.int 0), .unset], stack := [], locked := none },
  .java { method := ⟨0, 5⟩, pc := 6, locals := #[.val (.ref 30), .val (.int 2), .val (.int 1), .val (.int (-1)), .val (.int 0), .unset, .unset], stack := [], locked := none },
  .java { method := ⟨0, 23⟩, pc := 428, locals := #[.val (.ref 30), .val (.int 12), .val (.int 118), .val (.int 155), .val (.ref 53), .val (.ref 54), .val (.ref 55), .val (.ref 61), .val (.int 2), .val (.int 4), .unset, .unset, .unset, .unset, .unset], stack := [], locked := none },
  .java { method := ⟨0, 0⟩, pc := 191, locals := #[.val (.ref 0), .val (.ref 30), .val (.ref 53), .val (.ref 54), .val (.ref 55), .val (.ref 56), .val (.ref 57), .val (.ref 58), .val (.ref 59), .val (.ref 60), .val (.ref 61), .val (.int 17), .val (.int 81), .val (.int 12)], stack := [], locked := none },
  .native { method := ⟨0, 0⟩, args := #[] }]
def zr_u23 : Nat := 1980
def zr_w23 : State := stepsAlone start1.p0.tables start1.e0 877 (zr_mk zr_w22 zr_h22 zr_f22 zr_u22)
set_option maxRecDepth 16384 in
theorem zr_s23 : zr_run start1.p0.tables start1.e0 (zr_same zr_h23 zr_f23 zr_u23) 877 (zr_mk zr_w22 zr_h22 zr_f22 zr_u22) = true := by decide +kernel
end
section
def zr_h24 : List Cell := [{ cls := 2, slots := #[.ref 31, .ref 37, .ref 40, .ref 45, .ref 49], vm := .none },
  { cls := 3, slots := #[.ref 32, .ref 33, .ref 34, .ref 35, .ref 36, .int 0], vm := .none },
  { cls := 20, slots := #[.int 2, .int 2, .int 4, .int 0], vm := .none },
  { cls := 20, slots := #[.int 2, .int (-1), .int (-1), .int (-1), .int (-1), .int (-1), .int (-1), .int (-1), .int (-1), .int 1, .int (-1), .int (-1), .int (-1), .int (-1), .int (-1), .int (-1), .int (-1), .int 1, .int 0, .int 2, .int (-1), .int (-1), .int (-1), .int (-1), .int (-1), .int (-1), .int (-1), .int (-1), .int (-1), .int (-1), .int (-1), .int (-1)], vm := .none },
  { cls := 22, slots := #[.int 0, .int 0, .int 0, .int 0, .int 0, .int 0, .int 0, .int 0, .int 0, .int 0, .int 0, .int 0, .int 0, .int 0, .int 0, .int 0, .int 0, .int 0, .int 0, .int 0, .int 0, .int 0, .int 0, .int 0, .int 0, .int 0, .int 0, .int 0, .int 0, .int 0, .int 0, .int 0], vm := .none },
  { cls := 20, slots := #[.int 0, .int 0, .int 0, .int 0, .int 0, .int 0, .int 0, .int 0, .int 0, .int 2, .int 0, .int 0, .int 0, .int 0, .int 0, .int 0, .int 4, .int 0, .int 0, .int 0, .int 0, .int 0, .int 0, .int 0, .int 0, .int 0, .int 0, .int 0, .int 0, .int 0, .int 0, .int 0], vm := .none },
  { cls := 20, slots := #[.int (-1), .int (-1), .int 0, .int (-1), .int (-1), .int (-1), .int (-1), .int (-1), .int (-1), .int (-1), .int (-1), .int (-1), .int (-1), .int (-1), .int (-1), .int (-1), .int (-1), .int (-1), .int (-1), .int (-1), .int (-1), .int 1, .int (-1), .int (-1), .int (-1), .int (-1), .int (-1), .int (-1), .int (-1), .int (-1), .int (-1), .int (-1), .int (-1), .int (-1), .int (-1), .int (-1), .int (-1), .int (-1), .int (-1), .int (-1), .int (-1), .int (-1), .int (-1), .int (-1), .int (-1), .int (-1), .int (-1), .int (-1), .int (-1), .int (-1), .int (-1), .int (-1), .int (-1), .int (-1), .int (-1), .int (-1), .int (-1), .int (-1), .int (-1), .int (-1), .int (-1), .int (-1), .int (-1), .int (-1), .int (-1), .int (-1), .int (-1), .int (-1), .int (-1), .int (-1), .int (-1), .int (-1), .int (-1), .int (-1), .int (-1), .int (-1), .int (-1), .int (-1), .int (-1), .int (-1), .int (-1), .int (-1), .int (-1), .int (-1), .int (-1), .int (-1), .int (-1), .int (-1), .int (-1), .int (-1), .int (-1), .int (-1), .int (-1), .int (-1), .int (-1), .int (-1), .int (-1), .int (-1), .int (-1), .int (-1), .int (-1), .int (-1), .int (-1), .int (-1), .int (-1), .int (-1), .int (-1), .int (-1), .int (-1), .int (-1), .int (-1), .int (-1), .int (-1), .int (-1), .int (-1), .int (-1), .int (-1), .int (-1), .int (-1), .int (-1), .int (-1), .int (-1), .int (-1), .int (-1), .int (-1), .int (-1), .int (-1), .int (-1), .int (-1), .int (-1), .int (-1), .int (-1), .int (-1), .int (-1), .int (-1), .int (-1), .int (-1), .int (-1), .int (-1), .int (-1), .int (-1), .int (-1), .int (-1), .int (-1), .int (-1), .int (-1), .int (-1), .int (-1), .int (-1), .int (-1), .int (-1), .int (-1), .int (-1), .int (-1), .int (-1), .int (-1), .int (-1), .int (-1), .int (-1), .int (-1), .int (-1), .int (-1), .int 2, .int (-1), .int (-1), .int (-1), .int (-1), .int (-1), .int (-1), .int (-1), .int (-1), .int (-1), .int (-1), .int (-1), .int (-1), .int (-1), .int (-1), .int (-1), .int (-1), .int (-1), .int (-1), .int (-1), .int (-1), .int (-1), .int (-1), .int (-1), .int (-1), .int (-1), .int (-1), .int (-1), .int (-1), .int (-1), .int (-1), .int (-1), .int (-1), .int (-1), .int (-1), .int (-1), .int (-1), .int (-1), .int (-1), .int (-1), .int (-1), .int (-1), .int (-1), .int (-1), .int (-1), .int (-1), .int (-1), .int (-1), .int (-1), .int (-1), .int (-1), .int (-1), .int (-1), .int (-1), .int (-1), .int (-1), .int (-1), .int (-1), .int (-1), .int (-1), .int (-1), .int (-1), .int (-1), .int (-1), .int (-1), .int (-1), .int (-1), .int (-1), .int (-1), .int (-1), .int (-1), .int (-1), .int (-1), .int (-1), .int (-1), .int (-1), .int (-1), .int (-1), .int (-1), .int (-1), .int (-1), .int (-1), .int (-1), .int (-1), .int (-1), .int (-1), .int (-1), .int (-1), .int (-1), .int (-1), .int (-1), .int (-1), .int (-1), .int (-1), .int (-1), .int (-1), .int (-1), .int (-1), .int (-1), .int (-1), .int (-1), .int (-1), .int (-1), .int (-1), .int (-1), .int (-1), .int (-1), .int (-1), .int (-1), .int (-1), .int (-1), .int (-1), .int (-1), .int (-1), .int (-1), .int (-1), .int (-1), .int (-1), .int (-1), .int (-1), .int (-1), .int (-1), .int (-1), .int (-1), .int (-1), .int (-1), .int (-1), .int (-1), .int (-1), .int (-1), .int (-1), .int (-1), .int (-1), .int (-1), .int (-1), .int (-1), .int (-1), .int (-1), .int (-1), .int (-1), .int (-1), .int (-1), .int (-1), .int (-1), .int (-1), .int (-1), .int (-1), .int (-1), .int (-1), .int (-1), .int (-1), .int (-1), .int (-1), .int (-1), .int (-1), .int (-1), .int (-1), .int (-1), .int (-1), .int (-1), .int (-1), .int (-1), .int (-1), .int (-1), .int (-1), .int (-1), .int (-1), .int (-1), .int (-1), .int (-1), .int (-1), .int (-1), .int (-1), .int (-1), .int (-1), .int (-1), .int (-1), .int (-1), .int (-1), .int (-1), .int (-1), .int (-1), .int (-1), .int (-1), .int (-1), .int (-1), .int (-1), .int (-1), .int (-1), .int (-1), .int (-1), .int (-1), .int (-1), .int (-1), .int (-1), .int (-1), .int (-1), .int (-1), .int (-1), .int (-1), .int (-1), .int (-1), .int (-1), .int (-1), .int (-1), .int (-1), .int (-1), .int (-1), .int (-1), .int (-1), .int (-1), .int (-1), .int (-1), .int (-1), .int (-1), .int (-1), .int (-1), .int (-1), .int (-1), .int (-1), .int (-1), .int (-1), .int (-1), .int (-1), .int (-1), .int (-1), .int (-1), .int (-1), .int (-1), .int (-1), .int (-1), .int (-1), .int (-1), .int (-1), .int (-1), .int (-1), .int (-1), .int (-1), .int (-1), .int (-1), .int (-1), .int (-1), .int (-1), .int (-1), .int (-1), .int (-1), .int (-1), .int (-1), .int (-1), .int (-1), .int (-1), .int (-1), .int (-1), .int (-1), .int (-1), .int (-1), .int (-1), .int (-1), .int (-1), .int (-1), .int (-1), .int (-1), .int (-1), .int (-1), .int (-1), .int (-1), .int (-1), .int (-1), .int (-1), .int (-1), .int (-1), .int (-1), .int (-1), .int (-1), .int (-1), .int (-1), .int (-1), .int (-1), .int (-1), .int (-1), .int (-1), .int (-1), .int (-1), .int (-1), .int (-1), .int (-1), .int (-1), .int (-1), .int (-1), .int (-1), .int (-1), .int (-1), .int (-1), .int (-1), .int (-1), .int (-1), .int (-1), .int (-1), .int (-1), .int (-1), .int (-1), .int (-1), .int (-1), .int (-1), .int (-1), .int (-1), .int (-1), .int (-1), .int (-1), .int (-1), .int (-1), .int (-1), .int (-1), .int (-1), .int (-1), .int (-1), .int (-1), .int (-1), .int (-1), .int (-1), .int (-1), .int (-1), .int (-1), .int (-1), .int (-1), .int (-1), .int (-1), .int (-1), .int (-1), .int (-1), .int (-1), .int (-1), .int (-1), .int (-1), .int (-1), .int (-1), .int (-1), .int (-1), .int (-1), .int (-1), .int (-1), .int (-1), .int (-1), .int (-1), .int (-1), .int (-1), .int (-1), .int (-1), .int (-1), .int (-1), .int (-1), .int (-1), .int (-1), .int (-1), .int (-1), .int (-1), .int (-1), .int (-1), .int (-1), .int (-1), .int (-1), .int (-1), .int (-1), .int (-1), .int (-1), .int (-1), .int (-1), .int (-1), .int (-1), .int (-1), .int (-1), .int (-1), .int (-1), .int (-1), .int (-1), .int (-1), .int (-1), .int (-1), .int (-1), .int (-1), .int (-1), .int (-1), .int (-1), .int (-1), .int (-1), .int (-1), .int (-1), .int (-1), .int (-1), .int (-1), .int (-1), .int (-1), .int (-1), .int (-1), .int (-1), .int (-1), .int (-1), .int (-1), .int (-1), .int (-1), .int (-1), .int (-1), .int (-1), .int (-1), .int (-1), .int (-1), .int (-1), .int (-1), .int (-1), .int (-1), .int (-1), .int (-1), .int (-1), .int (-1), .int (-1), .int (-1), .int (-1), .int (-1), .int (-1), .int (-1), .int (-1), .int (-1), .int (-1), .int (-1), .int (-1), .int (-1), .int (-1), .int (-1), .int (-1), .int (-1), .int (-1), .int (-1), .int (-1), .int (-1), .int (-1), .int (-1), .int (-1), .int (-1), .int (-1), .int (-1), .int (-1), .int (-1), .int (-1), .int (-1), .int (-1), .int (-1), .int (-1), .int (-1), .int (-1), .int (-1), .int (-1), .int (-1), .int (-1), .int (-1), .int (-1), .int (-1), .int (-1), .int (-1), .int (-1), .int (-1), .int (-1), .int (-1), .int (-1), .int (-1), .int (-1), .int (-1), .int (-1), .int (-1), .int (-1), .int (-1), .int (-1), .int (-1), .int (-1), .int (-1), .int (-1), .int (-1), .int (-1), .int (-1)], vm := .none },
  { cls := 5, slots := #[.ref 38, .ref 39, .int 0, .int 0], vm := .none },
  { cls := 20, slots := #[.int 0, .int 0, .int 0, .int 0, .int 0, .int 0, .int 0, .int 0, .int 0, .int 0, .int 0, .int 0], vm := .none },
  { cls := 20, slots := #[.int 0, .int 0, .int 0, .int 0, .int 0, .int 0, .int 0, .int 0, .int 0, .int 0, .int 0, .int 0], vm := .none },
  { cls := 6, slots := #[.ref 31, .ref 37, .ref 41, .ref 42, .ref 43, .ref 44, .int 0, .int 0, .int 0, .int 1], vm := .none },
  { cls := 20, slots := #[.int 0, .int 0, .int 0, .int 0, .int 0, .int 0, .int 0, .int 0, .int 0, .int 0, .int 0, .int 0], vm := .none },
  { cls := 20, slots := #[.int 0, .int 0, .int 0, .int 0, .int 0, .int 0, .int 0, .int 0, .int 0, .int 0, .int 0, .int 0], vm := .none },
  { cls := 20, slots := #[.int 0, .int 0, .int 0, .int 0, .int 0, .int 0, .int 0, .int 0, .int 0, .int 0, .int 0, .int 0, .int 0, .int 0, .int 0, .int 0, .int 0, .int 0, .int 0, .int 0, .int 0, .int 0, .int 0, .int 0, .int 0, .int 0, .int 0, .int 0, .int 0, .int 0, .int 0, .int 0, .int 0, .int 0, .int 0, .int 0, .int 0, .int 0, .int 0, .int 0, .int 0, .int 0, .int 0, .int 0, .int 0, .int 0, .int 0, .int 0], vm := .none },
  { cls := 20, slots := #[.int 0, .int 0, .int 0, .int 0, .int 0, .int 0, .int 0, .int 0, .int 0, .int 0, .int 0, .int 0], vm := .none },
  { cls := 7, slots := #[.ref 31, .ref 37, .ref 40, .ref 46, .ref 47, .ref 48, .int 0], vm := .none },
  { cls := 20, slots := #[.int 0, .int 0, .int 0, .int 0, .int 0, .int 0, .int 0, .int 0, .int 0, .int 0, .int 0, .int 0], vm := .none },
  { cls := 20, slots := #[.int 0, .int 0, .int 0, .int 0, .int 0, .int 0, .int 0, .int 0, .int 0, .int 0, .int 0, .int 0], vm := .none },
  { cls := 22, slots := #[.int 0, .int 0, .int 0, .int 0, .int 0, .int 0, .int 0, .int 0, .int 0, .int 0, .int 0, .int 0], vm := .none },
  { cls := 7, slots := #[.ref 31, .ref 37, .ref 40, .ref 50, .ref 51, .ref 52, .int 0], vm := .none },
  { cls := 20, slots := #[.int 0, .int 0, .int 0, .int 0, .int 0, .int 0, .int 0, .int 0, .int 0, .int 0, .int 0, .int 0], vm := .none },
  { cls := 20, slots := #[.int 0, .int 0, .int 0, .int 0, .int 0, .int 0, .int 0, .int 0, .int 0, .int 0, .int 0, .int 0], vm := .none },
  { cls := 22, slots := #[.int 0, .int 0, .int 0, .int 0, .int 0, .int 0, .int 0, .int 0, .int 0, .int 0, .int 0, .int 0], vm := .none },
  { cls := 20, slots := #[.int 3, .int 0, .int 0, .int 0, .int 0, .int 34, .int 0, .int 0, .int 64, .int 2, .int 1, .int 3], vm := .none },
  { cls := 20, slots := #[.int 0, .int 0, .int 0, .int 0, .int 0, .int 2, .int 0, .int 0, .int 1, .int 0, .int 0, .int 0, .int 0, .int 0, .int 0, .int 0, .int 0, .int 0, .int 0, .int 0, .int 0, .int 0, .int 0, .int 0, .int 0, .int 0, .int 0, .int 0, .int 3, .int 0, .int 0, .int 0, .int 0, .int 0, .int 0, .int 0, .int 0, .int 0, .int 0, .int 0, .int 0, .int 0, .int 0, .int 0, .int 0, .int 0, .int 0, .int 0, .int 0, .int 0, .int 0, .int 0, .int 0, .int 2, .int 0, .int 0, .int 0, .int 0, .int 0, .int 0], vm := .none },
  { cls := 20, slots := #[.int 0, .int 0, .int 0, .int 0, .int 0, .int 0], vm := .none },
  { cls := 20, slots := #[.int 0, .int 0, .int 0, .int 0, .int 0, .int 0], vm := .none },
  { cls := 20, slots := #[.int 0, .int 0, .int 0, .int 0, .int 0, .int 0], vm := .none },
  { cls := 20, slots := #[.int 0, .int 0, .int 0, .int 0, .int 0, .int 0], vm := .none },
  { cls := 20, slots := #[.int 0, .int 0, .int 0, .int 0, .int 0, .int 0], vm := .none },
  { cls := 20, slots := #[.int 0, .int 0, .int 0, .int 0, .int 0, .int 0], vm := .none },
  { cls := 20, slots := #[.int 2, .int 2, .int 4, .int 0, .int 0, .int 0, .int 0, .int 0], vm := .none },
  { cls := 15, slots := #[.null, .ref 16, .ref 62, .null, .int 0, .null], vm := .none },
  { cls := 15, slots := #[.null, .ref 16, .ref 63, .null, .int 0, .null], vm := .none },
  { cls := 17, slots := #[.null, .ref 12, .ref 64, .null, .int 0, .null], vm := .none },
  { cls := 15, slots := #[.null, .ref 16, .ref 65, .null, .int 0, .null], vm := .none },
  { cls := 15, slots := #[.null, .ref 16, .ref 66, .null, .int 0, .null], vm := .none },
  { cls := 15, slots := #[.null, .ref 16, .ref 67, .null, .int 0, .null], vm := .none },
  { cls := 17, slots := #[.null, .ref 12, .ref 68, .null, .int 0, .null], vm := .none },
  { cls := 17, slots := #[.null, .ref 12, .ref 69, .null, .int 0, .null], vm := .none },
  { cls := 17, slots := #[.null, .ref 26, .ref 70, .null, .int 0, .null], vm := .none },
  { cls := 17, slots := #[.null, .ref 12, .ref 71, .null, .int 0, .null], vm := .none },
  { cls := 15, slots := #[.null, .ref 16, .ref 72, .null, .int 0, .null], vm := .none },
  { cls := 17, slots := #[.null, .ref 2, .ref 73, .null, .int 0, .null], vm := .none },
  { cls := 17, slots := #[.null, .ref 2, .ref 74, .null, .int 0, .null], vm := .none },
  { cls := 17, slots := #[.null, .ref 4, .ref 75, .null, .int 0, .null], vm := .none },
  { cls := 17, slots := #[.null, .ref 4, .ref 76, .null, .int 0, .null], vm := .none },
  { cls := 17, slots := #[.null, .ref 2, .ref 77, .null, .int 0, .null], vm := .none },
  { cls := 17, slots := #[.null, .ref 2, .ref 78, .null, .int 0, .null], vm := .none },
  { cls := 17, slots := #[.null, .ref 4, .ref 79, .null, .int 0, .null], vm := .none },
  { cls := 17, slots := #[.null, .ref 4, .ref 80, .null, .int 0, .null], vm := .none },
  { cls := 17, slots := #[.null, .ref 2, .ref 81, .null, .int 0, .null], vm := .none },
  { cls := 17, slots := #[.null, .ref 2, .ref 82, .null, .int 0, .null], vm := .none },
  { cls := 17, slots := #[.null, .ref 4, .ref 83, .null, .int 0, .null], vm := .none },
  { cls := 17, slots := #[.null, .ref 4, .ref 84, .null, .int 0, .null], vm := .none },
  { cls := 17, slots := #[.null, .ref 2, .ref 85, .null, .int 0, .null], vm := .none },
  { cls := 17, slots := #[.null, .ref 2, .ref 86, .null, .int 0, .null], vm := .none },
  { cls := 17, slots := #[.null, .ref 4, .ref 87, .null, .int 0, .null], vm := .none },
  { cls := 17, slots := #[.null, .ref 4, .ref 88, .null, .int 0, .null], vm := .none },
  { cls := 17, slots := #[.null, .ref 2, .ref 89, .null, .int 0, .null], vm := .none },
  { cls := 17, slots := #[.null, .ref 2, .ref 90, .null, .int 0, .null], vm := .none },
  { cls := 17, slots := #[.null, .ref 4, .ref 91, .null, .int 0, .null], vm := .none },
  { cls := 17, slots := #[.null, .ref 4, .ref 92, .null, .int 0, .null], vm := .none },
  { cls := 17, slots := #[.null, .ref 2, .ref 93, .null, .int 0, .null], vm := .none },
  { cls := 17, slots := #[.null, .ref 2, .ref 94, .null, .int 0, .null], vm := .none },
  { cls := 17, slots := #[.null, .ref 4, .ref 95, .null, .int 0, .null], vm := .none },
  { cls := 17, slots := #[.null, .ref 4, .ref 96, .null, .int 0, .null], vm := .none },
  { cls := 17, slots := #[.null, .ref 2, .ref 97, .null, .int 0, .null], vm := .none },
  { cls := 17, slots := #[.null, .ref 2, .ref 98, .null, .int 0, .null], vm := .none },
  { cls := 17, slots := #[.null, .ref 4, .ref 99, .null, .int 0, .null], vm := .none },
  { cls := 17, slots := #[.null, .ref 4, .ref 100, .null, .int 0, .null], vm := .none },
  { cls := 17, slots := #[.null, .ref 2, .ref 101, .null, .int 0, .null], vm := .none },
  { cls := 17, slots := #[.null, .ref 2, .ref 102, .null, .int 0, .null], vm := .none },
  { cls := 17, slots := #[.null, .ref 4, .ref 103, .null, .int 0, .null], vm := .none },
  { cls := 17, slots := #[.null, .ref 4, .ref 104, .null, .int 0, .null], vm := .none },
  { cls := 15, slots := #[.null, .ref 10, .ref 105, .null, .int 0, .null], vm := .none },
  { cls := 17, slots := #[.null, .ref 8, .ref 106, .null, .int 0, .null], vm := .none },
  { cls := 17, slots := #[.null, .ref 2, .ref 107, .null, .int 0, .null], vm := .none },
  { cls := 15, slots := #[.null, .ref 10, .ref 108, .null, .int 0, .null], vm := .none },
  { cls := 17, slots := #[.null, .ref 12, .ref 109, .null, .int 0, .null], vm := .none },
  { cls := 17, slots := #[.null, .ref 14, .ref 110, .null, .int 0, .null], vm := .none },
  { cls := 17, slots := #[.null, .ref 14, .ref 111, .null, .int 0, .null], vm := .none },
  { cls := 17, slots := #[.null, .ref 12, .ref 112, .null, .int 0, .null], vm := .none },
  { cls := 17, slots := #[.null, .ref 2, .ref 113, .null, .int 0, .null], vm := .none },
  { cls := 17, slots := #[.null, .ref 14, .ref 114, .null, .int 0, .null], vm := .none },
  { cls := 17, slots := #[.null, .ref 14, .ref 115, .null, .int 0, .null], vm := .none },
  { cls := 17, slots := #[.null, .ref 12, .ref 116, .null, .int 0, .null], vm := .none },
  { cls := 17, slots := #[.null, .ref 2, .ref 117, .null, .int 0, .null], vm := .none },
  { cls := 17, slots := #[.null, .ref 14, .ref 118, .null, .int 0, .null], vm := .none },
  { cls := 17, slots := #[.null, .ref 14, .ref 119, .null, .int 0, .null], vm := .none },
  { cls := 17, slots := #[.null, .ref 12, .ref 120, .null, .int 0, .null], vm := .none },
  { cls := 17, slots := #[.null, .ref 2, .ref 121, .null, .int 0, .null], vm := .none },
  { cls := 15, slots := #[.null, .ref 10, .ref 122, .null, .int 0, .null], vm := .none },
  { cls := 17, slots := #[.null, .ref 8, .ref 123, .null, .int 0, .null], vm := .none },
  { cls := 17, slots := #[.null, .ref 8, .ref 124, .null, .int 0, .null], vm := .none },
  { cls := 15, slots := #[.null, .ref 10, .ref 125, .null, .int 0, .null], vm := .none },
  { cls := 17, slots := #[.null, .ref 8, .ref 126, .null, .int 0, .null], vm := .none },
  { cls := 17, slots := #[.null, .ref 8, .ref 127, .null, .int 0, .null], vm := .none },
  { cls := 17, slots := #[.null, .null, .null, .null, .int 0, .null], vm := .none }]
def zr_f24 : List Frame := [.java { method := ⟨11, 1⟩, pc := 0, locals := #[.val (.ref 128), .val (.ref 14)], stack := [], locked := none },
  .java { method := ⟨13, 1⟩, pc := 2, locals := #[.val (.ref 128), .val (.ref 14)], stack := [], locked := none },
  .java { method := ⟨14, 1⟩, pc := 2, locals := #[.val (.ref 128), .val (.ref 14)], stack := [], locked := none },
  .java { method := ⟨17, 0⟩, pc := 2, locals := #[.val (.ref 128), .val (.ref 14)], stack := [], locked := none },
  .java { method := ⟨2, 3⟩, pc := 41, locals := #[.val (.ref 30), .val (.int 2), .val (.int 3), .val (.int 1), .val (.int 20), .val (.int 17)], stack := [.ref 128], locked := none },
  .java { method := ⟨0, 5⟩, pc := 6, locals := #[.val (.ref 30), .val (.int 2), .val (.int 3), .val (.int 1), .val (.int 20), .unset, .unset], stack := [], locked := none },
  .java { method := ⟨0, 23⟩, pc := 595, locals := #[.val (.ref 30), .val (.int 12), .val (.int 89), .val (.int 126), .val (.ref 53), .val (.ref 54), .val (.ref 55), .val (.ref 61), .val (.int 2), .val (.int 1), .val (.int 3), .val (.int 53), .val (.int 0), .val (.int 1), .val (.int (-1))], stack := [], locked := none },
  .java { method := ⟨0, 0⟩, pc := 191, locals := #[.val (.ref 0), .val (.ref 30), .val (.ref 53), .val (.ref 54), .val (.ref 55), .val (.ref 56), .val (.ref 57), .val (.ref 58), .val (.ref 59), .val (.ref 60), .val (.ref 61), .val (.int 19), .val (.int 52), .val (.int 12)], stack := [], locked := none },
  .native { method := ⟨0, 0⟩, args := #[] }]
def zr_u24 : Nat := 2022
def zr_w24 : State := stepsAlone start1.p0.tables start1.e0 886 (zr_mk zr_w23 zr_h23 zr_f23 zr_u23)
set_option maxRecDepth 16384 in
theorem zr_s24 : zr_run start1.p0.tables start1.e0 (zr_same zr_h24 zr_f24 zr_u24) 886 (zr_mk zr_w23 zr_h23 zr_f23 zr_u23) = true := by decide +kernel
end
section
def zr_h25 : List Cell := [{ cls := 2, slots := #[.ref 31, .ref 37, .ref 40, .ref 45, .ref 49], vm := .none },
  { cls := 3, slots := #[.ref 32, .ref 33, .ref 34, .ref 35, .ref 36, .int 0], vm := .none },
  { cls := 20, slots := #[.int 2, .int 2, .int 4, .int 0], vm := .none },
  { cls := 20, slots := #[.int 2, .int (-1), .int (-1), .int (-1), .int (-1), .int (-1), .int (-1), .int (-1), .int (-1), .int 1, .int (-1), .int (-1), .int (-1), .int (-1), .int (-1), .int (-1), .int (-1), .int 1, .int 0, .int 2, .int (-1), .int (-1), .int (-1), .int (-1), .int (-1), .int (-1), .int (-1), .int (-1), .int (-1), .int (-1), .int (-1), .int (-1)], vm := .none },
  { cls := 22, slots := #[.int 0, .int 0, .int 0, .int 0, .int 0, .int 0, .int 0, .int 0, .int 0, .int 0, .int 0, .int 0, .int 0, .int 0, .int 0, .int 0, .int 0, .int 0, .int 0, .int 0, .int 0, .int 0, .int 0, .int 0, .int 0, .int 0, .int 0, .int 0, .int 0, .int 0, .int 0, .int 0], vm := .none },
  { cls := 20, slots := #[.int 0, .int 0, .int 0, .int 0, .int 0, .int 0, .int 0, .int 0, .int 0, .int 2, .int 0, .int 0, .int 0, .int 0, .int 0, .int 0, .int 4, .int 0, .int 0, .int 0, .int 0, .int 0, .int 0, .int 0, .int 0, .int 0, .int 0, .int 0, .int 0, .int 0, .int 0, .int 0], vm := .none },
  { cls := 20, slots := #[.int (-1), .int (-1), .int 0, .int (-1), .int (-1), .int (-1), .int (-1), .int (-1), .int (-1), .int (-1), .int (-1), .int (-1), .int (-1), .int (-1), .int (-1), .int (-1), .int (-1), .int (-1), .int (-1), .int (-1), .int (-1), .int 1, .int (-1), .int (-1), .int (-1), .int (-1), .int (-1), .int (-1), .int (-1), .int (-1), .int (-1), .int (-1), .int (-1), .int (-1), .int (-1), .int (-1), .int (-1), .int (-1), .int (-1), .int (-1), .int (-1), .int (-1), .int (-1), .int (-1), .int (-1), .int (-1), .int (-1), .int (-1), .int (-1), .int (-1), .int (-1), .int (-1), .int (-1), .int (-1), .int (-1), .int (-1), .int (-1), .int (-1), .int (-1), .int (-1), .int (-1), .int (-1), .int (-1), .int (-1), .int (-1), .int (-1), .int (-1), .int (-1), .int (-1), .int (-1), .int (-1), .int (-1), .int (-1), .int (-1), .int (-1), .int (-1), .int (-1), .int (-1), .int (-1), .int (-1), .int (-1), .int (-1), .int (-1), .int (-1), .int (-1), .int (-1), .int (-1), .int (-1), .int (-1), .int (-1), .int (-1), .int (-1), .int (-1), .int (-1), .int (-1), .int (-1), .int (-1), .int (-1), .int (-1), .int (-1), .int (-1), .int (-1), .int (-1), .int (-1), .int (-1), .int (-1), .int (-1), .int (-1), .int (-1), .int (-1), .int (-1), .int (-1), .int (-1), .int (-1), .int (-1), .int (-1), .int (-1), .int (-1), .int (-1), .int (-1), .int (-1), .int (-1), .int (-1), .int (-1), .int (-1), .int (-1), .int (-1), .int (-1), .int (-1), .int (-1), .int (-1), .int (-1), .int (-1), .int (-1), .int (-1), .int (-1), .int (-1), .int (-1), .int (-1), .int (-1), .int (-1), .int (-1), .int (-1), .int (-1), .int (-1), .int (-1), .int (-1), .int (-1), .int (-1), .int (-1), .int (-1), .int (-1), .int (-1), .int (-1), .int (-1), .int (-1), .int (-1), .int (-1), .int (-1), .int (-1), .int (-1), .int (-1), .int 2, .int (-1), .int (-1), .int (-1), .int (-1), .int (-1), .int (-1), .int (-1), .int (-1), .int (-1), .int (-1), .int (-1), .int (-1), .int (-1), .int (-1), .int (-1), .int (-1), .int (-1), .int (-1), .int (-1), .int (-1), .int (-1), .int (-1), .int (-1), .int (-1), .int (-1), .int (-1), .int (-1), .int (-1), .int (-1), .int (-1), .int (-1), .int (-1), .int (-1), .int (-1), .int (-1), .int (-1), .int (-1), .int (-1), .int (-1), .int (-1), .int (-1), .int (-1), .int (-1), .int (-1), .int (-1), .int (-1), .int (-1), .int (-1), .int (-1), .int (-1), .int (-1), .int (-1), .int (-1), .int (-1), .int (-1), .int (-1), .int (-1), .int (-1), .int (-1), .int (-1), .int (-1), .int (-1), .int (-1), .int (-1), .int (-1), .int (-1), .int (-1), .int (-1), .int (-1), .int (-1), .int (-1), .int (-1), .int (-1), .int (-1), .int (-1), .int (-1), .int (-1), .int (-1), .int (-1), .int (-1), .int (-1), .int (-1), .int (-1), .int (-1), .int (-1), .int (-1), .int (-1), .int (-1), .int (-1), .int (-1), .int (-1), .int (-1), .int (-1), .int (-1), .int (-1), .int (-1), .int (-1), .int (-1), .int (-1), .int (-1), .int (-1), .int (-1), .int (-1), .int (-1), .int (-1), .int (-1), .int (-1), .int (-1), .int (-1), .int (-1), .int (-1), .int (-1), .int (-1), .int (-1), .int (-1), .int (-1), .int (-1), .int (-1), .int (-1), .int (-1), .int (-1), .int (-1), .int (-1), .int (-1), .int (-1), .int (-1), .int (-1), .int (-1), .int (-1), .int (-1), .int (-1), .int (-1), .int (-1), .int (-1), .int (-1), .int (-1), .int (-1), .int (-1), .int (-1), .int (-1), .int (-1), .int (-1), .int (-1), .int (-1), .int (-1), .int (-1), .int (-1), .int (-1), .int (-1), .int (-1), .int (-1), .int (-1), .int (-1), .int (-1), .int (-1), .int (-1), .int (-1), .int (-1), .int (-1), .int (-1), .int (-1), .int (-1), .int (-1), .int (-1), .int (-1), .int (-1), .int (-1), .int (-1), .int (-1), .int (-1), .int (-1), .int (-1), .int (-1), .int (-1), .int (-1), .int (-1), .int (-1), .int (-1), .int (-1), .int (-1), .int 1, .int (-1), .int (-1), .int (-1), .int (-1), .int (-1), .int (-1), .int (-1), .int (-1), .int (-1), .int (-1), .int (-1), .int (-1), .int (-1), .int (-1), .int (-1), .int (-1), .int (-1), .int (-1), .int (-1), .int (-1), .int (-1), .int (-1), .int (-1), .int (-1), .int (-1), .int (-1), .int (-1), .int (-1), .int (-1), .int (-1), .int (-1), .int (-1), .int (-1), .int (-1), .int (-1), .int (-1), .int (-1), .int (-1), .int (-1), .int (-1), .int (-1), .int (-1), .int (-1), .int (-1), .int (-1), .int (-1), .int (-1), .int (-1), .int (-1), .int (-1), .int (-1), .int (-1), .int (-1), .int (-1), .int (-1), .int (-1), .int (-1), .int (-1), .int (-1), .int (-1), .int (-1), .int (-1), .int (-1), .int (-1), .int (-1), .int (-1), .int (-1), .int (-1), .int (-1), .int (-1), .int (-1), .int (-1), .int (-1), .int (-1), .int (-1), .int (-1), .int (-1), .int (-1), .int (-1), .int (-1), .int (-1), .int (-1), .int (-1), .int (-1), .int (-1), .int (-1), .int (-1), .int (-1), .int (-1), .int (-1), .int (-1), .int (-1), .int (-1), .int (-1), .int (-1), .int (-1), .int (-1), .int (-1), .int (-1), .int (-1), .int (-1), .int (-1), .int (-1), .int (-1), .int (-1), .int (-1), .int (-1), .int (-1), .int (-1), .int (-1), .int (-1), .int (-1), .int (-1), .int (-1), .int (-1), .int (-1), .int (-1), .int (-1), .int (-1), .int (-1), .int (-1), .int (-1), .int (-1), .int (-1), .int (-1), .int (-1), .int (-1), .int (-1), .int (-1), .int (-1), .int (-1), .int (-1), .int (-1), .int (-1), .int (-1), .int (-1), .int (-1), .int (-1), .int (-1), .int (-1), .int (-1), .int (-1), .int (-1), .int (-1), .int (-1), .int (-1), .int (-1), .int (-1), .int (-1), .int (-1), .int (-1), .int (-1), .int (-1), .int (-1), .int (-1), .int (-1), .int (-1), .int (-1), .int (-1), .int (-1), .int (-1), .int (-1), .int (-1), .int (-1), .int (-1), .int (-1), .int (-1), .int (-1), .int (-1), .int (-1), .int (-1), .int (-1), .int (-1), .int (-1), .int (-1), .int (-1), .int (-1), .int (-1), .int (-1), .int (-1), .int (-1), .int (-1), .int (-1), .int (-1), .int (-1), .int (-1), .int (-1), .int (-1), .int (-1), .int (-1), .int (-1), .int (-1), .int (-1), .int (-1), .int (-1), .int (-1), .int (-1), .int (-1), .int (-1), .int (-1), .int (-1), .int (-1), .int (-1), .int (-1), .int (-1), .int (-1), .int (-1), .int (-1), .int (-1), .int (-1), .int (-1), .int (-1), .int (-1), .int (-1), .int (-1), .int (-1), .int (-1), .int (-1), .int (-1), .int (-1), .int (-1), .int (-1), .int (-1), .int (-1), .int (-1), .int (-1), .int (-1), .int (-1), .int (-1), .int (-1), .int (-1), .int (-1), .int (-1), .int (-1), .int (-1), .int (-1), .int (-1), .int (-1), .int (-1), .int (-1), .int (-1), .int (-1), .int (-1), .int (-1), .int (-1), .int (-1), .int (-1), .int (-1), .int (-1), .int (-1), .int (-1), .int (-1), .int (-1), .int (-1), .int (-1), .int (-1), .int (-1), .int (-1), .int (-1), .int (-1), .int (-1), .int (-1), .int (-1), .int (-1), .int (-1), .int (-1), .int (-1), .int (-1), .int (-1), .int (-1), .int (-1), .int (-1), .int (-1), .int (-1), .int (-1), .int (-1), .int (-1), .int (-1), .int (-1), .int (-1), .int (-1), .int (-1), .int (-1), .int (-1), .int (-1), .int (-1), .int (-1), .int (-1), .int (-1), .int (-1), .int (-1), .int (-1), .int (-1), .int (-1), .int (-1), .int (-1)], vm := .none },
  { cls := 5, slots := #[.ref 38, .ref 39, .int 0, .int 0], vm := .none },
  { cls := 20, slots := #[.int 0, .int 0, .int 0, .int 0, .int 0, .int 0, .int 0, .int 0, .int 0, .int 0, .int 0, .int 0], vm := .none },
  { cls := 20, slots := #[.int 0, .int 0, .int 0, .int 0, .int 0, .int 0, .int 0, .int 0, .int 0, .int 0, .int 0, .int 0], vm := .none },
  { cls := 6, slots := #[.ref 31, .ref 37, .ref 41, .ref 42, .ref 43, .ref 44, .int 0, .int 0, .int 0, .int 1], vm := .none },
  { cls := 20, slots := #[.int 0, .int 0, .int 0, .int 0, .int 0, .int 0, .int 0, .int 0, .int 0, .int 0, .int 0, .int 0], vm := .none },
  { cls := 20, slots := #[.int 0, .int 0, .int 0, .int 0, .int 0, .int 0, .int 0, .int 0, .int 0, .int 0, .int 0, .int 0], vm := .none },
  { cls := 20, slots := #[.int 0, .int 0, .int 0, .int 0, .int 0, .int 0, .int 0, .int 0, .int 0, .int 0, .int 0, .int 0, .int 0, .int 0, .int 0, .int 0, .int 0, .int 0, .int 0, .int 0, .int 0, .int 0, .int 0, .int 0, .int 0, .int 0, .int 0, .int 0, .int 0, .int 0, .int 0, .int 0, .int 0, .int 0, .int 0, .int 0, .int 0, .int 0, .int 0, .int 0, .int 0, .int 0, .int 0, .int 0, .int 0, .int 0, .int 0, .int 0], vm := .none },
  { cls := 20, slots := #[.int 0, .int 0, .int 0, .int 0, .int 0, .int 0, .int 0, .int 0, .int 0, .int 0, .int 0, .int 0], vm := .none },
  { cls := 7, slots := #[.ref 31, .ref 37, .ref 40, .ref 46, .ref 47, .ref 48, .int 0], vm := .none },
  { cls := 20, slots := #[.int 0, .int 0, .int 0, .int 0, .int 0, .int 0, .int 0, .int 0, .int 0, .int 0, .int 0, .int 0], vm := .none },
  { cls := 20, slots := #[.int 0, .int 0, .int 0, .int 0, .int 0, .int 0, .int 0, .int 0, .int 0, .int 0, .int 0, .int 0], vm := .none },
  { cls := 22, slots := #[.int 0, .int 0, .int 0, .int 0, .int 0, .int 0, .int 0, .int 0, .int 0, .int 0, .int 0, .int 0], vm := .none },
  { cls := 7, slots := #[.ref 31, .ref 37, .ref 40, .ref 50, .ref 51, .ref 52, .int 0], vm := .none },
  { cls := 20, slots := #[.int 0, .int 0, .int 0, .int 0, .int 0, .int 0, .int 0, .int 0, .int 0, .int 0, .int 0, .int 0], vm := .none },
  { cls := 20, slots := #[.int 0, .int 0, .int 0, .int 0, .int 0, .int 0, .int 0, .int 0, .int 0, .int 0, .int 0, .int 0], vm := .none },
  { cls := 22, slots := #[.int 0, .int 0, .int 0, .int 0, .int 0, .int 0, .int 0, .int 0, .int 0, .int 0, .int 0, .int 0], vm := .none },
  { cls := 20, slots := #[.int 3, .int 0, .int 0, .int 0, .int 0, .int 34, .int 0, .int 0, .int 64, .int 2, .int 1, .int 3], vm := .none },
  { cls := 20, slots := #[.int 0, .int 0, .int 0, .int 0, .int 0, .int 48, .int 0, .int 0, .int 1, .int 0, .int 0, .int 0, .int 0, .int 0, .int 0, .int 0, .int 0, .int 0, .int 0, .int 0, .int 0, .int 0, .int 0, .int 0, .int 0, .int 0, .int 0, .int 0, .int 3, .int 0, .int 0, .int 0, .int 0, .int 0, .int 0, .int 0, .int 0, .int 0, .int 0, .int 0, .int 0, .int 0, .int 0, .int 0, .int 0, .int 0, .int 0, .int 0, .int 0, .int 0, .int 0, .int 0, .int 0, .int 2, .int 0, .int 0, .int 0, .int 0, .int 0, .int 0], vm := .none },
  { cls := 20, slots := #[.int 0, .int 0, .int 0, .int 0, .int 0, .int 0], vm := .none },
  { cls := 20, slots := #[.int 0, .int 0, .int 0, .int 0, .int 0, .int 0], vm := .none },
  { cls := 20, slots := #[.int 0, .int 0, .int 0, .int 0, .int 0, .int 0], vm := .none },
  { cls := 20, slots := #[.int 0, .int 0, .int 0, .int 0, .int 0, .int 0], vm := .none },
  { cls := 20, slots := #[.int 0, .int 0, .int 0, .int 0, .int 0, .int 0], vm := .none },
  { cls := 20, slots := #[.int 0, .int 0, .int 0, .int 0, .int 0, .int 0], vm := .none },
  { cls := 20, slots := #[.int 2, .int 2, .int 4, .int 0, .int 0, .int 0, .int 0, .int 0], vm := .none },
  { cls := 15, slots := #[.null, .ref 16, .ref 62, .null, .int 0, .null], vm := .none },
  { cls := 15, slots := #[.null, .ref 16, .ref 63, .null, .int 0, .null], vm := .none },
  { cls := 17, slots := #[.null, .ref 12, .ref 64, .null, .int 0, .null], vm := .none },
  { cls := 15, slots := #[.null, .ref 16, .ref 65, .null, .int 0, .null], vm := .none },
  { cls := 15, slots := #[.null, .ref 16, .ref 66, .null, .int 0, .null], vm := .none },
  { cls := 15, slots := #[.null, .ref 16, .ref 67, .null, .int 0, .null], vm := .none },
  { cls := 17, slots := #[.null, .ref 12, .ref 68, .null, .int 0, .null], vm := .none },
  { cls := 17, slots := #[.null, .ref 12, .ref 69, .null, .int 0, .null], vm := .none },
  { cls := 17, slots := #[.null, .ref 26, .ref 70, .null, .int 0, .null], vm := .none },
  { cls := 17, slots := #[.null, .ref 12, .ref 71, .null, .int 0, .null], vm := .none },
  { cls := 15, slots := #[.null, .ref 16, .ref 72, .null, .int 0, .null], vm := .none },
  { cls := 17, slots := #[.null, .ref 2, .ref 73, .null, .int 0, .null], vm := .none },
  { cls := 17, slots := #[.null, .ref 2, .ref 74, .null, .int 0, .null], vm := .none },
  { cls := 17, slots := #[.null, .ref 4, .ref 75, .null, .int 0, .null], vm := .none },
  { cls := 17, slots := #[.null, .ref 4, .ref 76, .null, .int 0, .null], vm := .none },
  { cls := 17, slots := #[.null, .ref 2, .ref 77, .null, .int 0, .null], vm := .none },
  { cls := 17, slots := #[.null, .ref 2, .ref 78, .null, .int 0, .null], vm := .none },
  { cls := 17, slots := #[.null, .ref 4, .ref 79, .null, .int 0, .null], vm := .none },
  { cls := 17, slots := #[.null, .ref 4, .ref 80, .null, .int 0, .null], vm := .none },
  { cls := 17, slots := #[.null, .ref 2, .ref 81, .null, .int 0, .null], vm := .none },
  { cls := 17, slots := #[.null, .ref 2, .ref 82, .null, .int 0, .null], vm := .none },
  { cls := 17, slots := #[.null, .ref 4, .ref 83, .null, .int 0, .null], vm := .none },
  { cls := 17, slots := #[.null, .ref 4, .ref 84, .null, .int 0, .null], vm := .none },
  { cls := 17, slots := #[.null, .ref 2, .ref 85, .null, .int 0, .null], vm := .none },
  { cls := 17, slots := #[.null, .ref 2, .ref 86, .null, .int 0, .null], vm := .none },
  { cls := 17, slots := #[.null, .ref 4, .ref 87, .null, .int 0, .null], vm := .none },
  { cls := 17, slots := #[.null, .ref 4, .ref 88, .null, .int 0, .null], vm := .none },
  { cls := 17, slots := #[.null, .ref 2, .ref 89, .null, .int 0, .null], vm := .none },
  { cls := 17, slots := #[.null, .ref 2, .ref 90, .null, .int 0, .null], vm := .none },
  { cls := 17, slots := #[.null, .ref 4, .ref 91, .null, .int 0, .null], vm := .none },
  { cls := 17, slots := #[.null, .ref 4, .ref 92, .null, .int 0, .null], vm := .none },
  { cls := 17, slots := #[.null, .ref 2, .ref 93, .null, .int 0, .null], vm := .none },
  { cls := 17, slots := #[.null, .ref 2, .ref 94, .null, .int 0, .null], vm := .none },
  { cls := 17, slots := #[.null, .ref 4, .ref 95, .null, .int 0, .null], vm := .none },
  { cls := 17, slots := #[.null, .ref 4, .ref 96, .null, .int 0, .null], vm := .none },
  { cls := 17, slots := #[.null, .ref 2, .ref 97, .null, .int 0, .null], vm := .none },
  { cls := 17, slots := #[.null, .ref 2, .ref 98, .null, .int 0, .null], vm := .none },
  { cls := 17, slots := #[.null, .ref 4, .ref 99, .null, .int 0, .null], vm := .none },
  { cls := 17, slots := #[.null, .ref 4, .ref 100, .null, .int 0, .null], vm := .none },
  { cls := 17, slots := #[.null, .ref 2, .ref 101, .null, .int 0, .null], vm := .none },
  { cls := 17, slots := #[.null, .ref 2, .ref 102, .null, .int 0, .null], vm := .none },
  { cls := 17, slots := #[.null, .ref 4, .ref 103, .null, .int 0, .null], vm := .none },
  { cls := 17, slots := #[.null, .ref 4, .ref 104, .null, .int 0, .null], vm := .none },
  { cls := 15, slots := #[.null, .ref 10, .ref 105, .null, .int 0, .null], vm := .none },
  { cls := 17, slots := #[.null, .ref 8, .ref 106, .null, .int 0, .null], vm := .none },
  { cls := 17, slots := #[.null, .ref 2, .ref 107, .null, .int 0, .null], vm := .none },
  { cls := 15, slots := #[.null, .ref 10, .ref 108, .null, .int 0, .null], vm := .none },
  { cls := 17, slots := #[.null, .ref 12, .ref 109, .null, .int 0, .null], vm := .none },
  { cls := 17, slots := #[.null, .ref 14, .ref 110, .null, .int 0, .null], vm := .none },
  { cls := 17, slots := #[.null, .ref 14, .ref 111, .null, .int 0, .null], vm := .none },
  { cls := 17, slots := #[.null, .ref 12, .ref 112, .null, .int 0, .null], vm := .none },
  { cls := 17, slots := #[.null, .ref 2, .ref 113, .null, .int 0, .null], vm := .none },
  { cls := 17, slots := #[.null, .ref 14, .ref 114, .null, .int 0, .null], vm := .none },
  { cls := 17, slots := #[.null, .ref 14, .ref 115, .null, .int 0, .null], vm := .none },
  { cls := 17, slots := #[.null, .ref 12, .ref 116, .null, .int 0, .null], vm := .none },
  { cls := 17, slots := #[.null, .ref 2, .ref 117, .null, .int 0, .null], vm := .none },
  { cls := 17, slots := #[.null, .ref 14, .ref 118, .null, .int 0, .null], vm := .none },
  { cls := 17, slots := #[.null, .ref 14, .ref 119, .null, .int 0, .null], vm := .none },
  { cls := 17, slots := #[.null, .ref 12, .ref 120, .null, .int 0, .null], vm := .none },
  { cls := 17, slots := #[.null, .ref 2, .ref 121, .null, .int 0, .null], vm := .none },
  { cls := 15, slots := #[.null, .ref 10, .ref 122, .null, .int 0, .null], vm := .none },
  { cls := 17, slots := #[.null, .ref 8, .ref 123, .null, .int 0, .null], vm := .none },
  { cls := 17, slots := #[.null, .ref 8, .ref 124, .null, .int 0, .null], vm := .none },
  { cls := 15, slots := #[.null, .ref 10, .ref 125, .null, .int 0, .null], vm := .none },
  { cls := 17, slots := #[.null, .ref 8, .ref 126, .null, .int 0, .null], vm := .none },
  { cls := 17, slots := #[.null, .ref 8, .ref 127, .null, .int 0, .null], vm := .none },
  { cls := 17, slots := #[.null, .ref 14, .ref 128, .null, .int 0, .null], vm := .none },
  { cls := 17, slots := #[.null, .ref 14, .ref 129, .null, .int 0, .null], vm := .none },
  { cls := 17, slots := #[.null, .ref 12, .ref 130, .null, .int 0, .null], vm := .none },
  { cls := 17, slots := #[.null, .ref 2, .ref 131, .null, .int 0, .null], vm := .none }]
def zr_f25 : List Frame := [.java { method := ⟨3, 7⟩, pc := 22, locals := #[.val (.ref 31), .val (.int 1), .val (.int 100), .val (.int 100)], stack := [], locked := none },
  .java { method := ⟨2, 3⟩, pc := 29, locals := #[.val (.ref 30), .val (.int 0), .val (.int 1), .val (.int 1), .val (.int 100), .val (.int 1)], stack := [], locked := none },
  .java { method := ⟨0, 5⟩, pc := 6, locals := #[.val (.ref 30), .val (.int 0), .val (.int 1), .val (.int 1), .val (.int 100), .unset, .unset], stack := [], locked := none },
  .java { method := ⟨0, 23⟩, pc := 595, locals := #[.val (.ref 30), .val (.int 12), .val (.int (-51)), .val (.int (-14)), .val (.ref 53), .val (.ref 54), .val (.ref 55), .val (.ref 61), .val (.int 0), .val (.int 1), .val (.int 1), .val (.int 5), .val (.int 1), .val (.int 47), .val (.int 1)], stack := [], locked := none },
  .java { method := ⟨0, 0⟩, pc := 191, locals := #[.val (.ref 0), .val (.ref 30), .val (.ref 53), .val (.ref 54), .val (.ref 55), .val (.ref 56), .val (.ref 57), .val (.ref 58), .val (.ref 59), .val (.ref 60), .val (.ref 61), .val (.int 20), .val (.int 163), .val (.int 12)], stack := [], locked := none },
  .native { method := ⟨0, 0⟩, args := #[] }]
def zr_u25 : Nat := 2040
def zr_w25 : State := stepsAlone start1.p0.tables start1.e0 871 (zr_mk zr_w24 zr_h24 zr_f24 zr_u24)
set_option maxRecDepth 16384 in
theorem zr_s25 : zr_run start1.p0.tables start1.e0 (zr_same zr_h25 zr_f25 zr_u25) 871 (zr_mk zr_w24 zr_h24 zr_f24 zr_u24) = true := by decide +kernel
end
section
def zr_h26 : List Cell := [{ cls := 2, slots := #[.ref 31, .ref 37, .ref 40, .ref 45, .ref 49], vm := .none },
  { cls := 3, slots := #[.ref 32, .ref 33, .ref 34, .ref 35, .ref 36, .int 0], vm := .none },
  { cls := 20, slots := #[.int 2, .int 2, .int 4, .int 0], vm := .none },
  { cls := 20, slots := #[.int 2, .int (-1), .int (-1), .int (-1), .int (-1), .int (-1), .int (-1), .int (-1), .int (-1), .int 1, .int (-1), .int (-1), .int (-1), .int (-1), .int (-1), .int (-1), .int (-1), .int 1, .int 0, .int 2, .int (-1), .int (-1), .int (-1), .int (-1), .int (-1), .int (-1), .int (-1), .int (-1), .int (-1), .int (-1), .int (-1), .int (-1)], vm := .none },
  { cls := 22, slots := #[.int 0, .int 0, .int 0, .int 0, .int 0, .int 0, .int 0, .int 0, .int 0, .int 0, .int 0, .int 0, .int 0, .int 0, .int 0, .int 0, .int 0, .int 0, .int 0, .int 0, .int 0, .int 0, .int 0, .int 0, .int 0, .int 0, .int 0, .int 0, .int 0, .int 0, .int 0, .int 0], vm := .none },
  { cls := 20, slots := #[.int 0, .int 0, .int 0, .int 0, .int 0, .int 0, .int 0, .int 0, .int 0, .int 2, .int 0, .int 0, .int 0, .int 0, .int 0, .int 0, .int 4, .int 0, .int 0, .int 0, .int 0, .int 0, .int 0, .int 0, .int 0, .int 0, .int 0, .int 0, .int 0, .int 0, .int 0, .int 0], vm := .none },
  { cls := 20, slots := #[.int (-1), .int (-1), .int 0, .int (-1), .int (-1), .int (-1), .int (-1), .int (-1), .int (-1), .int (-1), .int (-1), .int (-1), .int (-1), .int (-1), .int (-1), .int (-1), .int (-1), .int (-1), .int (-1), .int (-1), .int (-1), .int 47, .int (-1), .int (-1), .int (-1), .int (-1), .int (-1), .int (-1), .int (-1), .int (-1), .int (-1), .int (-1), .int (-1), .int (-1), .int (-1), .int (-1), .int (-1), .int (-1), .int (-1), .int (-1), .int (-1), .int (-1), .int (-1), .int (-1), .int (-1), .int (-1), .int (-1), .int (-1), .int (-1), .int (-1), .int (-1), .int (-1), .int (-1), .int (-1), .int (-1), .int (-1), .int (-1), .int (-1), .int (-1), .int (-1), .int (-1), .int (-1), .int (-1), .int (-1), .int (-1), .int (-1), .int (-1), .int (-1), .int (-1), .int (-1), .int (-1), .int (-1), .int (-1), .int (-1), .int (-1), .int (-1), .int (-1), .int (-1), .int (-1), .int (-1), .int (-1), .int (-1), .int (-1), .int (-1), .int (-1), .int (-1), .int (-1), .int (-1), .int (-1), .int (-1), .int (-1), .int (-1), .int (-1), .int (-1), .int (-1), .int (-1), .int (-1), .int (-1), .int (-1), .int (-1), .int (-1), .int (-1), .int (-1), .int (-1), .int (-1), .int (-1), .int (-1), .int (-1), .int (-1), .int (-1), .int (-1), .int (-1), .int (-1), .int (-1), .int (-1), .int (-1), .int (-1), .int (-1), .int (-1), .int (-1), .int (-1), .int (-1), .int (-1), .int (-1), .int (-1), .int (-1), .int (-1), .int (-1), .int (-1), .int (-1), .int (-1), .int (-1), .int (-1), .int (-1), .int (-1), .int (-1), .int (-1), .int (-1), .int (-1), .int (-1), .int (-1), .int (-1), .int (-1), .int (-1), .int (-1), .int (-1), .int (-1), .int (-1), .int (-1), .int (-1), .int (-1), .int (-1), .int (-1), .int (-1), .int (-1), .int (-1), .int (-1), .int (-1), .int (-1), .int (-1), .int (-1), .int (-1), .int 2, .int (-1), .int (-1), .int (-1), .int (-1), .int (-1), .int (-1), .int (-1), .int (-1), .int (-1), .int (-1), .int (-1), .int (-1), .int (-1), .int (-1), .int (-1), .int (-1), .int (-1), .int (-1), .int (-1), .int (-1), .int (-1), .int (-1), .int (-1), .int (-1), .int (-1), .int (-1), .int (-1), .int (-1), .int (-1), .int (-1), .int (-1), .int (-1), .int (-1), .int (-1), .int (-1), .int (-1), .int (-1), .int (-1), .int (-1), .int (-1), .int (-1), .int (-1), .int (-1), .int (-1), .int (-1), .int (-1), .int (-1), .int (-1), .int (-1), .int (-1), .int (-1), .int (-1), .int (-1), .int (-1), .int (-1), .int (-1), .int (-1), .int (-1), .int (-1), .int (-1), .int (-1), .int (-1), .int (-1), .int (-1), .int (-1), .int (-1), .int (-1), .int (-1), .int (-1), .int (-1), .int (-1), .int (-1), .int (-1), .int (-1), .int (-1), .int (-1), .int (-1), .int (-1), .int (-1), .int (-1), .int (-1), .int (-1), .int (-1), .int (-1), .int (-1), .int (-1), .int (-1), .int (-1), .int (-1), .int (-1), .int (-1), .int (-1), .int (-1), .int (-1), .int (-1), .int (-1), .int (-1), .int (-1), .int (-1), .int (-1), .int (-1), .int (-1), .int (-1), .int (-1), .int (-1), .int (-1), .int (-1), .int (-1), .int (-1), .int (-1), .int (-1), .int (-1), .int (-1), .int (-1), .int (-1), .int (-1), .int (-1), .int (-1), .int (-1), .int (-1), .int (-1), .int (-1), .int (-1), .int (-1), .int (-1), .int (-1), .int (-1), .int (-1), .int (-1), .int (-1), .int (-1), .int (-1), .int (-1), .int (-1), .int (-1), .int (-1), .int (-1), .int (-1), .int (-1), .int (-1), .int (-1), .int (-1), .int (-1), .int (-1), .int (-1), .int (-1), .int (-1), .int (-1), .int (-1), .int (-1), .int (-1), .int (-1), .int (-1), .int (-1), .int (-1), .int (-1), .int (-1), .int (-1), .int (-1), .int (-1), .int (-1), .int (-1), .int (-1), .int (-1), .int (-1), .int (-1), .int (-1), .int (-1), .int (-1), .int (-1), .int (-1), .int (-1), .int (-1), .int (-1), .int (-1), .int (-1), .int (-1), .int (-1), .int (-1), .int (-1), .int 1, .int (-1), .int (-1), .int (-1), .int (-1), .int (-1), .int (-1), .int (-1), .int (-1), .int (-1), .int (-1), .int (-1), .int (-1), .int (-1), .int (-1), .int (-1), .int (-1), .int (-1), .int (-1), .int (-1), .int (-1), .int (-1), .int (-1), .int (-1), .int (-1), .int (-1), .int (-1), .int (-1), .int (-1), .int (-1), .int (-1), .int (-1), .int (-1), .int (-1), .int (-1), .int (-1), .int (-1), .int (-1), .int (-1), .int (-1), .int (-1), .int (-1), .int (-1), .int (-1), .int (-1), .int (-1), .int (-1), .int (-1), .int (-1), .int (-1), .int (-1), .int (-1), .int (-1), .int (-1), .int (-1), .int (-1), .int (-1), .int (-1), .int (-1), .int (-1), .int (-1), .int (-1), .int (-1), .int (-1), .int (-1), .int (-1), .int (-1), .int (-1), .int (-1), .int (-1), .int (-1), .int (-1), .int (-1), .int (-1), .int (-1), .int (-1), .int (-1), .int (-1), .int (-1), .int (-1), .int (-1), .int (-1), .int (-1), .int (-1), .int (-1), .int (-1), .int (-1), .int (-1), .int (-1), .int (-1), .int (-1), .int (-1), .int (-1), .int (-1), .int (-1), .int (-1), .int (-1), .int (-1), .int (-1), .int (-1), .int (-1), .int (-1), .int (-1), .int (-1), .int (-1), .int (-1), .int (-1), .int (-1), .int (-1), .int (-1), .int (-1), .int (-1), .int (-1), .int (-1), .int (-1), .int (-1), .int (-1), .int (-1), .int (-1), .int (-1), .int (-1), .int (-1), .int (-1), .int (-1), .int (-1), .int (-1), .int (-1), .int (-1), .int (-1), .int (-1), .int (-1), .int (-1), .int (-1), .int (-1), .int (-1), .int (-1), .int (-1), .int (-1), .int (-1), .int (-1), .int (-1), .int (-1), .int (-1), .int (-1), .int (-1), .int (-1), .int (-1), .int (-1), .int (-1), .int (-1), .int (-1), .int (-1), .int (-1), .int (-1), .int (-1), .int (-1), .int (-1), .int (-1), .int (-1), .int (-1), .int (-1), .int (-1), .int (-1), .int (-1), .int (-1), .int (-1), .int (-1), .int (-1), .int (-1), .int (-1), .int (-1), .int (-1), .int (-1), .int (-1), .int (-1), .int (-1), .int (-1), .int (-1), .int (-1), .int (-1), .int (-1), .int (-1), .int (-1), .int (-1), .int (-1), .int (-1), .int (-1), .int (-1), .int (-1), .int (-1), .int (-1), .int (-1), .int (-1), .int (-1), .int (-1), .int (-1), .int (-1), .int (-1), .int (-1), .int (-1), .int (-1), .int (-1), .int (-1), .int (-1), .int (-1), .int (-1), .int (-1), .int (-1), .int (-1), .int (-1), .int (-1), .int (-1), .int (-1), .int (-1), .int (-1), .int (-1), .int (-1), .int (-1), .int (-1), .int (-1), .int (-1), .int (-1), .int (-1), .int (-1), .int (-1), .int (-1), .int (-1), .int (-1), .int (-1), .int (-1), .int (-1), .int (-1), .int (-1), .int (-1), .int (-1), .int (-1), .int (-1), .int (-1), .int (-1), .int (-1), .int (-1), .int (-1), .int (-1), .int (-1), .int (-1), .int (-1), .int (-1), .int (-1), .int (-1), .int (-1), .int (-1), .int (-1), .int (-1), .int (-1), .int (-1), .int (-1), .int (-1), .int (-1), .int (-1), .int (-1), .int (-1), .int (-1), .int (-1), .int (-1), .int (-1), .int (-1), .int (-1), .int (-1), .int (-1), .int (-1), .int (-1), .int (-1), .int (-1), .int (-1), .int (-1), .int (-1), .int (-1), .int (-1), .int (-1), .int (-1), .int (-1), .int (-1), .int (-1), .int (-1), .int (-1), .int (-1), .int (-1), .int (-1), .int (-1), .int (-1), .int (-1), .int (-1), .int (-1), .int (-1), .int (-1), .int (-1), .int (-1)], vm := .none },
  { cls := 5, slots := #[.ref 38, .ref 39, .int 0, .int 0], vm := .none },
  { cls := 20, slots := #[.int 0, .int 0, .int 0, .int 0, .int 0, .int 0, .int 0, .int 0, .int 0, .int 0, .int 0, .int 0], vm := .none },
  { cls := 20, slots := #[.int 0, .int 0, .int 0, .int 0, .int 0, .int 0, .int 0, .int 0, .int 0, .int 0, .int 0, .int 0], vm := .none },
  { cls := 6, slots := #[.ref 31, .ref 37, .ref 41, .ref 42, .ref 43, .ref 44, .int 0, .int 0, .int 0, .int 1], vm := .none },
  { cls := 20, slots := #[.int 0, .int 0, .int 0, .int 0, .int 0, .int 0, .int 0, .int 0, .int 0, .int 0, .int 0, .int 0], vm := .none },
  { cls := 20, slots := #[.int 0, .int 0, .int 0, .int 0, .int 0, .int 0, .int 0, .int 0, .int 0, .int 0, .int 0, .int 0], vm := .none },
  { cls := 20, slots := #[.int 0, .int 0, .int 0, .int 0, .int 0, .int 0, .int 0, .int 0, .int 0, .int 0, .int 0, .int 0, .int 0, .int 0, .int 0, .int 0, .int 0, .int 0, .int 0, .int 0, .int 0, .int 0, .int 0, .int 0, .int 0, .int 0, .int 0, .int 0, .int 0, .int 0, .int 0, .int 0, .int 0, .int 0, .int 0, .int 0, .int 0, .int 0, .int 0, .int 0, .int 0, .int 0, .int 0, .int 0, .int 0, .int 0, .int 0, .int 0], vm := .none },
  { cls := 20, slots := #[.int 0, .int 0, .int 0, .int 0, .int 0, .int 0, .int 0, .int 0, .int 0, .int 0, .int 0, .int 0], vm := .none },
  { cls := 7, slots := #[.ref 31, .ref 37, .ref 40, .ref 46, .ref 47, .ref 48, .int 0], vm := .none },
  { cls := 20, slots := #[.int 0, .int 0, .int 0, .int 0, .int 0, .int 0, .int 0, .int 0, .int 0, .int 0, .int 0, .int 0], vm := .none },
  { cls := 20, slots := #[.int 0, .int 0, .int 0, .int 0, .int 0, .int 0, .int 0, .int 0, .int 0, .int 0, .int 0, .int 0], vm := .none },
  { cls := 22, slots := #[.int 0, .int 0, .int 0, .int 0, .int 0, .int 0, .int 0, .int 0, .int 0, .int 0, .int 0, .int 0], vm := .none },
  { cls := 7, slots := #[.ref 31, .ref 37, .ref 40, .ref 50, .ref 51, .ref 52, .int 0], vm := .none },
  { cls := 20, slots := #[.int 0, .int 0, .int 0, .int 0, .int 0, .int 0, .int 0, .int 0, .int 0, .int 0, .int 0, .int 0], vm := .none },
  { cls := 20, slots := #[.int 0, .int 0, .int 0, .int 0, .int 0, .int 0, .int 0, .int 0, .int 0, .int 0, .int 0, .int 0], vm := .none },
  { cls := 22, slots := #[.int 0, .int 0, .int 0, .int 0, .int 0, .int 0, .int 0, .int 0, .int 0, .int 0, .int 0, .int 0], vm := .none },
  { cls := 20, slots := #[.int 3, .int 0, .int 0, .int 0, .int 0, .int 34, .int 0, .int 0, .int 64, .int 2, .int 1, .int 3], vm := .none },
  { cls := 20, slots := #[.int 0, .int 0, .int 0, .int 0, .int 0, .int 48, .int 0, .int 0, .int 1, .int 0, .int 0, .int 0, .int 0, .int 0, .int 0, .int 0, .int 0, .int 0, .int 0, .int 0, .int 0, .int 0, .int 0, .int 0, .int 0, .int 0, .int 0, .int 0, .int 3, .int 0, .int 0, .int 0, .int 0, .int 0, .int 0, .int 0, .int 0, .int 0, .int 0, .int 0, .int 0, .int 0, .int 0, .int 0, .int 0, .int 0, .int 0, .int 0, .int 0, .int 0, .int 0, .int 0, .int 0, .int 2, .int 0, .int 0, .int 0, .int 0, .int 0, .int 0], vm := .none },
  { cls := 20, slots := #[.int 0, .int 0, .int 0, .int 0, .int 0, .int 0], vm := .none },
  { cls := 20, slots := #[.int 0, .int 0, .int 0, .int 0, .int 0, .int 0], vm := .none },
  { cls := 20, slots := #[.int 0, .int 0, .int 0, .int 0, .int 0, .int 0], vm := .none },
  { cls := 20, slots := #[.int 0, .int 0, .int 0, .int 0, .int 0, .int 0], vm := .none },
  { cls := 20, slots := #[.int 0, .int 0, .int 0, .int 0, .int 0, .int 0], vm := .none },
  { cls := 20, slots := #[.int 0, .int 0, .int 0, .int 0, .int 0, .int 0], vm := .none },
  { cls := 20, slots := #[.int 2, .int 2, .int 4, .int 0, .int 0, .int 0, .int 0, .int 0], vm := .none },
  { cls := 15, slots := #[.null, .ref 16, .ref 62, .null, .int 0, .null], vm := .none },
  { cls := 15, slots := #[.null, .ref 16, .ref 63, .null, .int 0, .null], vm := .none },
  { cls := 17, slots := #[.null, .ref 12, .ref 64, .null, .int 0, .null], vm := .none },
  { cls := 15, slots := #[.null, .ref 16, .ref 65, .null, .int 0, .null], vm := .none },
  { cls := 15, slots := #[.null, .ref 16, .ref 66, .null, .int 0, .null], vm := .none },
  { cls := 15, slots := #[.null, .ref 16, .ref 67, .null, .int 0, .null], vm := .none },
  { cls := 17, slots := #[.null, .ref 12, .ref 68, .null, .int 0, .null], vm := .none },
  { cls := 17, slots := #[.null, .ref 12, .ref 69, .null, .int 0, .null], vm := .none },
  { cls := 17, slots := #[.null, .ref 26, .ref 70, .null, .int 0, .null], vm := .none },
  { cls := 17, slots := #[.null, .ref 12, .ref 71, .null, .int 0, .null], vm := .none },
  { cls := 15, slots := #[.null, .ref 16, .ref 72, .null, .int 0, .null], vm := .none },
  { cls := 17, slots := #[.null, .ref 2, .ref 73, .null, .int 0, .null], vm := .none },
  { cls := 17, slots := #[.null, .ref 2, .ref 74, .null, .int 0, .null], vm := .none },
  { cls := 17, slots := #[.null, .ref 4, .ref 75, .null, .int 0, .null], vm := .none },
  { cls := 17, slots := #[.null, .ref 4, .ref 76, .null, .int 0, .null], vm := .none },
  { cls := 17, slots := #[.null, .ref 2, .ref 77, .null, .int 0, .null], vm := .none },
  { cls := 17, slots := #[.null, .ref 2, .ref 78, .null, .int 0, .null], vm := .none },
  { cls := 17, slots := #[.null, .ref 4, .ref 79, .null, .int 0, .null], vm := .none },
  { cls := 17, slots := #[.null, .ref 4, .ref 80, .null, .int 0, .null], vm := .none },
  { cls := 17, slots := #[.null, .ref 2, .ref 81, .null, .int 0, .null], vm := .none },
  { cls := 17, slots := #[.null, .ref 2, .ref 82, .null, .int 0, .null], vm := .none },
  { cls := 17, slots := #[.null, .ref 4, .ref 83, .null, .int 0, .null], vm := .none },
  { cls := 17, slots := #[.null, .ref 4, .ref 84, .null, .int 0, .null], vm := .none },
  { cls := 17, slots := #[.null, .ref 2, .ref 85, .null, .int 0, .null], vm := .none },
  { cls := 17, slots := #[.null, .ref 2, .ref 86, .null, .int 0, .null], vm := .none },
  { cls := 17, slots := #[.null, .ref 4, .ref 87, .null, .int 0, .null], vm := .none },
  { cls := 17, slots := #[.null, .ref 4, .ref 88, .null, .int 0, .null], vm := .none },
  { cls := 17, slots := #[.null, .ref 2, .ref 89, .null, .int 0, .null], vm := .none },
  { cls := 17, slots := #[.null, .ref 2, .ref 90, .null, .int 0, .null], vm := .none },
  { cls := 17, slots := #[.null, .ref 4, .ref 91, .null, .int 0, .null], vm := .none },
  { cls := 17, slots := #[.null, .ref 4, .ref 92, .null, .int 0, .null], vm := .none },
  { cls := 17, slots := #[.null, .ref 2, .ref 93, .null, .int 0, .null], vm := .none },
  { cls := 17, slots := #[.null, .ref 2, .ref 94, .null, .int 0, .null], vm := .none },
  { cls := 17, slots := #[.null, .ref 4, .ref 95, .null, .int 0, .null], vm := .none },
  { cls := 17, slots := #[.null, .ref 4, .ref 96, .null, .int 0, .null], vm := .none },
  { cls := 17, slots := #[.null, .ref 2, .ref 97, .null, .int 0, .null], vm := .none },
  { cls := 17, slots := #[.null, .ref 2, .ref 98, .null, .int 0, .null], vm := .none },
  { cls := 17, slots := #[.null, .ref 4, .ref 99, .null, .int 0, .null], vm := .none },
  { cls := 17, slots := #[.null, .ref 4, .ref 100, .null, .int 0, .null], vm := .none },
  { cls := 17, slots := #[.null, .ref 2, .ref 101, .null, .int 0, .null], vm := .none },
  { cls := 17, slots := #[.null, .ref 2, .ref 102, .null, .int 0, .null], vm := .none },
  { cls := 17, slots := #[.null, .ref 4, .ref 103, .null, .int 0, .null], vm := .none },
  { cls := 17, slots := #[.null, .ref 4, .ref 104, .null, .int 0, .null], vm := .none },
  { cls := 15, slots := #[.null, .ref 10, .ref 105, .null, .int 0, .null], vm := .none },
  { cls := 17, slots := #[.null, .ref 8, .ref 106, .null, .int 0, .null], vm := .none },
  { cls := 17, slots := #[.null, .ref 2, .ref 107, .null, .int 0, .null], vm := .none },
  { cls := 15, slots := #[.null, .ref 10, .ref 108, .null, .int 0, .null], vm := .none },
  { cls := 17, slots := #[.null, .ref 12, .ref 109, .null, .int 0, .null], vm := .none },
  { cls := 17, slots := #[.null, .ref 14, .ref 110, .null, .int 0, .null], vm := .none },
  { cls := 17, slots := #[.null, .ref 14, .ref 111, .null, .int 0, .null], vm := .none },
  { cls := 17, slots := #[.null, .ref 12, .ref 112, .null, .int 0, .null], vm := .none },
  { cls := 17, slots := #[.null, .ref 2, .ref 113, .null, .int 0, .null], vm := .none },
  { cls := 17, slots := #[.null, .ref 14, .ref 114, .null, .int 0, .null], vm := .none },
  { cls := 17, slots := #[.null, .ref 14, .ref 115, .null, .int 0, .null], vm := .none },
  { cls := 17, slots := #[.null, .ref 12, .ref 116, .null, .int 0, .null], vm := .none },
  { cls := 17, slots := #[.null, .ref 2, .ref 117, .null, .int 0, .null], vm := .none },
  { cls := 17, slots := #[.null, .ref 14, .ref 118, .null, .int 0, .null], vm := .none },
  { cls := 17, slots := #[.null, .ref 14, .ref 119, .null, .int 0, .null], vm := .none },
  { cls := 17, slots := #[.null, .ref 12, .ref 120, .null, .int 0, .null], vm := .none },
  { cls := 17, slots := #[.null, .ref 2, .ref 121, .null, .int 0, .null], vm := .none },
  { cls := 15, slots := #[.null, .ref 10, .ref 122, .null, .int 0, .null], vm := .none },
  { cls := 17, slots := #[.null, .ref 8, .ref 123, .null, .int 0, .null], vm := .none },
  { cls := 17, slots := #[.null, .ref 8, .ref 124, .null, .int 0, .null], vm := .none },
  { cls := 15, slots := #[.null, .ref 10, .ref 125, .null, .int 0, .null], vm := .none },
  { cls := 17, slots := #[.null, .ref 8, .ref 126, .null, .int 0, .null], vm := .none },
  { cls := 17, slots := #[.null, .ref 8, .ref 127, .null, .int 0, .null], vm := .none },
  { cls := 17, slots := #[.null, .ref 14, .ref 128, .null, .int 0, .null], vm := .none },
  { cls := 17, slots := #[.null, .ref 14, .ref 129, .null, .int 0, .null], vm := .none },
  { cls := 17, slots := #[.null, .ref 12, .ref 130, .null, .int 0, .null], vm := .none },
  { cls := 17, slots := #[.null, .ref 2, .ref 131, .null, .int 0, .null], vm := .none },
  { cls := 17, slots := #[.null, .ref 14, .ref 132, .null, .int 0, .null], vm := .none },
  { cls := 17, slots := #[.null, .ref 14, .ref 133, .null, .int 0, .null], vm := .none },
  { cls := 17, slots := #[.null, .ref 12, .ref 134, .null, .int 0, .null], vm := .none },
  { cls := 17, slots := #[.null, .ref 2, .ref 135, .null, .int 0, .null], vm := .none }]
def zr_f26 : List Frame := [.java { method := ⟨2, 21⟩, pc := 4, locals := #[.val (.int 1)], stack := [], locked := none },
  .java { method := ⟨3, 3⟩, pc := 1, locals := #[.val (.ref 31), .val (.int 1)], stack := [], locked := none },
  .java { method := ⟨3, 7⟩, pc := 2, locals := #[.val (.ref 31), .val (.int 1), .val (.int 100), .unset], stack := [], locked := none },
  .java { method := ⟨2, 3⟩, pc := 29, locals := #[.val (.ref 30), .val (.int 0), .val (.int 3), .val (.int 1), .val (.int 100), .val (.int 1)], stack := [], locked := none },
  .java { method := ⟨0, 5⟩, pc := 6, locals := #[.val (.ref 30), .val (.int 0), .val (.int 3), .val (.int 1), .val (.int 100), .unset, .unset], stack := [], locked := none },
  .java { method := ⟨0, 23⟩, pc := 595, locals := #[.val (.ref 30), .val (.int 12), .val (.int 60), .val (.int 97), .val (.ref 53), .val (.ref 54), .val (.ref 55), .val (.ref 61), .val (.int 0), .val (.int 1), .val (.int 3), .val (.int 13), .val (.int 1), .val (.int (-1)), .val (.int (-1))], stack := [], locked := none },
  .java { method := ⟨0, 0⟩, pc := 191, locals := #[.val (.ref 0), .val (.ref 30), .val (.ref 53), .val (.ref 54), .val (.ref 55), .val (.ref 56), .val (.ref 57), .val (.ref 58), .val (.ref 59), .val (.ref 60), .val (.ref 61), .val (.int 21), .val (.int 23), .val (.int 12)], stack := [], locked := none },
  .native { method := ⟨0, 0⟩, args := #[] }]
def zr_u26 : Nat := 2064
def zr_w26 : State := stepsAlone start1.p0.tables start1.e0 861 (zr_mk zr_w25 zr_h25 zr_f25 zr_u25)
set_option maxRecDepth 16384 in
theorem zr_s26 : zr_run start1.p0.tables start1.e0 (zr_same zr_h26 zr_f26 zr_u26) 861 (zr_mk zr_w25 zr_h25 zr_f25 zr_u25) = true := by decide +kernel
end
section
def zr_h27 : List Cell := [{ cls := 2, slots := #[.ref 31, .ref 37, .ref 40, .ref 45, .ref 49], vm := .none },
  { cls := 3, slots := #[.ref 32, .ref 33, .ref 34, .ref 35, .ref 36, .int 0], vm := .none },
  { cls := 20, slots := #[.int 2, .int 2, .int 4, .int 0], vm := .none },
  { cls := 20, slots := #[.int 2, .int (-1), .int (-1), .int (-1), .int (-1), .int (-1), .int (-1), .int (-1), .int (-1), .int 1, .int (-1), .int (-1), .int (-1), .int (-1), .int (-1), .int (-1), .int (-1), .int 1, .int 0, .int 2, .int (-1), .int (-1), .int (-1), .int (-1), .int (-1), .int (-1), .int (-1), .int (-1), .int (-1), .int (-1), .int (-1), .int (-1)], vm := .none },
  { cls := 22, slots := #[.int 0, .int 0, .int 0, .int 0, .int 0, .int 0, .int 0, .int 0, .int 0, .int 0, .int 0, .int 0, .int 0, .int 0, .int 0, .int 0, .int 0, .int 0, .int 0, .int 0, .int 0, .int 0, .int 0, .int 0, .int 0, .int 0, .int 0, .int 0, .int 0, .int 0, .int 0, .int 0], vm := .none },
  { cls := 20, slots := #[.int 0, .int 0, .int 0, .int 0, .int 0, .int 0, .int 0, .int 0, .int 0, .int 2, .int 0, .int 0, .int 0, .int 0, .int 0, .int 0, .int 4, .int 0, .int 0, .int 0, .int 0, .int 0, .int 0, .int 0, .int 0, .int 0, .int 0, .int 0, .int 0, .int 0, .int 0, .int 0], vm := .none },
  { cls := 20, slots := #[.int (-1), .int (-1), .int 0, .int (-1), .int (-1), .int (-1), .int (-1), .int (-1), .int (-1), .int (-1), .int (-1), .int (-1), .int (-1), .int (-1), .int (-1), .int (-1), .int (-1), .int (-1), .int (-1), .int (-1), .int (-1), .int 47, .int (-1), .int (-1), .int (-1), .int (-1), .int (-1), .int (-1), .int (-1), .int (-1), .int (-1), .int (-1), .int (-1), .int (-1), .int (-1), .int (-1), .int (-1), .int (-1), .int (-1), .int (-1), .int (-1), .int (-1), .int (-1), .int (-1), .int (-1), .int (-1), .int (-1), .int (-1), .int (-1), .int (-1), .int (-1), .int (-1), .int (-1), .int (-1), .int (-1), .int (-1), .int (-1), .int (-1), .int (-1), .int (-1), .int (-1), .int (-1), .int (-1), .int (-1), .int (-1), .int (-1), .int (-1), .int (-1), .int (-1), .int (-1), .int (-1), .int (-1), .int (-1), .int (-1), .int (-1), .int (-1), .int (-1), .int (-1), .int (-1), .int (-1), .int (-1), .int (-1), .int (-1), .int (-1), .int (-1), .int (-1), .int (-1), .int (-1), .int (-1), .int (-1), .int (-1), .int (-1), .int (-1), .int (-1), .int (-1), .int (-1), .int (-1), .int (-1), .int (-1), .int (-1), .int (-1), .int (-1), .int (-1), .int (-1), .int (-1), .int (-1), .int (-1), .int (-1), .int (-1), .int (-1), .int (-1), .int (-1), .int (-1), .int (-1), .int (-1), .int (-1), .int (-1), .int (-1), .int (-1), .int (-1), .int (-1), .int (-1), .int (-1), .int (-1), .int (-1), .int (-1), .int (-1), .int (-1), .int (-1), .int (-1), .int (-1), .int (-1), .int (-1), .int (-1), .int (-1), .int (-1), .int (-1), .int (-1), .int (-1), .int (-1), .int (-1), .int (-1), .int (-1), .int (-1), .int (-1), .int (-1), .int (-1), .int (-1), .int (-1), .int (-1), .int (-1), .int (-1), .int (-1), .int (-1), .int (-1), .int (-1), .int (-1), .int (-1), .int (-1), .int (-1), .int (-1), .int (-1), .int 2, .int (-1), .int (-1), .int (-1), .int (-1), .int (-1), .int (-1), .int (-1), .int (-1), .int (-1), .int (-1), .int (-1), .int (-1), .int (-1), .int (-1), .int (-1), .int (-1), .int (-1), .int (-1), .int (-1), .int (-1), .int (-1), .int (-1), .int (-1), .int (-1), .int (-1), .int (-1), .int (-1), .int (-1), .int (-1), .int (-1), .int (-1), .int (-1), .int (-1), .int (-1), .int (-1), .int (-1), .int (-1), .int (-1), .int (-1), .int (-1), .int (-1), .int (-1), .int (-1), .int (-1), .int (-1), .int (-1), .int (-1), .int (-1), .int (-1), .int (-1), .int (-1), .int (-1), .int (-1), .int (-1), .int (-1), .int (-1), .int (-1), .int (-1), .int (-1), .int (-1), .int (-1), .int (-1), .int (-1), .int (-1), .int (-1), .int (-1), .int (-1), .int (-1), .int (-1), .int (-1), .int (-1), .int (-1), .int (-1), .int (-1), .int (-1), .int (-1), .int (-1), .int (-1), .int (-1), .int (-1), .int (-1), .int (-1), .int (-1), .int (-1), .int (-1), .int (-1), .int (-1), .int (-1), .int (-1), .int (-1), .int (-1), .int (-1), .int (-1), .int (-1), .int (-1), .int (-1), .int (-1), .int (-1), .int (-1), .int (-1), .int (-1), .int (-1), .int (-1), .int (-1), .int (-1), .int (-1), .int (-1), .int (-1), .int (-1), .int (-1), .int (-1), .int (-1), .int (-1), .int (-1), .int (-1), .int (-1), .int (-1), .int (-1), .int (-1), .int (-1), .int (-1), .int (-1), .int (-1), .int (-1), .int (-1), .int (-1), .int (-1), .int (-1), .int (-1), .int (-1), .int (-1), .int (-1), .int (-1), .int (-1), .int (-1), .int (-1), .int (-1), .int (-1), .int (-1), .int (-1), .int (-1), .int (-1), .int (-1), .int (-1), .int (-1), .int (-1), .int (-1), .int (-1), .int (-1), .int (-1), .int (-1), .int (-1), .int (-1), .int (-1), .int (-1), .int (-1), .int (-1), .int (-1), .int (-1), .int (-1), .int (-1), .int (-1), .int (-1), .int (-1), .int (-1), .int (-1), .int (-1), .int (-1), .int (-1), .int (-1), .int (-1), .int (-1), .int (-1), .int (-1), .int (-1), .int (-1), .int (-1), .int (-1), .int (-1), .int (-1), .int 1, .int (-1), .int (-1), .int (-1), .int (-1), .int (-1), .int (-1), .int (-1), .int (-1), .int (-1), .int (-1), .int (-1), .int (-1), .int (-1), .int (-1), .int (-1), .int (-1), .int (-1), .int (-1), .int (-1), .int (-1), .int (-1), .int (-1), .int (-1), .int (-1), .int (-1), .int (-1), .int (-1), .int (-1), .int (-1), .int (-1), .int (-1), .int (-1), .int (-1), .int (-1), .int (-1), .int (-1), .int (-1), .int (-1), .int (-1), .int (-1), .int (-1), .int (-1), .int (-1), .int (-1), .int (-1), .int (-1), .int (-1), .int (-1), .int (-1), .int (-1), .int (-1), .int (-1), .int (-1), .int (-1), .int (-1), .int (-1), .int (-1), .int (-1), .int (-1), .int (-1), .int (-1), .int (-1), .int (-1), .int (-1), .int (-1), .int (-1), .int (-1), .int (-1), .int (-1), .int (-1), .int (-1), .int (-1), .int (-1), .int (-1), .int (-1), .int (-1), .int (-1), .int (-1), .int (-1), .int (-1), .int (-1), .int (-1), .int (-1), .int (-1), .int (-1), .int (-1), .int (-1), .int (-1), .int (-1), .int (-1), .int (-1), .int (-1), .int (-1), .int (-1), .int (-1), .int (-1), .int (-1), .int (-1), .int (-1), .int (-1), .int (-1), .int (-1), .int (-1), .int (-1), .int (-1), .int (-1), .int (-1), .int (-1), .int (-1), .int (-1), .int (-1), .int (-1), .int (-1), .int (-1), .int (-1), .int (-1), .int (-1), .int (-1), .int (-1), .int (-1), .int (-1), .int (-1), .int (-1), .int (-1), .int (-1), .int (-1), .int (-1), .int (-1), .int (-1), .int (-1), .int (-1), .int (-1), .int (-1), .int (-1), .int (-1), .int (-1), .int (-1), .int (-1), .int (-1), .int (-1), .int (-1), .int (-1), .int (-1), .int (-1), .int (-1), .int (-1), .int (-1), .int (-1), .int (-1), .int (-1), .int (-1), .int (-1), .int (-1), .int (-1), .int (-1), .int (-1), .int (-1), .int (-1), .int (-1), .int (-1), .int (-1), .int (-1), .int (-1), .int (-1), .int (-1), .int (-1), .int (-1), .int (-1), .int (-1), .int (-1), .int (-1), .int (-1), .int (-1), .int (-1), .int (-1), .int (-1), .int (-1), .int (-1), .int (-1), .int (-1), .int (-1), .int (-1), .int (-1), .int (-1), .int (-1), .int (-1), .int (-1), .int (-1), .int (-1), .int (-1), .int (-1), .int (-1), .int (-1), .int (-1), .int (-1), .int (-1), .int (-1), .int (-1), .int (-1), .int (-1), .int (-1), .int (-1), .int (-1), .int (-1), .int (-1), .int (-1), .int (-1), .int (-1), .int (-1), .int (-1), .int (-1), .int (-1), .int (-1), .int (-1), .int (-1), .int (-1), .int (-1), .int (-1), .int (-1), .int (-1), .int (-1), .int (-1), .int (-1), .int (-1), .int (-1), .int (-1), .int (-1), .int (-1), .int (-1), .int (-1), .int (-1), .int (-1), .int (-1), .int (-1), .int (-1), .int (-1), .int (-1), .int (-1), .int (-1), .int (-1), .int (-1), .int (-1), .int (-1), .int (-1), .int (-1), .int (-1), .int (-1), .int (-1), .int (-1), .int (-1), .int (-1), .int (-1), .int (-1), .int (-1), .int (-1), .int (-1), .int (-1), .int (-1), .int (-1), .int (-1), .int (-1), .int (-1), .int (-1), .int (-1), .int (-1), .int (-1), .int (-1), .int (-1), .int (-1), .int (-1), .int (-1), .int (-1), .int (-1), .int (-1), .int (-1), .int (-1), .int (-1), .int (-1), .int (-1), .int (-1), .int (-1), .int (-1), .int (-1), .int (-1), .int (-1), .int (-1), .int (-1), .int (-1), .int (-1), .int (-1), .int (-1), .int (-1), .int (-1), .int (-1), .int (-1), .int (-1)], vm := .none },
  { cls := 5, slots := #[.ref 38, .ref 39, .int 0, .int 0], vm := .none },
  { cls := 20, slots := #[.int 0, .int 0, .int 0, .int 0, .int 0, .int 0, .int 0, .int 0, .int 0, .int 0, .int 0, .int 0], vm := .none },
  { cls := 20, slots := #[.int 0, .int 0, .int 0, .int 0, .int 0, .int 0, .int 0, .int 0, .int 0, .int 0, .int 0, .int 0], vm := .none },
  { cls := 6, slots := #[.ref 31, .ref 37, .ref 41, .ref 42, .ref 43, .ref 44, .int 0, .int 0, .int 0, .int 1], vm := .none },
  { cls := 20, slots := #[.int 0, .int 0, .int 0, .int 0, .int 0, .int 0, .int 0, .int 0, .int 0, .int 0, .int 0, .int 0], vm := .none },
  { cls := 20, slots := #[.int 0, .int 0, .int 0, .int 0, .int 0, .int 0, .int 0, .int 0, .int 0, .int 0, .int 0, .int 0], vm := .none },
  { cls := 20, slots := #[.int 0, .int 0, .int 0, .int 0, .int 0, .int 0, .int 0, .int 0, .int 0, .int 0, .int 0, .int 0, .int 0, .int 0, .int 0, .int 0, .int 0, .int 0, .int 0, .int 0, .int 0, .int 0, .int 0, .int 0, .int 0, .int 0, .int 0, .int 0, .int 0, .int 0, .int 0, .int 0, .int 0, .int 0, .int 0, .int 0, .int 0, .int 0, .int 0, .int 0, .int 0, .int 0, .int 0, .int 0, .int 0, .int 0, .int 0, .int 0], vm := .none },
  { cls := 20, slots := #[.int 0, .int 0, .int 0, .int 0, .int 0, .int 0, .int 0, .int 0, .int 0, .int 0, .int 0, .int 0], vm := .none },
  { cls := 7, slots := #[.ref 31, .ref 37, .ref 40, .ref 46, .ref 47, .ref 48, .int 0], vm := .none },
  { cls := 20, slots := #[.int 0, .int 0, .int 0, .int 0, .int 0, .int 0, .int 0, .int 0, .int 0, .int 0, .int 0, .int 0], vm := .none },
  { cls := 20, slots := #[.int 0, .int 0, .int 0, .int 0, .int 0, .int 0, .int 0, .int 0, .int 0, .int 0, .int 0, .int 0], vm := .none },
  { cls := 22, slots := #[.int 0, .int 0, .int 0, .int 0, .int 0, .int 0, .int 0, .int 0, .int 0, .int 0, .int 0, .int 0], vm := .none },
  { cls := 7, slots := #[.ref 31, .ref 37, .ref 40, .ref 50, .ref 51, .ref 52, .int 0], vm := .none },
  { cls := 20, slots := #[.int 0, .int 0, .int 0, .int 0, .int 0, .int 0, .int 0, .int 0, .int 0, .int 0, .int 0, .int 0], vm := .none },
  { cls := 20, slots := #[.int 0, .int 0, .int 0, .int 0, .int 0, .int 0, .int 0, .int 0, .int 0, .int 0, .int 0, .int 0], vm := .none },
  { cls := 22, slots := #[.int 0, .int 0, .int 0, .int 0, .int 0, .int 0, .int 0, .int 0, .int 0, .int 0, .int 0, .int 0], vm := .none },
  { cls := 20, slots := #[.int 3, .int 0, .int 0, .int 0, .int 0, .int 34, .int 0, .int 0, .int 64, .int 2, .int 1, .int 3], vm := .none },
  { cls := 20, slots := #[.int 0, .int 0, .int 0, .int 0, .int 0, .int 48, .int 0, .int 0, .int 1, .int 0, .int 0, .int 0, .int 0, .int 0, .int 0, .int 0, .int 0, .int 0, .int 0, .int 0, .int 0, .int 0, .int 0, .int 0, .int 0, .int 0, .int 0, .int 0, .int 3, .int 0, .int 0, .int 0, .int 0, .int 0, .int 0, .int 0, .int 0, .int 0, .int 0, .int 0, .int 0, .int 0, .int 0, .int 0, .int 0, .int 0, .int 0, .int 0, .int 0, .int 0, .int 0, .int 0, .int 0, .int 2, .int 0, .int 0, .int 0, .int 0, .int 0, .int 0], vm := .none },
  { cls := 20, slots := #[.int 0, .int 0, .int 0, .int 0, .int 0, .int 0], vm := .none },
  { cls := 20, slots := #[.int 0, .int 0, .int 0, .int 0, .int 0, .int 0], vm := .none },
  { cls := 20, slots := #[.int 0, .int 0, .int 0, .int 0, .int 0, .int 0], vm := .none },
  { cls := 20, slots := #[.int 0, .int 0, .int 0, .int 0, .int 0, .int 0], vm := .none },
  { cls := 20, slots := #[.int 0, .int 0, .int 0, .int 0, .int 0, .int 0], vm := .none },
  { cls := 20, slots := #[.int 0, .int 0, .int 0, .int 0, .int 0, .int 0], vm := .none },
  { cls := 20, slots := #[.int 2, .int 2, .int 4, .int 0, .int 0, .int 0, .int 0, .int 0], vm := .none },
  { cls := 15, slots := #[.null, .ref 16, .ref 62, .null, .int 0, .null], vm := .none },
  { cls := 15, slots := #[.null, .ref 16, .ref 63, .null, .int 0, .null], vm := .none },
  { cls := 17, slots := #[.null, .ref 12, .ref 64, .null, .int 0, .null], vm := .none },
  { cls := 15, slots := #[.null, .ref 16, .ref 65, .null, .int 0, .null], vm := .none },
  { cls := 15, slots := #[.null, .ref 16, .ref 66, .null, .int 0, .null], vm := .none },
  { cls := 15, slots := #[.null, .ref 16, .ref 67, .null, .int 0, .null], vm := .none },
  { cls := 17, slots := #[.null, .ref 12, .ref 68, .null, .int 0, .null], vm := .none },
  { cls := 17, slots := #[.null, .ref 12, .ref 69, .null, .int 0, .null], vm := .none },
  { cls := 17, slots := #[.null, .ref 26, .ref 70, .null, .int 0, .null], vm := .none },
  { cls := 17, slots := #[.null, .ref 12, .ref 71, .null, .int 0, .null], vm := .none },
  { cls := 15, slots := #[.null, .ref 16, .ref 72, .null, .int 0, .null], vm := .none },
  { cls := 17, slots := #[.null, .ref 2, .ref 73, .null, .int 0, .null], vm := .none },
  { cls := 17, slots := #[.null, .ref 2, .ref 74, .null, .int 0, .null], vm := .none },
  { cls := 17, slots := #[.null, .ref 4, .ref 75, .null, .int 0, .null], vm := .none },
  { cls := 17, slots := #[.null, .ref 4, .ref 76, .null, .int 0, .null], vm := .none },
  { cls := 17, slots := #[.null, .ref 2, .ref 77, .null, .int 0, .null], vm := .none },
  { cls := 17, slots := #[.null, .ref 2, .ref 78, .null, .int 0, .null], vm := .none },
  { cls := 17, slots := #[.null, .ref 4, .ref 79, .null, .int 0, .null], vm := .none },
  { cls := 17, slots := #[.null, .ref 4, .ref 80, .null, .int 0, .null], vm := .none },
  { cls := 17, slots := #[.null, .ref 2, .ref 81, .null, .int 0, .null], vm := .none },
  { cls := 17, slots := #[.null, .ref 2, .ref 82, .null, .int 0, .null], vm := .none },
  { cls := 17, slots := #[.null, .ref 4, .ref 83, .null, .int 0, .null], vm := .none },
  { cls := 17, slots := #[.null, .ref 4, .ref 84, .null, .int 0, .null], vm := .none },
  { cls := 17, slots := #[.null, .ref 2, .ref 85, .null, .int 0, .null], vm := .none },
  { cls := 17, slots := #[.null, .ref 2, .ref 86, .null, .int 0, .null], vm := .none },
  { cls := 17, slots := #[.null, .ref 4, .ref 87, .null, .int 0, .null], vm := .none },
  { cls := 17, slots := #[.null, .ref 4, .ref 88, .null, .int 0, .null], vm := .none },
  { cls := 17, slots := #[.null, .ref 2, .ref 89, .null, .int 0, .null], vm := .none },
  { cls := 17, slots := #[.null, .ref 2, .ref 90, .null, .int 0, .null], vm := .none },
  { cls := 17, slots := #[.null, .ref 4, .ref 91, .null, .int 0, .null], vm := .none },
  { cls := 17, slots := #[.null, .ref 4, .ref 92, .null, .int 0, .null], vm := .none },
  { cls := 17, slots := #[.null, .ref 2, .ref 93, .null, .int 0, .null], vm := .none },
  { cls := 17, slots := #[.null, .ref 2, .ref 94, .null, .int 0, .null], vm := .none },
  { cls := 17, slots := #[.null, .ref 4, .ref 95, .null, .int 0, .null], vm := .none },
  { cls := 17, slots := #[.null, .ref 4, .ref 96, .null, .int 0, .null], vm := .none },
  { cls := 17, slots := #[.null, .ref 2, .ref 97, .null, .int 0, .null], vm := .none },
  { cls := 17, slots := #[.null, .ref 2, .ref 98, .null, .int 0, .null], vm := .none },
  { cls := 17, slots := #[.null, .ref 4, .ref 99, .null, .int 0, .null], vm := .none },
  { cls := 17, slots := #[.null, .ref 4, .ref 100, .null, .int 0, .null], vm := .none },
  { cls := 17, slots := #[.null, .ref 2, .ref 101, .null, .int 0, .null], vm := .none },
  { cls := 17, slots := #[.null, .ref 2, .ref 102, .null, .int 0, .null], vm := .none },
  { cls := 17, slots := #[.null, .ref 4, .ref 103, .null, .int 0, .null], vm := .none },
  { cls := 17, slots := #[.null, .ref 4, .ref 104, .null, .int 0, .null], vm := .none },
  { cls := 15, slots := #[.null, .ref 10, .ref 105, .null, .int 0, .null], vm := .none },
  { cls := 17, slots := #[.null, .ref 8, .ref 106, .null, .int 0, .null], vm := .none },
  { cls := 17, slots := #[.null, .ref 2, .ref 107, .null, .int 0, .null], vm := .none },
  { cls := 15, slots := #[.null, .ref 10, .ref 108, .null, .int 0, .null], vm := .none },
  { cls := 17, slots := #[.null, .ref 12, .ref 109, .null, .int 0, .null], vm := .none },
  { cls := 17, slots := #[.null, .ref 14, .ref 110, .null, .int 0, .null], vm := .none },
  { cls := 17, slots := #[.null, .ref 14, .ref 111, .null, .int 0, .null], vm := .none },
  { cls := 17, slots := #[.null, .ref 12, .ref 112, .null, .int 0, .null], vm := .none },
  { cls := 17, slots := #[.null, .ref 2, .ref 113, .null, .int 0, .null], vm := .none },
  { cls := 17, slots := #[.null, .ref 14, .ref 114, .null, .int 0, .null], vm := .none },
  { cls := 17, slots := #[.null, .ref 14, .ref 115, .null, .int 0, .null], vm := .none },
  { cls := 17, slots := #[.null, .ref 12, .ref 116, .null, .int 0, .null], vm := .none },
  { cls := 17, slots := #[.null, .ref 2, .ref 117, .null, .int 0, .null], vm := .none },
  { cls := 17, slots := #[.null, .ref 14, .ref 118, .null, .int 0, .null], vm := .none },
  { cls := 17, slots := #[.null, .ref 14, .ref 119, .null, .int 0, .null], vm := .none },
  { cls := 17, slots := #[.null, .ref 12, .ref 120, .null, .int 0, .null], vm := .none },
  { cls := 17, slots := #[.null, .ref 2, .ref 121, .null, .int 0, .null], vm := .none },
  { cls := 15, slots := #[.null, .ref 10, .ref 122, .null, .int 0, .null], vm := .none },
  { cls := 17, slots := #[.null, .ref 8, .ref 123, .null, .int 0, .null], vm := .none },
  { cls := 17, slots := #[.null, .ref 8, .ref 124, .null, .int 0, .null], vm := .none },
  { cls := 15, slots := #[.null, .ref 10, .ref 125, .null, .int 0, .null], vm := .none },
  { cls := 17, slots := #[.null, .ref 8, .ref 126, .null, .int 0, .null], vm := .none },
  { cls := 17, slots := #[.null, .ref 8, .ref 127, .null, .int 0, .null], vm := .none },
  { cls := 17, slots := #[.null, .ref 14, .ref 128, .null, .int 0, .null], vm := .none },
  { cls := 17, slots := #[.null, .ref 14, .ref 129, .null, .int 0, .null], vm := .none },
  { cls := 17, slots := #[.null, .ref 12, .ref 130, .null, .int 0, .null], vm := .none },
  { cls := 17, slots := #[.null, .ref 2, .ref 131, .null, .int 0, .null], vm := .none },
  { cls := 17, slots := #[.null, .ref 14, .ref 132, .null, .int 0, .null], vm := .none },
  { cls := 17, slots := #[.null, .ref 14, .ref 133, .null, .int 0, .null], vm := .none },
  { cls := 17, slots := #[.null, .ref 12, .ref 134, .null, .int 0, .null], vm := .none },
  { cls := 17, slots := #[.null, .ref 2, .ref 135, .null, .int 0, .null], vm := .none },
  { cls := 17, slots := #[.null, .ref 14, .ref 136, .null, .int 0, .null], vm := .none },
  { cls := 17, slots := #[.null, .ref 14, .ref 137, .null, .int 0, .null], vm := .none },
  { cls := 17, slots := #[.null, .ref 12, .ref 138, .null, .int 0, .null], vm := .none },
  { cls := 17, slots := #[.null, .ref 2, .ref 139, .null, .int 0, .null], vm := .none },
  { cls := 15, slots := #[.null, .ref 16, .ref 140, .null, .int 0, .null], vm := .none }]
def zr_f27 : List Frame := [.java { method := ⟨0, 24⟩, pc := 37, locals := #[.val (.ref 30), .val (.int 0), .val (.int 0), .val (.ref 53), .val (.ref 54), .val (.ref 55), .val (.ref 56), .val (.ref 57), .val (.ref 58), .val (.ref 59), .val (.ref 60), .val (.ref 61), .unset, .unset, .unset, .unset, .unset], stack := [.ref 30], locked := none },
  .java { method := ⟨0, 0⟩, pc := 238, locals := #[.val (.ref 0), .val (.ref 30), .val (.ref 53), .val (.ref 54), .val (.ref 55), .val (.ref 56), .val (.ref 57), .val (.ref 58), .val (.ref 59), .val (.ref 60), .val (.ref 61), .val (.int 21), .val (.int 23), .val (.int 12)], stack := [], locked := none },
  .native { method := ⟨0, 0⟩, args := #[] }]
def zr_u27 : Nat := 2094
def zr_w27 : State := stepsAlone start1.p0.tables start1.e0 826 (zr_mk zr_w26 zr_h26 zr_f26 zr_u26)
set_option maxRecDepth 16384 in
theorem zr_s27 : zr_run start1.p0.tables start1.e0 (zr_same zr_h27 zr_f27 zr_u27) 826 (zr_mk zr_w26 zr_h26 zr_f26 zr_u26) = true := by decide +kernel
end
section
def zr_h28 : List Cell := [{ cls := 2, slots := #[.ref 31, .ref 37, .ref 40, .ref 45, .ref 49], vm := .none },
  { cls := 3, slots := #[.ref 32, .ref 33, .ref 34, .ref 35, .ref 36, .int 0], vm := .none },
  { cls := 20, slots := #[.int 2, .int 2, .int 4, .int 0], vm := .none },
  { cls := 20, slots := #[.int 2, .int (-1), .int (-1), .int (-1), .int (-1), .int (-1), .int (-1), .int (-1), .int (-1), .int 1, .int (-1), .int (-1), .int (-1), .int (-1), .int (-1), .int (-1), .int (-1), .int 1, .int 0, .int 2, .int (-1), .int (-1), .int (-1), .int (-1), .int (-1), .int (-1), .int (-1), .int (-1), .int (-1), .int (-1), .int (-1), .int (-1)], vm := .none },
  { cls := 22, slots := #[.int 0, .int 0, .int 0, .int 0, .int 0, .int 0, .int 0, .int 0, .int 0, .int 0, .int 0, .int 0, .int 0, .int 0, .int 0, .int 0, .int 0, .int 0, .int 0, .int 0, .int 0, .int 0, .int 0, .int 0, .int 0, .int 0, .int 0, .int 0, .int 0, .int 0, .int 0, .int 0], vm := .none },
  { cls := 20, slots := #[.int 0, .int 0, .int 0, .int 0, .int 0, .int 0, .int 0, .int 0, .int 0, .int 2, .int 0, .int 0, .int 0, .int 0, .int 0, .int 0, .int 4, .int 0, .int 0, .int 0, .int 0, .int 0, .int 0, .int 0, .int 0, .int 0, .int 0, .int 0, .int 0, .int 0, .int 0, .int 0], vm := .none },
  { cls := 20, slots := #[.int (-1), .int (-1), .int 0, .int (-1), .int (-1), .int (-1), .int (-1), .int (-1), .int (-1), .int (-1), .int (-1), .int (-1), .int (-1), .int (-1), .int (-1), .int (-1), .int (-1), .int (-1), .int (-1), .int (-1), .int (-1), .int 47, .int (-1), .int (-1), .int (-1), .int (-1), .int (-1), .int (-1), .int (-1), .int (-1), .int (-1), .int (-1), .int (-1), .int (-1), .int (-1), .int (-1), .int (-1), .int (-1), .int (-1), .int (-1), .int (-1), .int (-1), .int (-1), .int (-1), .int (-1), .int (-1), .int (-1), .int (-1), .int (-1), .int (-1), .int (-1), .int (-1), .int (-1), .int (-1), .int (-1), .int (-1), .int (-1), .int (-1), .int (-1), .int (-1), .int (-1), .int (-1), .int (-1), .int (-1), .int (-1), .int (-1), .int (-1), .int (-1), .int (-1), .int (-1), .int (-1), .int (-1), .int (-1), .int (-1), .int (-1), .int (-1), .int (-1), .int (-1), .int (-1), .int (-1), .int (-1), .int (-1), .int (-1), .int (-1), .int (-1), .int (-1), .int (-1), .int (-1), .int (-1), .int (-1), .int (-1), .int (-1), .int (-1), .int (-1), .int (-1), .int (-1), .int (-1), .int (-1), .int (-1), .int (-1), .int (-1), .int (-1), .int (-1), .int (-1), .int (-1), .int (-1), .int (-1), .int (-1), .int (-1), .int (-1), .int (-1), .int (-1), .int (-1), .int (-1), .int (-1), .int (-1), .int (-1), .int (-1), .int (-1), .int (-1), .int (-1), .int (-1), .int (-1), .int (-1), .int (-1), .int (-1), .int (-1), .int (-1), .int (-1), .int (-1), .int (-1), .int (-1), .int (-1), .int (-1), .int (-1), .int (-1), .int (-1), .int (-1), .int (-1), .int (-1), .int (-1), .int (-1), .int (-1), .int (-1), .int (-1), .int (-1), .int (-1), .int (-1), .int (-1), .int (-1), .int (-1), .int (-1), .int (-1), .int (-1), .int (-1), .int (-1), .int (-1), .int (-1), .int (-1), .int (-1), .int (-1), .int (-1), .int 2, .int (-1), .int (-1), .int (-1), .int (-1), .int (-1), .int (-1), .int (-1), .int (-1), .int (-1), .int (-1), .int (-1), .int (-1), .int (-1), .int (-1), .int (-1), .int (-1), .int (-1), .int (-1), .int (-1), .int (-1), .int (-1), .int (-1), .int (-1), .int (-1), .int (-1), .int (-1), .int (-1), .int (-1), .int (-1), .int (-1), .int (-1), .int (-1), .int (-1), .int (-1), .int (-1), .int (-1), .int (-1), .int (-1), .int (-1), .int (-1), .int (-1), .int (-1), .int (-1), .int (-1), .int (-1), .int (-1), .int (-1), .int (-1), .int (-1), .int (-1), .int (-1), .int (-1), .int (-1), .int (-1), .int (-1), .int (-1), .int (-1), .int (-1), .int (-1), .int (-1), .int (-1), .int (-1), .int (-1), .int (-1), .int (-1), .int (-1), .int (-1), .int (-1), .int (-1), .int (-1), .int (-1), .int (-1), .int (-1), .int (-1), .int (-1), .int (-1), .int (-1), .int (-1), .int (-1), .int (-1), .int (-1), .int (-1), .int (-1), .int (-1), .int (-1), .int (-1), .int (-1), .int (-1), .int (-1), .int (-1), .int (-1), .int (-1), .int (-1), .int (-1), .int (-1), .int (-1), .int (-1), .int (-1), .int (-1), .int (-1), .int (-1), .int (-1), .int (-1), .int (-1), .int (-1), .int (-1), .int (-1), .int (-1), .int (-1), .int (-1), .int (-1), .int (-1), .int (-1), .int (-1), .int (-1), .int (-1), .int (-1), .int (-1), .int (-1), .int (-1), .int (-1), .int (-1), .int (-1), .int (-1), .int (-1), .int (-1), .int (-1), .int (-1), .int (-1), .int (-1), .int (-1), .int (-1), .int (-1), .int (-1), .int (-1), .int (-1), .int (-1), .int (-1), .int (-1), .int (-1), .int (-1), .int (-1), .int (-1), .int (-1), .int (-1), .int (-1), .int (-1), .int (-1), .int (-1), .int (-1), .int (-1), .int (-1), .int (-1), .int (-1), .int (-1), .int (-1), .int (-1), .int (-1), .int (-1), .int (-1), .int (-1), .int (-1), .int (-1), .int (-1), .int (-1), .int (-1), .int (-1), .int (-1), .int (-1), .int (-1), .int (-1), .int (-1), .int (-1), .int (-1), .int (-1), .int (-1), .int (-1), .int (-1), .int (-1), .int (-1), .int 1, .int (-1), .int (-1), .int (-1), .int (-1), .int (-1), .int (-1), .int (-1), .int (-1), .int (-1), .int (-1), .int (-1), .int (-1), .int (-1), .int (-1), .int (-1), .int (-1), .int (-1), .int (-1), .int (-1), .int (-1), .int (-1), .int (-1), .int (-1), .int (-1), .int (-1), .int (-1), .int (-1), .int (-1), .int (-1), .int (-1), .int (-1), .int (-1), .int (-1), .int (-1), .int (-1), .int (-1), .int (-1), .int (-1), .int (-1), .int (-1), .int (-1), .int (-1), .int (-1), .int (-1), .int (-1), .int (-1), .int (-1), .int (-1), .int (-1), .int (-1), .int (-1), .int (-1), .int (-1), .int (-1), .int (-1), .int (-1), .int (-1), .int (-1), .int (-1), .int (-1), .int (-1), .int (-1), .int (-1), .int (-1), .int (-1), .int (-1), .int (-1), .int (-1), .int (-1), .int (-1), .int (-1), .int (-1), .int (-1), .int (-1), .int (-1), .int (-1), .int (-1), .int (-1), .int (-1), .int (-1), .int (-1), .int (-1), .int (-1), .int (-1), .int (-1), .int (-1), .int (-1), .int (-1), .int (-1), .int (-1), .int (-1), .int (-1), .int (-1), .int (-1), .int (-1), .int (-1), .int (-1), .int (-1), .int (-1), .int (-1), .int (-1), .int (-1), .int (-1), .int (-1), .int (-1), .int (-1), .int (-1), .int (-1), .int (-1), .int (-1), .int (-1), .int (-1), .int (-1), .int (-1), .int (-1), .int (-1), .int (-1), .int (-1), .int (-1), .int (-1), .int (-1), .int (-1), .int (-1), .int (-1), .int (-1), .int (-1), .int (-1), .int (-1), .int (-1), .int (-1), .int (-1), .int (-1), .int (-1), .int (-1), .int (-1), .int (-1), .int (-1), .int (-1), .int (-1), .int (-1), .int (-1), .int (-1), .int (-1), .int (-1), .int (-1), .int (-1), .int (-1), .int (-1), .int (-1), .int (-1), .int (-1), .int (-1), .int (-1), .int (-1), .int (-1), .int (-1), .int (-1), .int (-1), .int (-1), .int (-1), .int (-1), .int (-1), .int (-1), .int (-1), .int (-1), .int (-1), .int (-1), .int (-1), .int (-1), .int (-1), .int (-1), .int (-1), .int (-1), .int (-1), .int (-1), .int (-1), .int (-1), .int (-1), .int (-1), .int (-1), .int (-1), .int (-1), .int (-1), .int (-1), .int (-1), .int (-1), .int (-1), .int (-1), .int (-1), .int (-1), .int (-1), .int (-1), .int (-1), .int (-1), .int (-1), .int (-1), .int (-1), .int (-1), .int (-1), .int (-1), .int (-1), .int (-1), .int (-1), .int (-1), .int (-1), .int (-1), .int (-1), .int (-1), .int (-1), .int (-1), .int (-1), .int (-1), .int (-1), .int (-1), .int (-1), .int (-1), .int (-1), .int (-1), .int (-1), .int (-1), .int (-1), .int (-1), .int (-1), .int (-1), .int (-1), .int (-1), .int (-1), .int (-1), .int (-1), .int (-1), .int (-1), .int (-1), .int (-1), .int (-1), .int (-1), .int (-1), .int (-1), .int (-1), .int (-1), .int (-1), .int (-1), .int (-1), .int (-1), .int (-1), .int (-1), .int (-1), .int (-1), .int (-1), .int (-1), .int (-1), .int (-1), .int (-1), .int (-1), .int (-1), .int (-1), .int (-1), .int (-1), .int (-1), .int (-1), .int (-1), .int (-1), .int (-1), .int (-1), .int (-1), .int (-1), .int (-1), .int (-1), .int (-1), .int (-1), .int (-1), .int (-1), .int (-1), .int (-1), .int (-1), .int (-1), .int (-1), .int (-1), .int (-1), .int (-1), .int (-1), .int (-1), .int (-1), .int (-1), .int (-1), .int (-1), .int (-1), .int (-1), .int (-1), .int (-1), .int (-1), .int (-1), .int (-1), .int (-1), .int (-1), .int (-1), .int (-1)], vm := .none },
  { cls := 5, slots := #[.ref 38, .ref 39, .int 0, .int 0], vm := .none },
  { cls := 20, slots := #[.int 0, .int 0, .int 0, .int 0, .int 0, .int 0, .int 0, .int 0, .int 0, .int 0, .int 0, .int 0], vm := .none },
  { cls := 20, slots := #[.int 0, .int 0, .int 0, .int 0, .int 0, .int 0, .int 0, .int 0, .int 0, .int 0, .int 0, .int 0], vm := .none },
  { cls := 6, slots := #[.ref 31, .ref 37, .ref 41, .ref 42, .ref 43, .ref 44, .int 0, .int 0, .int 1, .int 1], vm := .none },
  { cls := 20, slots := #[.int 0, .int 0, .int 0, .int 0, .int 0, .int 0, .int 0, .int 0, .int 0, .int 0, .int 0, .int 0], vm := .none },
  { cls := 20, slots := #[.int 0, .int 0, .int 0, .int 0, .int 0, .int 0, .int 0, .int 0, .int 0, .int 0, .int 0, .int 0], vm := .none },
  { cls := 20, slots := #[.int 0, .int 0, .int 0, .int 0, .int 0, .int 0, .int 0, .int 0, .int 0, .int 0, .int 0, .int 0, .int 0, .int 0, .int 0, .int 0, .int 0, .int 0, .int 0, .int 0, .int 0, .int 0, .int 0, .int 0, .int 0, .int 0, .int 0, .int 0, .int 0, .int 0, .int 0, .int 0, .int 0, .int 0, .int 0, .int 0, .int 0, .int 0, .int 0, .int 0, .int 0, .int 0, .int 0, .int 0, .int 0, .int 0, .int 0, .int 0], vm := .none },
  { cls := 20, slots := #[.int 0, .int 0, .int 0, .int 0, .int 0, .int 0, .int 0, .int 0, .int 0, .int 0, .int 0, .int 0], vm := .none },
  { cls := 7, slots := #[.ref 31, .ref 37, .ref 40, .ref 46, .ref 47, .ref 48, .int 0], vm := .none },
  { cls := 20, slots := #[.int 0, .int 0, .int 0, .int 0, .int 0, .int 0, .int 0, .int 0, .int 0, .int 0, .int 0, .int 0], vm := .none },
  { cls := 20, slots := #[.int 0, .int 0, .int 0, .int 0, .int 0, .int 0, .int 0, .int 0, .int 0, .int 0, .int 0, .int 0], vm := .none },
  { cls := 22, slots := #[.int 0, .int 0, .int 0, .int 0, .int 0, .int 0, .int 0, .int 0, .int 0, .int 0, .int 0, .int 0], vm := .none },
  { cls := 7, slots := #[.ref 31, .ref 37, .ref 40, .ref 50, .ref 51, .ref 52, .int 0], vm := .none },
  { cls := 20, slots := #[.int 0, .int 0, .int 0, .int 0, .int 0, .int 0, .int 0, .int 0, .int 0, .int 0, .int 0, .int 0], vm := .none },
  { cls := 20, slots := #[.int 0, .int 0, .int 0, .int 0, .int 0, .int 0, .int 0, .int 0, .int 0, .int 0, .int 0, .int 0], vm := .none },
  { cls := 22, slots := #[.int 0, .int 0, .int 0, .int 0, .int 0, .int 0, .int 0, .int 0, .int 0, .int 0, .int 0, .int 0], vm := .none },
  { cls := 20, slots := #[.int 3, .int 0, .int 0, .int 0, .int 0, .int 34, .int 0, .int 0, .int 64, .int 2, .int 1, .int 3], vm := .none },
  { cls := 20, slots := #[.int 0, .int 0, .int 0, .int 0, .int 0, .int 48, .int 0, .int 0, .int 1, .int 0, .int 0, .int 0, .int 0, .int 0, .int 0, .int 0, .int 0, .int 0, .int 0, .int 0, .int 0, .int 0, .int 0, .int 0, .int 0, .int 0, .int 0, .int 0, .int 3, .int 0, .int 0, .int 0, .int 0, .int 0, .int 0, .int 0, .int 0, .int 0, .int 0, .int 0, .int 0, .int 0, .int 0, .int 0, .int 0, .int 0, .int 0, .int 0, .int 0, .int 0, .int 0, .int 0, .int 0, .int 2, .int 0, .int 0, .int 0, .int 0, .int 0, .int 0], vm := .none },
  { cls := 20, slots := #[.int 0, .int 0, .int 0, .int 0, .int 0, .int 0], vm := .none },
  { cls := 20, slots := #[.int 0, .int 0, .int 0, .int 0, .int 0, .int 0], vm := .none },
  { cls := 20, slots := #[.int 0, .int 0, .int 0, .int 0, .int 0, .int 0], vm := .none },
  { cls := 20, slots := #[.int 0, .int 0, .int 0, .int 0, .int 0, .int 0], vm := .none },
  { cls := 20, slots := #[.int 0, .int 0, .int 0, .int 0, .int 0, .int 0], vm := .none },
  { cls := 20, slots := #[.int 0, .int 0, .int 0, .int 0, .int 0, .int 0], vm := .none },
  { cls := 20, slots := #[.int 2, .int 2, .int 4, .int 0, .int 0, .int 0, .int 0, .int 0], vm := .none },
  { cls := 15, slots := #[.null, .ref 16, .ref 62, .null, .int 0, .null], vm := .none },
  { cls := 15, slots := #[.null, .ref 16, .ref 63, .null, .int 0, .null], vm := .none },
  { cls := 17, slots := #[.null, .ref 12, .ref 64, .null, .int 0, .null], vm := .none },
  { cls := 15, slots := #[.null, .ref 16, .ref 65, .null, .int 0, .null], vm := .none },
  { cls := 15, slots := #[.null, .ref 16, .ref 66, .null, .int 0, .null], vm := .none },
  { cls := 15, slots := #[.null, .ref 16, .ref 67, .null, .int 0, .null], vm := .none },
  { cls := 17, slots := #[.null, .ref 12, .ref 68, .null, .int 0, .null], vm := .none },
  { cls := 17, slots := #[.null, .ref 12, .ref 69, .null, .int 0, .null], vm := .none },
  { cls := 17, slots := #[.null, .ref 26, .ref 70, .null, .int 0, .null], vm := .none },
  { cls := 17, slots := #[.null, .ref 12, .ref 71, .null, .int 0, .null], vm := .none },
  { cls := 15, slots := #[.null, .ref 16, .ref 72, .null, .int 0, .null], vm := .none },
  { cls := 17, slots := #[.null, .ref 2, .ref 73, .null, .int 0, .null], vm := .none },
  { cls := 17, slots := #[.null, .ref 2, .ref 74, .null, .int 0, .null], vm := .none },
  { cls := 17, slots := #[.null, .ref 4, .ref 75, .null, .int 0, .null], vm := .none },
  { cls := 17, slots := #[.null, .ref 4, .ref 76, .null, .int 0, .null], vm := .none },
  { cls := 17, slots := #[.null, .ref 2, .ref 77, .null, .int 0, .null], vm := .none },
  { cls := 17, slots := #[.null, .ref 2, .ref 78, .null, .int 0, .null], vm := .none },
  { cls := 17, slots := #[.null, .ref 4, .ref 79, .null, .int 0, .null], vm := .none },
  { cls := 17, slots := #[.null, .ref 4, .ref 80, .null, .int 0, .null], vm := .none },
  { cls := 17, slots := #[.null, .ref 2, .ref 81, .null, .int 0, .null], vm := .none },
  { cls := 17, slots := #[.null, .ref 2, .ref 82, .null, .int 0, .null], vm := .none },
  { cls := 17, slots := #[.null, .ref 4, .ref 83, .null, .int 0, .null], vm := .none },
  { cls := 17, slots := #[.null, .ref 4, .ref 84, .null, .int 0, .null], vm := .none },
  { cls := 17, slots := #[.null, .ref 2, .ref 85, .null, .int 0, .null], vm := .none },
  { cls := 17, slots := #[.null, .ref 2, .ref 86, .null, .int 0, .null], vm := .none },
  { cls := 17, slots := #[.null, .ref 4, .ref 87, .null, .int 0, .null], vm := .none },
  { cls := 17, slots := #[.null, .ref 4, .ref 88, .null, .int 0, .null], vm := .none },
  { cls := 17, slots := #[.null, .ref 2, .ref 89, .null, .int 0, .null], vm := .none },
  { cls := 17, slots := #[.null, .ref 2, .ref 90, .null, .int 0, .null], vm := .none },
  { cls := 17, slots := #[.null, .ref 4, .ref 91, .null, .int 0, .null], vm := .none },
  { cls := 17, slots := #[.null, .ref 4, .ref 92, .null, .int 0, .null], vm := .none },
  { cls := 17, slots := #[.null, .ref 2, .ref 93, .null, .int 0, .null], vm := .none },
  { cls := 17, slots := #[.null, .ref 2, .ref 94, .null, .int 0, .null], vm := .none },
  { cls := 17, slots := #[.null, .ref 4, .ref 95, .null, .int 0, .null], vm := .none },
  { cls := 17, slots := #[.null, .ref 4, .ref 96, .null, .int 0, .null], vm := .none },
  { cls := 17, slots := #[.null, .ref 2, .ref 97, .null, .int 0, .null], vm := .none },
  { cls := 17, slots := #[.null, .ref 2, .ref 98, .null, .int 0, .null], vm := .none },
  { cls := 17, slots := #[.null, .ref 4, .ref 99, .null, .int 0, .null], vm := .none },
  { cls := 17, slots := #[.null, .ref 4, .ref 100, .null, .int 0, .null], vm := .none },
  { cls := 17, slots := #[.null, .ref 2, .ref 101, .null, .int 0, .null], vm := .none },
  { cls := 17, slots := #[.null, .ref 2, .ref 102, .null, .int 0, .null], vm := .none },
  { cls := 17, slots := #[.null, .ref 4, .ref 103, .null, .int 0, .null], vm := .none },
  { cls := 17, slots := #[.null, .ref 4, .ref 104, .null, .int 0, .null], vm := .none },
  { cls := 15, slots := #[.null, .ref 10, .ref 105, .null, .int 0, .null], vm := .none },
  { cls := 17, slots := #[.null, .ref 8, .ref 106, .null, .int 0, .null], vm := .none },
  { cls := 17, slots := #[.null, .ref 2, .ref 107, .null, .int 0, .null], vm := .none },
  { cls := 15, slots := #[.null, .ref 10, .ref 108, .null, .int 0, .null], vm := .none },
  { cls := 17, slots := #[.null, .ref 12, .ref 109, .null, .int 0, .null], vm := .none },
  { cls := 17, slots := #[.null, .ref 14, .ref 110, .null, .int 0, .null], vm := .none },
  { cls := 17, slots := #[.null, .ref 14, .ref 111, .null, .int 0, .null], vm := .none },
  { cls := 17, slots := #[.null, .ref 12, .ref 112, .null, .int 0, .null], vm := .none },
  { cls := 17, slots := #[.null, .ref 2, .ref 113, .null, .int 0, .null], vm := .none },
  { cls := 17, slots := #[.null, .ref 14, .ref 114, .null, .int 0, .null], vm := .none },
  { cls := 17, slots := #[.null, .ref 14, .ref 115, .null, .int 0, .null], vm := .none },
  { cls := 17, slots := #[.null, .ref 12, .ref 116, .null, .int 0, .null], vm := .none },
  { cls := 17, slots := #[.null, .ref 2, .ref 117, .null, .int 0, .null], vm := .none },
  { cls := 17, slots := #[.null, .ref 14, .ref 118, .null, .int 0, .null], vm := .none },
  { cls := 17, slots := #[.null, .ref 14, .ref 119, .null, .int 0, .null], vm := .none },
  { cls := 17, slots := #[.null, .ref 12, .ref 120, .null, .int 0, .null], vm := .none },
  { cls := 17, slots := #[.null, .ref 2, .ref 121, .null, .int 0, .null], vm := .none },
  { cls := 15, slots := #[.null, .ref 10, .ref 122, .null, .int 0, .null], vm := .none },
  { cls := 17, slots := #[.null, .ref 8, .ref 123, .null, .int 0, .null], vm := .none },
  { cls := 17, slots := #[.null, .ref 8, .ref 124, .null, .int 0, .null], vm := .none },
  { cls := 15, slots := #[.null, .ref 10, .ref 125, .null, .int 0, .null], vm := .none },
  { cls := 17, slots := #[.null, .ref 8, .ref 126, .null, .int 0, .null], vm := .none },
  { cls := 17, slots := #[.null, .ref 8, .ref 127, .null, .int 0, .null], vm := .none },
  { cls := 17, slots := #[.null, .ref 14, .ref 128, .null, .int 0, .null], vm := .none },
  { cls := 17, slots := #[.null, .ref 14, .ref 129, .null, .int 0, .null], vm := .none },
  { cls := 17, slots := #[.null, .ref 12, .ref 130, .null, .int 0, .null], vm := .none },
  { cls := 17, slots := #[.null, .ref 2, .ref 131, .null, .int 0, .null], vm := .none },
  { cls := 17, slots := #[.null, .ref 14, .ref 132, .null, .int 0, .null], vm := .none },
  { cls := 17, slots := #[.null, .ref 14, .ref 133, .null, .int 0, .null], vm := .none },
  { cls := 17, slots := #[.null, .ref 12, .ref 134, .null, .int 0, .null], vm := .none },
  { cls := 17, slots := #[.null, .ref 2, .ref 135, .null, .int 0, .null], vm := .none },
  { cls := 17, slots := #[.null, .ref 14, .ref 136, .null, .int 0, .null], vm := .none },
  { cls := 17, slots := #[.null, .ref 14, .ref 137, .null, .int 0, .null], vm := .none },
  { cls := 17, slots := #[.null, .ref 12, .ref 138, .null, .int 0, .null], vm := .none },
  { cls := 17, slots := #[.null, .ref 2, .ref 139, .null, .int 0, .null], vm := .none },
  { cls := 15, slots := #[.null, .ref 16, .ref 140, .null, .int 0, .null], vm := .none },
  { cls := 15, slots := #[.null, .ref 16, .ref 141, .null, .int 0, .null], vm := .none },
  { cls := 17, slots := #[.null, .ref 12, .ref 142, .null, .int 0, .null], vm := .none },
  { cls := 15, slots := #[.null, .ref 16, .ref 143, .null, .int 0, .null], vm := .none },
  { cls := 15, slots := #[.null, .ref 16, .ref 144, .null, .int 0, .null], vm := .none },
  { cls := 15, slots := #[.null, .ref 16, .ref 145, .null, .int 0, .null], vm := .none },
  { cls := 17, slots := #[.null, .ref 12, .ref 146, .null, .int 0, .null], vm := .none },
  { cls := 17, slots := #[.null, .ref 12, .ref 147, .null, .int 0, .null], vm := .none }]
def zr_f28 : List Frame := [.java { method := ⟨0, 15⟩, pc := 12, locals := #[.val (.ref 30), .val (.int 20), .unset, .val (.ref 147)], stack := [.int (-71)], locked := none },
  .java { method := ⟨0, 24⟩, pc := 168, locals := #[.val (.ref 30), .val (.int 0), .val (.int 0), .val (.ref 53), .val (.ref 54), .val (.ref 55), .val (.ref 56), .val (.ref 57), .val (.ref 58), .val (.ref 59), .val (.ref 60), .val (.ref 61), .val (.int 0), .val (.int 0), .unset, .unset, .unset], stack := [], locked := none },
  .java { method := ⟨0, 0⟩, pc := 238, locals := #[.val (.ref 0), .val (.ref 30), .val (.ref 53), .val (.ref 54), .val (.ref 55), .val (.ref 56), .val (.ref 57), .val (.ref 58), .val (.ref 59), .val (.ref 60), .val (.ref 61), .val (.int 21), .val (.int 23), .val (.int 12)], stack := [], locked := none },
  .native { method := ⟨0, 0⟩, args := #[] }]
def zr_u28 : Nat := 2136
def zr_w28 : State := stepsAlone start1.p0.tables start1.e0 726 (zr_mk zr_w27 zr_h27 zr_f27 zr_u27)
set_option maxRecDepth 16384 in
theorem zr_s28 : zr_run start1.p0.tables start1.e0 (zr_same zr_h28 zr_f28 zr_u28) 726 (zr_mk zr_w27 zr_h27 zr_f27 zr_u27) = true := by decide +kernel
end
section
def zr_h29 : List Cell := [{ cls := 2, slots := #[.ref 31, .ref 37, .ref 40, .ref 45, .ref 49], vm := .none },
  { cls := 3, slots := #[.ref 32, .ref 33, .ref 34, .ref 35, .ref 36, .int 0], vm := .none },
  { cls := 20, slots := #[.int 2, .int 2, .int 4, .int 0], vm := .none },
  { cls := 20, slots := #[.int 2, .int (-1), .int (-1), .int (-1), .int (-1), .int (-1), .int (-1), .int (-1), .int (-1), .int 1, .int (-1), .int (-1), .int (-1), .int (-1), .int (-1), .int (-1), .int (-1), .int 1, .int 0, .int 2, .int (-1), .int (-1), .int (-1), .int (-1), .int (-1), .int (-1), .int (-1), .int (-1), .int (-1), .int (-1), .int (-1), .int (-1)], vm := .none },
  { cls := 22, slots := #[.int 0, .int 0, .int 0, .int 0, .int 0, .int 0, .int 0, .int 0, .int 0, .int 0, .int 0, .int 0, .int 0, .int 0, .int 0, .int 0, .int 0, .int 0, .int 0, .int 0, .int 0, .int 0, .int 0, .int 0, .int 0, .int 0, .int 0, .int 0, .int 0, .int 0, .int 0, .int 0], vm := .none },
  { cls := 20, slots := #[.int 0, .int 0, .int 0, .int 0, .int 0, .int 0, .int 0, .int 0, .int 0, .int 2, .int 0, .int 0, .int 0, .int 0, .int 0, .int 0, .int 4, .int 0, .int 0, .int 0, .int 0, .int 0, .int 0, .int 0, .int 0, .int 0, .int 0, .int 0, .int 0, .int 0, .int 0, .int 0], vm := .none },
  { cls := 20, slots := #[.int (-1), .int (-1), .int 0, .int (-1), .int (-1), .int (-1), .int (-1), .int (-1), .int (-1), .int (-1), .int (-1), .int (-1), .int (-1), .int (-1), .int (-1), .int (-1), .int (-1), .int (-1), .int (-1), .int (-1), .int (-1), .int 47, .int (-1), .int (-1), .int (-1), .int (-1), .int (-1), .int (-1), .int (-1), .int (-1), .int (-1), .int (-1), .int (-1), .int (-1), .int (-1), .int (-1), .int (-1), .int (-1), .int (-1), .int (-1), .int (-1), .int (-1), .int (-1), .int (-1), .int (-1), .int (-1), .int (-1), .int (-1), .int (-1), .int (-1), .int (-1), .int (-1), .int (-1), .int (-1), .int (-1), .int (-1), .int (-1), .int (-1), .int (-1), .int (-1), .int (-1), .int (-1), .int (-1), .int (-1), .int (-1), .int (-1), .int (-1), .int (-1), .int (-1), .int (-1), .int (-1), .int (-1), .int (-1), .int (-1), .int (-1), .int (-1), .int (-1), .int (-1), .int (-1), .int (-1), .int (-1), .int (-1), .int (-1), .int (-1), .int (-1), .int (-1), .int (-1), .int (-1), .int (-1), .int (-1), .int (-1), .int (-1), .int (-1), .int (-1), .int (-1), .int (-1), .int (-1), .int (-1), .int (-1), .int (-1), .int (-1), .int (-1), .int (-1), .int (-1), .int (-1), .int (-1), .int (-1), .int (-1), .int (-1), .int (-1), .int (-1), .int (-1), .int (-1), .int (-1), .int (-1), .int (-1), .int (-1), .int (-1), .int (-1), .int (-1), .int (-1), .int (-1), .int (-1), .int (-1), .int (-1), .int (-1), .int (-1), .int (-1), .int (-1), .int (-1), .int (-1), .int (-1), .int (-1), .int (-1), .int (-1), .int (-1), .int (-1), .int (-1), .int (-1), .int (-1), .int (-1), .int (-1), .int (-1), .int (-1), .int (-1), .int (-1), .int (-1), .int (-1), .int (-1), .int (-1), .int (-1), .int (-1), .int (-1), .int (-1), .int (-1), .int (-1), .int (-1), .int (-1), .int (-1), .int (-1), .int (-1), .int (-1), .int 2, .int (-1), .int (-1), .int (-1), .int (-1), .int (-1), .int (-1), .int (-1), .int (-1), .int (-1), .int (-1), .int (-1), .int (-1), .int (-1), .int (-1), .int (-1), .int (-1), .int (-1), .int (-1), .int (-1), .int (-1), .int (-1), .int (-1), .int (-1), .int (-1), .int (-1), .int (-1), .int (-1), .int (-1), .int (-1), .int (-1), .int (-1), .int (-1), .int (-1), .int (-1), .int (-1), .int (-1), .int (-1), .int (-1), .int (-1), .int (-1), .int (-1), .int (-1), .int (-1), .int (-1), .int (-1), .int (-1), .int (-1), .int (-1), .int (-1), .int (-1), .int (-1), .int (-1), .int (-1), .int (-1), .int (-1), .int (-1), .int (-1), .int (-1), .int (-1), .int (-1), .int (-1), .int (-1), .int (-1), .int (-1), .int (-1), .int (-1), .int (-1), .int (-1), .int (-1), .int (-1), .int (-1), .int (-1), .int (-1), .int (-1), .int (-1), .int (-1), .int (-1), .int (-1), .int (-1), .int (-1), .int (-1), .int (-1), .int (-1), .int (-1), .int (-1), .int (-1), .int (-1), .int (-1), .int (-1), .int (-1), .int (-1), .int (-1), .int (-1), .int (-1), .int (-1), .int (-1), .int (-1), .int (-1), .int (-1), .int (-1), .int (-1), .int (-1), .int (-1), .int (-1), .int (-1), .int (-1), .int (-1), .int (-1), .int (-1), .int (-1), .int (-1), .int (-1), .int (-1), .int (-1), .int (-1), .int (-1), .int (-1), .int (-1), .int (-1), .int (-1), .int (-1), .int (-1), .int (-1), .int (-1), .int (-1), .int (-1), .int (-1), .int (-1), .int (-1), .int (-1), .int (-1), .int (-1), .int (-1), .int (-1), .int (-1), .int (-1), .int (-1), .int (-1), .int (-1), .int (-1), .int (-1), .int (-1), .int (-1), .int (-1), .int (-1), .int (-1), .int (-1), .int (-1), .int (-1), .int (-1), .int (-1), .int (-1), .int (-1), .int (-1), .int (-1), .int (-1), .int (-1), .int (-1), .int (-1), .int (-1), .int (-1), .int (-1), .int (-1), .int (-1), .int (-1), .int (-1), .int (-1), .int (-1), .int (-1), .int (-1), .int (-1), .int (-1), .int (-1), .int (-1), .int (-1), .int (-1), .int (-1), .int (-1), .int (-1), .int (-1), .int 1, .int (-1), .int (-1), .int (-1), .int (-1), .int (-1), .int (-1), .int (-1), .int (-1), .int (-1), .int (-1), .int (-1), .int (-1), .int (-1), .int (-1), .int (-1), .int (-1), .int (-1), .int (-1), .int (-1), .int (-1), .int (-1), .int (-1), .int (-1), .int (-1), .int (-1), .int (-1), .int (-1), .int (-1), .int (-1), .int (-1), .int (-1), .int (-1), .int (-1), .int (-1), .int (-1), .int (-1), .int (-1), .int (-1), .int (-1), .int (-1), .int (-1), .int (-1), .int (-1), .int (-1), .int (-1), .int (-1), .int (-1), .int (-1), .int (-1), .int (-1), .int (-1), .int (-1), .int (-1), .int (-1), .int (-1), .int (-1), .int (-1), .int (-1), .int (-1), .int (-1), .int (-1), .int (-1), .int (-1), .int (-1), .int (-1), .int (-1), .int (-1), .int (-1), .int (-1), .int (-1), .int (-1), .int (-1), .int (-1), .int (-1), .int (-1), .int (-1), .int (-1), .int (-1), .int (-1), .int (-1), .int (-1), .int (-1), .int (-1), .int (-1), .int (-1), .int (-1), .int (-1), .int (-1), .int (-1), .int (-1), .int (-1), .int (-1), .int (-1), .int (-1), .int (-1), .int (-1), .int (-1), .int (-1), .int (-1), .int (-1), .int (-1), .int (-1), .int (-1), .int (-1), .int (-1), .int (-1), .int (-1), .int (-1), .int (-1), .int (-1), .int (-1), .int (-1), .int (-1), .int (-1), .int (-1), .int (-1), .int (-1), .int (-1), .int (-1), .int (-1), .int (-1), .int (-1), .int (-1), .int (-1), .int (-1), .int (-1), .int (-1), .int (-1), .int (-1), .int (-1), .int (-1), .int (-1), .int (-1), .int (-1), .int (-1), .int (-1), .int (-1), .int (-1), .int (-1), .int (-1), .int (-1), .int (-1), .int (-1), .int (-1), .int (-1), .int (-1), .int (-1), .int (-1), .int (-1), .int (-1), .int (-1), .int (-1), .int (-1), .int (-1), .int (-1), .int (-1), .int (-1), .int (-1), .int (-1), .int (-1), .int (-1), .int (-1), .int (-1), .int (-1), .int (-1), .int (-1), .int (-1), .int (-1), .int (-1), .int (-1), .int (-1), .int (-1), .int (-1), .int (-1), .int (-1), .int (-1), .int (-1), .int (-1), .int (-1), .int (-1), .int (-1), .int (-1), .int (-1), .int (-1), .int (-1), .int (-1), .int (-1), .int (-1), .int (-1), .int (-1), .int (-1), .int (-1), .int (-1), .int (-1), .int (-1), .int (-1), .int (-1), .int (-1), .int (-1), .int (-1), .int (-1), .int (-1), .int (-1), .int (-1), .int (-1), .int (-1), .int (-1), .int (-1), .int (-1), .int (-1), .int (-1), .int (-1), .int (-1), .int (-1), .int (-1), .int (-1), .int (-1), .int (-1), .int (-1), .int (-1), .int (-1), .int (-1), .int (-1), .int (-1), .int (-1), .int (-1), .int (-1), .int (-1), .int (-1), .int (-1), .int (-1), .int (-1), .int (-1), .int (-1), .int (-1), .int (-1), .int (-1), .int (-1), .int (-1), .int (-1), .int (-1), .int (-1), .int (-1), .int (-1), .int (-1), .int (-1), .int (-1), .int (-1), .int (-1), .int (-1), .int (-1), .int (-1), .int (-1), .int (-1), .int (-1), .int (-1), .int (-1), .int (-1), .int (-1), .int (-1), .int (-1), .int (-1), .int (-1), .int (-1), .int (-1), .int (-1), .int (-1), .int (-1), .int (-1), .int (-1), .int (-1), .int (-1), .int (-1), .int (-1), .int (-1), .int (-1), .int (-1), .int (-1), .int (-1), .int (-1), .int (-1), .int (-1), .int (-1), .int (-1), .int (-1), .int (-1), .int (-1), .int (-1), .int (-1), .int (-1), .int (-1), .int (-1), .int (-1), .int (-1), .int (-1), .int (-1)], vm := .none },
  { cls := 5, slots := #[.ref 38, .ref 39, .int 0, .int 0], vm := .none },
  { cls := 20, slots := #[.int 0, .int 0, .int 0, .int 0, .int 0, .int 0, .int 0, .int 0, .int 0, .int 0, .int 0, .int 0], vm := .none },
  { cls := 20, slots := #[.int 0, .int 0, .int 0, .int 0, .int 0, .int 0, .int 0, .int 0, .int 0, .int 0, .int 0, .int 0], vm := .none },
  { cls := 6, slots := #[.ref 31, .ref 37, .ref 41, .ref 42, .ref 43, .ref 44, .int 0, .int 0, .int 1, .int 1], vm := .none },
  { cls := 20, slots := #[.int 0, .int 0, .int 0, .int 0, .int 0, .int 0, .int 0, .int 0, .int 0, .int 0, .int 0, .int 0], vm := .none },
  { cls := 20, slots := #[.int 0, .int 0, .int 0, .int 0, .int 0, .int 0, .int 0, .int 0, .int 0, .int 0, .int 0, .int 0], vm := .none },
  { cls := 20, slots := #[.int 0, .int 0, .int 0, .int 0, .int 0, .int 0, .int 0, .int 0, .int 0, .int 0, .int 0, .int 0, .int 0, .int 0, .int 0, .int 0, .int 0, .int 0, .int 0, .int 0, .int 0, .int 0, .int 0, .int 0, .int 0, .int 0, .int 0, .int 0, .int 0, .int 0, .int 0, .int 0, .int 0, .int 0, .int 0, .int 0, .int 0, .int 0, .int 0, .int 0, .int 0, .int 0, .int 0, .int 0, .int 0, .int 0, .int 0, .int 0], vm := .none },
  { cls := 20, slots := #[.int 0, .int 0, .int 0, .int 0, .int 0, .int 0, .int 0, .int 0, .int 0, .int 0, .int 0, .int 0], vm := .none },
  { cls := 7, slots := #[.ref 31, .ref 37, .ref 40, .ref 46, .ref 47, .ref 48, .int 0], vm := .none },
  { cls := 20, slots := #[.int 0, .int 0, .int 0, .int 0, .int 0, .int 0, .int 0, .int 0, .int 0, .int 0, .int 0, .int 0], vm := .none },
  { cls := 20, slots := #[.int 0, .int 0, .int 0, .int 0, .int 0, .int 0, .int 0, .int 0, .int 0, .int 0, .int 0, .int 0], vm := .none },
  { cls := 22, slots := #[.int 0, .int 0, .int 0, .int 0, .int 0, .int 0, .int 0, .int 0, .int 0, .int 0, .int 0, .int 0], vm := .none },
  { cls := 7, slots := #[.ref 31, .ref 37, .ref 40, .ref 50, .ref 51, .ref 52, .int 0], vm := .none },
  { cls := 20, slots := #[.int 0, .int 0, .int 0, .int 0, .int 0, .int 0, .int 0, .int 0, .int 0, .int 0, .int 0, .int 0], vm := .none },
  { cls := 20, slots := #[.int 0, .int 0, .int 0, .int 0, .int 0, .int 0, .int 0, .int 0, .int 0, .int 0, .int 0, .int 0], vm := .none },
  { cls := 22, slots := #[.int 0, .int 0, .int 0, .int 0, .int 0, .int 0, .int 0, .int 0, .int 0, .int 0, .int 0, .int 0], vm := .none },
  { cls := 20, slots := #[.int 3, .int 0, .int 0, .int 0, .int 0, .int 34, .int 0, .int 0, .int 64, .int 2, .int 1, .int 3], vm := .none },
  { cls := 20, slots := #[.int 0, .int 0, .int 0, .int 0, .int 0, .int 48, .int 0, .int 0, .int 1, .int 0, .int 0, .int 0, .int 0, .int 0, .int 0, .int 0, .int 0, .int 0, .int 0, .int 0, .int 0, .int 0, .int 0, .int 0, .int 0, .int 0, .int 0, .int 0, .int 3, .int 0, .int 0, .int 0, .int 0, .int 0, .int 0, .int 0, .int 0, .int 0, .int 0, .int 0, .int 0, .int 0, .int 0, .int 0, .int 0, .int 0, .int 0, .int 0, .int 0, .int 0, .int 0, .int 0, .int 0, .int 2, .int 0, .int 0, .int 0, .int 0, .int 0, .int 0], vm := .none },
  { cls := 20, slots := #[.int 0, .int 0, .int 0, .int 0, .int 0, .int 0], vm := .none },
  { cls := 20, slots := #[.int 0, .int 0, .int 0, .int 0, .int 0, .int 0], vm := .none },
  { cls := 20, slots := #[.int 0, .int 0, .int 0, .int 0, .int 0, .int 0], vm := .none },
  { cls := 20, slots := #[.int 0, .int 0, .int 0, .int 0, .int 0, .int 0], vm := .none },
  { cls := 20, slots := #[.int 0, .int 0, .int 0, .int 0, .int 0, .int 0], vm := .none },
  { cls := 20, slots := #[.int 0, .int 0, .int 0, .int 0, .int 0, .int 0], vm := .none },
  { cls := 20, slots := #[.int 2, .int 2, .int 4, .int 0, .int 0, .int 0, .int 0, .int 0], vm := .none },
  { cls := 15, slots := #[.null, .ref 16, .ref 62, .null, .int 0, .null], vm := .none },
  { cls := 15, slots := #[.null, .ref 16, .ref 63, .null, .int 0, .null], vm := .none },
  { cls := 17, slots := #[.null, .ref 12, .ref 64, .null, .int 0, .null], vm := .none },
  { cls := 15, slots := #[.null, .ref 16, .ref 65, .null, .int 0, .null], vm := .none },
  { cls := 15, slots := #[.null, .ref 16, .ref 66, .null, .int 0, .null], vm := .none },
  { cls := 15, slots := #[.null, .ref 16, .ref 67, .null, .int 0, .null], vm := .none },
  { cls := 17, slots := #[.null, .ref 12, .ref 68, .null, .int 0, .null], vm := .none },
  { cls := 17, slots := #[.null, .ref 12, .ref 69, .null, .int 0, .null], vm := .none },
  { cls := 17, slots := #[.null, .ref 26, .ref 70, .null, .int 0, .null], vm := .none },
  { cls := 17, slots := #[.null, .ref 12, .ref 71, .null, .int 0, .null], vm := .none },
  { cls := 15, slots := #[.null, .ref 16, .ref 72, .null, .int 0, .null], vm := .none },
  { cls := 17, slots := #[.null, .ref 2, .ref 73, .null, .int 0, .null], vm := .none },
  { cls := 17, slots := #[.null, .ref 2, .ref 74, .null, .int 0, .null], vm := .none },
  { cls := 17, slots := #[.null, .ref 4, .ref 75, .null, .int 0, .null], vm := .none },
  { cls := 17, slots := #[.null, .ref 4, .ref 76, .null, .int 0, .null], vm := .none },
  { cls := 17, slots := #[.null, .ref 2, .ref 77, .null, .int 0, .null], vm := .none },
  { cls := 17, slots := #[.null, .ref 2, .ref 78, .null, .int 0, .null], vm := .none },
  { cls := 17, slots := #[.null, .ref 4, .ref 79, .null, .int 0, .null], vm := .none },
  { cls := 17, slots := #[.null, .ref 4, .ref 80, .null, .int 0, .null], vm := .none },
  { cls := 17, slots := #[.null, .ref 2, .ref 81, .null, .int 0, .null], vm := .none },
  { cls := 17, slots := #[.null, .ref 2, .ref 82, .null, .int 0, .null], vm := .none },
  { cls := 17, slots := #[.null, .ref 4, .ref 83, .null, .int 0, .null], vm := .none },
  { cls := 17, slots := #[.null, .ref 4, .ref 84, .null, .int 0, .null], vm := .none },
  { cls := 17, slots := #[.null, .ref 2, .ref 85, .null, .int 0, .null], vm := .none },
  { cls := 17, slots := #[.null, .ref 2, .ref 86, .null, .int 0, .null], vm := .none },
  { cls := 17, slots := #[.null, .ref 4, .ref 87, .null, .int 0, .null], vm := .none },
  { cls := 17, slots := #[.null, .ref 4, .ref 88, .null, .int 0, .null], vm := .none },
  { cls := 17, slots := #[.null, .ref 2, .ref 89, .null, .int 0, .null], vm := .none },
  { cls := 17, slots := #[.null, .ref 2, .ref 90, .null, .int 0, .null], vm := .none },
  { cls := 17, slots := #[.null, .ref 4, .ref 91, .null, .int 0, .null], vm := .none },
  { cls := 17, slots := #[.null, .ref 4, .ref 92, .null, .int 0, .null], vm := .none },
  { cls := 17, slots := #[.null, .ref 2, .ref 93, .null, .int 0, .null], vm := .none },
  { cls := 17, slots := #[.null, .ref 2, .ref 94, .null, .int 0, .null], vm := .none },
  { cls := 17, slots := #[.null, .ref 4, .ref 95, .null, .int 0, .null], vm := .none },
  { cls := 17, slots := #[.null, .ref 4, .ref 96, .null, .int 0, .null], vm := .none },
  { cls := 17, slots := #[.null, .ref 2, .ref 97, .null, .int 0, .null], vm := .none },
  { cls := 17, slots := #[.null, .ref 2, .ref 98, .null, .int 0, .null], vm := .none },
  { cls := 17, slots := #[.null, .ref 4, .ref 99, .null, .int 0, .null], vm := .none },
  { cls := 17, slots := #[.null, .ref 4, .ref 100, .null, .int 0, .null], vm := .none },
  { cls := 17, slots := #[.null, .ref 2, .ref 101, .null, .int 0, .null], vm := .none },
  { cls := 17, slots := #[.null, .ref 2, .ref 102, .null, .int 0, .null], vm := .none },
  { cls := 17, slots := #[.null, .ref 4, .ref 103, .null, .int 0, .null], vm := .none },
  { cls := 17, slots := #[.null, .ref 4, .ref 104, .null, .int 0, .null], vm := .none },
  { cls := 15, slots := #[.null, .ref 10, .ref 105, .null, .int 0, .null], vm := .none },
  { cls := 17, slots := #[.null, .ref 8, .ref 106, .null, .int 0, .null], vm := .none },
  { cls := 17, slots := #[.null, .ref 2, .ref 107, .null, .int 0, .null], vm := .none },
  { cls := 15, slots := #[.null, .ref 10, .ref 108, .null, .int 0, .null], vm := .none },
  { cls := 17, slots := #[.null, .ref 12, .ref 109, .null, .int 0, .null], vm := .none },
  { cls := 17, slots := #[.null, .ref 14, .ref 110, .null, .int 0, .null], vm := .none },
  { cls := 17, slots := #[.null, .ref 14, .ref 111, .null, .int 0, .null], vm := .none },
  { cls := 17, slots := #[.null, .ref 12, .ref 112, .null, .int 0, .null], vm := .none },
  { cls := 17, slots := #[.null, .ref 2, .ref 113, .null, .int 0, .null], vm := .none },
  { cls := 17, slots := #[.null, .ref 14, .ref 114, .null, .int 0, .null], vm := .none },
  { cls := 17, slots := #[.null, .ref 14, .ref 115, .null, .int 0, .null], vm := .none },
  { cls := 17, slots := #[.null, .ref 12, .ref 116, .null, .int 0, .null], vm := .none },
  { cls := 17, slots := #[.null, .ref 2, .ref 117, .null, .int 0, .null], vm := .none },
  { cls := 17, slots := #[.null, .ref 14, .ref 118, .null, .int 0, .null], vm := .none },
  { cls := 17, slots := #[.null, .ref 14, .ref 119, .null, .int 0, .null], vm := .none },
  { cls := 17, slots := #[.null, .ref 12, .ref 120, .null, .int 0, .null], vm := .none },
  { cls := 17, slots := #[.null, .ref 2, .ref 121, .null, .int 0, .null], vm := .none },
  { cls := 15, slots := #[.null, .ref 10, .ref 122, .null, .int 0, .null], vm := .none },
  { cls := 17, slots := #[.null, .ref 8, .ref 123, .null, .int 0, .null], vm := .none },
  { cls := 17, slots := #[.null, .ref 8, .ref 124, .null, .int 0, .null], vm := .none },
  { cls := 15, slots := #[.null, .ref 10, .ref 125, .null, .int 0, .null], vm := .none },
  { cls := 17, slots := #[.null, .ref 8, .ref 126, .null, .int 0, .null], vm := .none },
  { cls := 17, slots := #[.null, .ref 8, .ref 127, .null, .int 0, .null], vm := .none },
  { cls := 17, slots := #[.null, .ref 14, .ref 128, .null, .int 0, .null], vm := .none },
  { cls := 17, slots := #[.null, .ref 14, .ref 129, .null, .int 0, .null], vm := .none },
  { cls := 17, slots := #[.null, .ref 12, .ref 130, .null, .int 0, .null], vm := .none },
  { cls := 17, slots := #[.null, .ref 2, .ref 131, .null, .int 0, .null], vm := .none },
  { cls := 17, slots := #[.null, .ref 14, .ref 132, .null, .int 0, .null], vm := .none },
  { cls := 17, slots := #[.null, .ref 14, .ref 133, .null, .int 0, .null], vm := .none },
  { cls := 17, slots := #[.null, .ref 12, .ref 134, .null, .int 0, .null], vm := .none },
  { cls := 17, slots := #[.null, .ref 2, .ref 135, .null, .int 0, .null], vm := .none },
  { cls := 17, slots := #[.null, .ref 14, .ref 136, .null, .int 0, .null], vm := .none },
  { cls := 17, slots := #[.null, .ref 14, .ref 137, .null, .int 0, .null], vm := .none },
  { cls := 17, slots := #[.null, .ref 12, .ref 138, .null, .int 0, .null], vm := .none },
  { cls := 17, slots := #[.null, .ref 2, .ref 139, .null, .int 0, .null], vm := .none },
  { cls := 15, slots := #[.null, .ref 16, .ref 140, .null, .int 0, .null], vm := .none },
  { cls := 15, slots := #[.null, .ref 16, .ref 141, .null, .int 0, .null], vm := .none },
  { cls := 17, slots := #[.null, .ref 12, .ref 142, .null, .int 0, .null], vm := .none },
  { cls := 15, slots := #[.null, .ref 16, .ref 143, .null, .int 0, .null], vm := .none },
  { cls := 15, slots := #[.null, .ref 16, .ref 144, .null, .int 0, .null], vm := .none },
  { cls := 15, slots := #[.null, .ref 16, .ref 145, .null, .int 0, .null], vm := .none },
  { cls := 17, slots := #[.null, .ref 12, .ref 146, .null, .int 0, .null], vm := .none },
  { cls := 17, slots := #[.null, .ref 12, .ref 147, .null, .int 0, .null], vm := .none },
  { cls := 17, slots := #[.null, .ref 26, .ref 148, .null, .int 0, .null], vm := .none },
  { cls := 17, slots := #[.null, .ref 12, .ref 149, .null, .int 0, .null], vm := .none },
  { cls := 15, slots := #[.null, .ref 16, .ref 150, .null, .int 0, .null], vm := .none }]
def zr_f29 : List Frame := [.java { method := ⟨0, 23⟩, pc := 1, locals := #[.val (.ref 30), .val (.int 12), .val (.int 171), .val (.int (-43)), .val (.ref 53), .val (.ref 54), .val (.ref 55), .val (.ref 61), .unset, .unset, .unset, .unset, .unset, .unset, .unset], stack := [.int 171], locked := none },
  .java { method := ⟨0, 0⟩, pc := 191, locals := #[.val (.ref 0), .val (.ref 30), .val (.ref 53), .val (.ref 54), .val (.ref 55), .val (.ref 56), .val (.ref 57), .val (.ref 58), .val (.ref 59), .val (.ref 60), .val (.ref 61), .val (.int 22), .val (.int 134), .val (.int 12)], stack := [], locked := none },
  .native { method := ⟨0, 0⟩, args := #[] }]
def zr_u29 : Nat := 2154
def zr_w29 : State := stepsAlone start1.p0.tables start1.e0 777 (zr_mk zr_w28 zr_h28 zr_f28 zr_u28)
set_option maxRecDepth 16384 in
theorem zr_s29 : zr_run start1.p0.tables start1.e0 (zr_same zr_h29 zr_f29 zr_u29) 777 (zr_mk zr_w28 zr_h28 zr_f28 zr_u28) = true := by decide +kernel
end
section
def zr_h30 : List Cell := [{ cls := 2, slots := #[.ref 31, .ref 37, .ref 40, .ref 45, .ref 49], vm := .none },
  { cls := 3, slots := #[.ref 32, .ref 33, .ref 34, .ref 35, .ref 36, .int 0], vm := .none },
  { cls := 20, slots := #[.int 2, .int 2, .int 4, .int 0], vm := .none },
  { cls := 20, slots := #[.int 2, .int (-1), .int (-1), .int (-1), .int (-1), .int (-1), .int (-1), .int (-1), .int (-1), .int 1, .int (-1), .int (-1), .int (-1), .int (-1), .int (-1), .int (-1), .int (-1), .int 1, .int 0, .int 2, .int (-1), .int (-1), .int (-1), .int (-1), .int (-1), .int (-1), .int (-1), .int (-1), .int (-1), .int (-1), .int (-1), .int (-1)], vm := .none },
  { cls := 22, slots := #[.int 0, .int 0, .int 0, .int 0, .int 0, .int 0, .int 0, .int 0, .int 0, .int 0, .int 0, .int 0, .int 0, .int 0, .int 0, .int 0, .int 0, .int 0, .int 0, .int 0, .int 0, .int 0, .int 0, .int 0, .int 0, .int 0, .int 0, .int 0, .int 0, .int 0, .int 0, .int 0], vm := .none },
  { cls := 20, slots := #[.int 0, .int 0, .int 0, .int 0, .int 0, .int 0, .int 0, .int 0, .int 0, .int 2, .int 0, .int 0, .int 0, .int 0, .int 0, .int 0, .int 4, .int 0, .int 0, .int 0, .int 0, .int 0, .int 0, .int 0, .int 0, .int 0, .int 0, .int 0, .int 0, .int 0, .int 0, .int 0], vm := .none },
  { cls := 20, slots := #[.int (-1), .int (-1), .int 0, .int (-1), .int (-1), .int (-1), .int (-1), .int (-1), .int (-1), .int (-1), .int (-1), .int (-1), .int (-1), .int (-1), .int (-1), .int (-1), .int (-1), .int (-1), .int (-1), .int (-1), .int (-1), .int 47, .int (-1), .int (-1), .int (-1), .int (-1), .int (-1), .int (-1), .int (-1), .int (-1), .int (-1), .int (-1), .int (-1), .int (-1), .int (-1), .int (-1), .int (-1), .int (-1), .int (-1), .int (-1), .int (-1), .int (-1), .int (-1), .int (-1), .int (-1), .int (-1), .int (-1), .int (-1), .int (-1), .int (-1), .int (-1), .int (-1), .int (-1), .int (-1), .int (-1), .int (-1), .int (-1), .int (-1), .int (-1), .int (-1), .int (-1), .int (-1), .int (-1), .int (-1), .int (-1), .int (-1), .int (-1), .int (-1), .int (-1), .int (-1), .int (-1), .int (-1), .int (-1), .int (-1), .int (-1), .int (-1), .int (-1), .int (-1), .int (-1), .int (-1), .int (-1), .int (-1), .int (-1), .int (-1), .int (-1), .int (-1), .int (-1), .int (-1), .int (-1), .int (-1), .int (-1), .int (-1), .int (-1), .int (-1), .int (-1), .int (-1), .int (-1), .int (-1), .int (-1), .int (-1), .int (-1), .int (-1), .int (-1), .int (-1), .int (-1), .int (-1), .int (-1), .int (-1), .int (-1), .int (-1), .int (-1), .int (-1), .int (-1), .int (-1), .int (-1), .int (-1), .int (-1), .int (-1), .int (-1), .int (-1), .int (-1), .int (-1), .int (-1), .int (-1), .int (-1), .int (-1), .int (-1), .int (-1), .int (-1), .int (-1), .int (-1), .int (-1), .int (-1), .int (-1), .int (-1), .int (-1), .int (-1), .int (-1), .int (-1), .int (-1), .int (-1), .int (-1), .int (-1), .int (-1), .int (-1), .int (-1), .int (-1), .int (-1), .int (-1), .int (-1), .int (-1), .int (-1), .int (-1), .int (-1), .int (-1), .int (-1), .int (-1), .int (-1), .int (-1), .int (-1), .int (-1), .int 47, .int 2, .int (-1), .int (-1), .int (-1), .int (-1), .int (-1), .int (-1), .int (-1), .int (-1), .int (-1), .int (-1), .int (-1), .int (-1), .int (-1), .int (-1), .int (-1), .int (-1), .int (-1), .int (-1), .int (-1), .int (-1), .int (-1), .int (-1), .int (-1), .int (-1), .int (-1), .int (-1), .int (-1), .int (-1), .int (-1), .int (-1), .int (-1), .int (-1), .int (-1), .int (-1), .int (-1), .int (-1), .int (-1), .int (-1), .int (-1), .int (-1), .int (-1), .int (-1), .int (-1), .int (-1), .int (-1), .int (-1), .int (-1), .int (-1), .int (-1), .int (-1), .int (-1), .int (-1), .int (-1), .int (-1), .int (-1), .int (-1), .int (-1), .int (-1), .int (-1), .int (-1), .int (-1), .int (-1), .int (-1), .int (-1), .int (-1), .int (-1), .int (-1), .int (-1), .int (-1), .int (-1), .int (-1), .int (-1), .int (-1), .int (-1), .int (-1), .int (-1), .int (-1), .int (-1), .int (-1), .int (-1), .int (-1), .int (-1), .int (-1), .int (-1), .int (-1), .int (-1), .int (-1), .int (-1), .int (-1), .int (-1), .int (-1), .int (-1), .int (-1), .int (-1), .int (-1), .int (-1), .int (-1), .int (-1), .int (-1), .int (-1), .int (-1), .int (-1), .int (-1), .int (-1), .int (-1), .int (-1), .int (-1), .int (-1), .int (-1), .int (-1), .int (-1), .int (-1), .int (-1), .int (-1), .int (-1), .int (-1), .int (-1), .int (-1), .int (-1), .int (-1), .int (-1), .int (-1), .int (-1), .int (-1), .int (-1), .int (-1), .int (-1), .int (-1), .int (-1), .int (-1), .int (-1), .int (-1), .int (-1), .int (-1), .int (-1), .int (-1), .int (-1), .int (-1), .int (-1), .int (-1), .int (-1), .int (-1), .int (-1), .int (-1), .int (-1), .int (-1), .int (-1), .int (-1), .int (-1), .int (-1), .int (-1), .int (-1), .int (-1), .int (-1), .int (-1), .int (-1), .int (-1), .int (-1), .int (-1), .int (-1), .int (-1), .int (-1), .int (-1), .int (-1), .int (-1), .int (-1), .int (-1), .int (-1), .int (-1), .int (-1), .int (-1), .int (-1), .int (-1), .int (-1), .int (-1), .int (-1), .int (-1), .int (-1), .int (-1), .int (-1), .int 1, .int (-1), .int (-1), .int (-1), .int (-1), .int (-1), .int (-1), .int (-1), .int (-1), .int (-1), .int (-1), .int (-1), .int (-1), .int (-1), .int (-1), .int (-1), .int (-1), .int (-1), .int (-1), .int (-1), .int (-1), .int (-1), .int (-1), .int (-1), .int (-1), .int (-1), .int (-1), .int (-1), .int (-1), .int (-1), .int (-1), .int (-1), .int (-1), .int (-1), .int (-1), .int (-1), .int (-1), .int (-1), .int (-1), .int (-1), .int (-1), .int (-1), .int (-1), .int (-1), .int (-1), .int (-1), .int (-1), .int (-1), .int (-1), .int (-1), .int (-1), .int (-1), .int (-1), .int (-1), .int (-1), .int (-1), .int (-1), .int (-1), .int (-1), .int (-1), .int (-1), .int (-1), .int (-1), .int (-1), .int (-1), .int (-1), .int (-1), .int (-1), .int (-1), .int (-1), .int (-1), .int (-1), .int (-1), .int (-1), .int (-1), .int (-1), .int (-1), .int (-1), .int (-1), .int (-1), .int (-1), .int (-1), .int (-1), .int (-1), .int (-1), .int (-1), .int (-1), .int (-1), .int (-1), .int (-1), .int (-1), .int (-1), .int (-1), .int (-1), .int (-1), .int (-1), .int (-1), .int (-1), .int (-1), .int (-1), .int (-1), .int (-1), .int (-1), .int (-1), .int (-1), .int (-1), .int (-1), .int (-1), .int (-1), .int (-1), .int (-1), .int (-1), .int (-1), .int (-1), .int (-1), .int (-1), .int (-1), .int (-1), .int (-1), .int (-1), .int (-1), .int (-1), .int (-1), .int (-1), .int (-1), .int (-1), .int (-1), .int (-1), .int (-1), .int (-1), .int (-1), .int (-1), .int (-1), .int (-1), .int (-1), .int (-1), .int (-1), .int (-1), .int (-1), .int (-1), .int (-1), .int (-1), .int (-1), .int (-1), .int (-1), .int (-1), .int (-1), .int (-1), .int (-1), .int (-1), .int (-1), .int (-1), .int (-1), .int (-1), .int (-1), .int (-1), .int (-1), .int (-1), .int (-1), .int (-1), .int (-1), .int (-1), .int (-1), .int (-1), .int (-1), .int (-1), .int (-1), .int (-1), .int (-1), .int (-1), .int (-1), .int (-1), .int (-1), .int (-1), .int (-1), .int (-1), .int (-1), .int (-1), .int (-1), .int (-1), .int (-1), .int (-1), .int (-1), .int (-1), .int (-1), .int (-1), .int (-1), .int (-1), .int (-1), .int (-1), .int (-1), .int (-1), .int (-1), .int (-1), .int (-1), .int (-1), .int (-1), .int (-1), .int (-1), .int (-1), .int (-1), .int (-1), .int (-1), .int (-1), .int (-1), .int (-1), .int (-1), .int (-1), .int (-1), .int (-1), .int (-1), .int (-1), .int (-1), .int (-1), .int (-1), .int (-1), .int (-1), .int (-1), .int (-1), .int (-1), .int (-1), .int (-1), .int (-1), .int (-1), .int (-1), .int (-1), .int (-1), .int (-1), .int (-1), .int (-1), .int (-1), .int (-1), .int (-1), .int (-1), .int (-1), .int (-1), .int (-1), .int (-1), .int (-1), .int (-1), .int (-1), .int (-1), .int (-1), .int (-1), .int (-1), .int (-1), .int (-1), .int (-1), .int (-1), .int (-1), .int (-1), .int (-1), .int (-1), .int (-1), .int (-1), .int (-1), .int (-1), .int (-1), .int (-1), .int (-1), .int (-1), .int (-1), .int (-1), .int (-1), .int (-1), .int (-1), .int (-1), .int (-1), .int (-1), .int (-1), .int (-1), .int (-1), .int (-1), .int (-1), .int (-1), .int (-1), .int (-1), .int (-1), .int (-1), .int (-1), .int (-1), .int (-1), .int (-1), .int (-1), .int (-1), .int (-1), .int (-1), .int (-1), .int (-1), .int (-1), .int (-1), .int (-1), .int (-1), .int (-1), .int (-1), .int (-1), .int (-1)], vm := .none },
  { cls := 5, slots := #[.ref 38, .ref 39, .int 0, .int 0], vm := .none },
  { cls := 20, slots := #[.int 0, .int 0, .int 0, .int 0, .int 0, .int 0, .int 0, .int 0, .int 0, .int 0, .int 0, .int 0], vm := .none },
  { cls := 20, slots := #[.int 0, .int 0, .int 0, .int 0, .int 0, .int 0, .int 0, .int 0, .int 0, .int 0, .int 0, .int 0], vm := .none },
  { cls := 6, slots := #[.ref 31, .ref 37, .ref 41, .ref 42, .ref 43, .ref 44, .int 0, .int 0, .int 1, .int 1], vm := .none },
  { cls := 20, slots := #[.int 0, .int 0, .int 0, .int 0, .int 0, .int 0, .int 0, .int 0, .int 0, .int 0, .int 0, .int 0], vm := .none },
  { cls := 20, slots := #[.int 0, .int 0, .int 0, .int 0, .int 0, .int 0, .int 0, .int 0, .int 0, .int 0, .int 0, .int 0], vm := .none },
  { cls := 20, slots := #[.int 0, .int 0, .int 0, .int 0, .int 0, .int 0, .int 0, .int 0, .int 0, .int 0, .int 0, .int 0, .int 0, .int 0, .int 0, .int 0, .int 0, .int 0, .int 0, .int 0, .int 0, .int 0, .int 0, .int 0, .int 0, .int 0, .int 0, .int 0, .int 0, .int 0, .int 0, .int 0, .int 0, .int 0, .int 0, .int 0, .int 0, .int 0, .int 0, .int 0, .int 0, .int 0, .int 0, .int 0, .int 0, .int 0, .int 0, .int 0], vm := .none },
  { cls := 20, slots := #[.int 0, .int 0, .int 0, .int 0, .int 0, .int 0, .int 0, .int 0, .int 0, .int 0, .int 0, .int 0], vm := .none },
  { cls := 7, slots := #[.ref 31, .ref 37, .ref 40, .ref 46, .ref 47, .ref 48, .int 0], vm := .none },
  { cls := 20, slots := #[.int 0, .int 0, .int 0, .int 0, .int 0, .int 0, .int 0, .int 0, .int 0, .int 0, .int 0, .int 0], vm := .none },
  { cls := 20, slots := #[.int 0, .int 0, .int 0, .int 0, .int 0, .int 0, .int 0, .int 0, .int 0, .int 0, .int 0, .int 0], vm := .none },
  { cls := 22, slots := #[.int 0, .int 0, .int 0, .int 0, .int 0, .int 0, .int 0, .int 0, .int 0, .int 0, .int 0, .int 0], vm := .none },
  { cls := 7, slots := #[.ref 31, .ref 37, .ref 40, .ref 50, .ref 51, .ref 52, .int 0], vm := .none },
  { cls := 20, slots := #[.int 0, .int 0, .int 0, .int 0, .int 0, .int 0, .int 0, .int 0, .int 0, .int 0, .int 0, .int 0], vm := .none },
  { cls := 20, slots := #[.int 0, .int 0, .int 0, .int 0, .int 0, .int 0, .int 0, .int 0, .int 0, .int 0, .int 0, .int 0], vm := .none },
  { cls := 22, slots := #[.int 0, .int 0, .int 0, .int 0, .int 0, .int 0, .int 0, .int 0, .int 0, .int 0, .int 0, .int 0], vm := .none },
  { cls := 20, slots := #[.int 3, .int 0, .int 0, .int 0, .int 0, .int 34, .int 0, .int 0, .int 64, .int 2, .int 1, .int 3], vm := .none },
  { cls := 20, slots := #[.int 0, .int 0, .int 0, .int 0, .int 0, .int 48, .int 0, .int 0, .int 1, .int 0, .int 0, .int 0, .int 0, .int 0, .int 0, .int 0, .int 0, .int 0, .int 0, .int 0, .int 0, .int 0, .int 0, .int 0, .int 48, .int 0, .int 0, .int 0, .int 3, .int 0, .int 0, .int 0, .int 0, .int 0, .int 0, .int 0, .int 0, .int 0, .int 0, .int 0, .int 0, .int 0, .int 0, .int 0, .int 0, .int 0, .int 0, .int 0, .int 0, .int 0, .int 0, .int 0, .int 0, .int 2, .int 0, .int 0, .int 0, .int 0, .int 0, .int 0], vm := .none },
  { cls := 20, slots := #[.int 0, .int 0, .int 0, .int 0, .int 0, .int 0], vm := .none },
  { cls := 20, slots := #[.int 0, .int 0, .int 0, .int 0, .int 0, .int 0], vm := .none },
  { cls := 20, slots := #[.int 0, .int 0, .int 0, .int 0, .int 0, .int 0], vm := .none },
  { cls := 20, slots := #[.int 0, .int 0, .int 0, .int 0, .int 0, .int 0], vm := .none },
  { cls := 20, slots := #[.int 0, .int 0, .int 0, .int 0, .int 0, .int 0], vm := .none },
  { cls := 20, slots := #[.int 0, .int 0, .int 0, .int 0, .int 0, .int 0], vm := .none },
  { cls := 20, slots := #[.int 2, .int 2, .int 4, .int 0, .int 0, .int 0, .int (-1), .int 0], vm := .none },
  { cls := 15, slots := #[.null, .ref 16, .ref 62, .null, .int 0, .null], vm := .none },
  { cls := 15, slots := #[.null, .ref 16, .ref 63, .null, .int 0, .null], vm := .none },
  { cls := 17, slots := #[.null, .ref 12, .ref 64, .null, .int 0, .null], vm := .none },
  { cls := 15, slots := #[.null, .ref 16, .ref 65, .null, .int 0, .null], vm := .none },
  { cls := 15, slots := #[.null, .ref 16, .ref 66, .null, .int 0, .null], vm := .none },
  { cls := 15, slots := #[.null, .ref 16, .ref 67, .null, .int 0, .null], vm := .none },
  { cls := 17, slots := #[.null, .ref 12, .ref 68, .null, .int 0, .null], vm := .none },
  { cls := 17, slots := #[.null, .ref 12, .ref 69, .null, .int 0, .null], vm := .none },
  { cls := 17, slots := #[.null, .ref 26, .ref 70, .null, .int 0, .null], vm := .none },
  { cls := 17, slots := #[.null, .ref 12, .ref 71, .null, .int 0, .null], vm := .none },
  { cls := 15, slots := #[.null, .ref 16, .ref 72, .null, .int 0, .null], vm := .none },
  { cls := 17, slots := #[.null, .ref 2, .ref 73, .null, .int 0, .null], vm := .none },
  { cls := 17, slots := #[.null, .ref 2, .ref 74, .null, .int 0, .null], vm := .none },
  { cls := 17, slots := #[.null, .ref 4, .ref 75, .null, .int 0, .null], vm := .none },
  { cls := 17, slots := #[.null, .ref 4, .ref 76, .null, .int 0, .null], vm := .none },
  { cls := 17, slots := #[.null, .ref 2, .ref 77, .null, .int 0, .null], vm := .none },
  { cls := 17, slots := #[.null, .ref 2, .ref 78, .null, .int 0, .null], vm := .none },
  { cls := 17, slots := #[.null, .ref 4, .ref 79, .null, .int 0, .null], vm := .none },
  { cls := 17, slots := #[.null, .ref 4, .ref 80, .null, .int 0, .null], vm := .none },
  { cls := 17, slots := #[.null, .ref 2, .ref 81, .null, .int 0, .null], vm := .none },
  { cls := 17, slots := #[.null, .ref 2, .ref 82, .null, .int 0, .null], vm := .none },
  { cls := 17, slots := #[.null, .ref 4, .ref 83, .null, .int 0, .null], vm := .none },
  { cls := 17, slots := #[.null, .ref 4, .ref 84, .null, .int 0, .null], vm := .none },
  { cls := 17, slots := #[.null, .ref 2, .ref 85, .null, .int 0, .null], vm := .none },
  { cls := 17, slots := #[.null, .ref 2, .ref 86, .null, .int 0, .null], vm := .none },
  { cls := 17, slots := #[.null, .ref 4, .ref 87, .null, .int 0, .null], vm := .none },
  { cls := 17, slots := #[.null, .ref 4, .ref 88, .null, .int 0, .null], vm := .none },
  { cls := 17, slots := #[.null, .ref 2, .ref 89, .null, .int 0, .null], vm := .none },
  { cls := 17, slots := #[.null, .ref 2, .ref 90, .null, .int 0, .null], vm := .none },
  { cls := 17, slots := #[.null, .ref 4, .ref 91, .null, .int 0, .null], vm := .none },
  { cls := 17, slots := #[.null, .ref 4, .ref 92, .null, .int 0, .null], vm := .none },
  { cls := 17, slots := #[.null, .ref 2, .ref 93, .null, .int 0, .null], vm := .none },
  { cls := 17, slots := #[.null, .ref 2, .ref 94, .null, .int 0, .null], vm := .none },
  { cls := 17, slots := #[.null, .ref 4, .ref 95, .null, .int 0, .null], vm := .none },
  { cls := 17, slots := #[.null, .ref 4, .ref 96, .null, .int 0, .null], vm := .none },
  { cls := 17, slots := #[.null, .ref 2, .ref 97, .null, .int 0, .null], vm := .none },
  { cls := 17, slots := #[.null, .ref 2, .ref 98, .null, .int 0, .null], vm := .none },
  { cls := 17, slots := #[.null, .ref 4, .ref 99, .null, .int 0, .null], vm := .none },
  { cls := 17, slots := #[.null, .ref 4, .ref 100, .null, .int 0, .null], vm := .none },
  { cls := 17, slots := #[.null, .ref 2, .ref 101, .null, .int 0, .null], vm := .none },
  { cls := 17, slots := #[.null, .ref 2, .ref 102, .null, .int 0, .null], vm := .none },
  { cls := 17, slots := #[.null, .ref 4, .ref 103, .null, .int 0, .null], vm := .none },
  { cls := 17, slots := #[.null, .ref 4, .ref 104, .null, .int 0, .null], vm := .none },
  { cls := 15, slots := #[.null, .ref 10, .ref 105, .null, .int 0, .null], vm := .none },
  { cls := 17, slots := #[.null, .ref 8, .ref 106, .null, .int 0, .null], vm := .none },
  { cls := 17, slots := #[.null, .ref 2, .ref 107, .null, .int 0, .null], vm := .none },
  { cls := 15, slots := #[.null, .ref 10, .ref 108, .null, .int 0, .null], vm := .none },
  { cls := 17, slots := #[.null, .ref 12, .ref 109, .null, .int 0, .null], vm := .none },
  { cls := 17, slots := #[.null, .ref 14, .ref 110, .null, .int 0, .null], vm := .none },
  { cls := 17, slots := #[.null, .ref 14, .ref 111, .null, .int 0, .null], vm := .none },
  { cls := 17, slots := #[.null, .ref 12, .ref 112, .null, .int 0, .null], vm := .none },
  { cls := 17, slots := #[.null, .ref 2, .ref 113, .null, .int 0, .null], vm := .none },
  { cls := 17, slots := #[.null, .ref 14, .ref 114, .null, .int 0, .null], vm := .none },
  { cls := 17, slots := #[.null, .ref 14, .ref 115, .null, .int 0, .null], vm := .none },
  { cls := 17, slots := #[.null, .ref 12, .ref 116, .null, .int 0, .null], vm := .none },
  { cls := 17, slots := #[.null, .ref 2, .ref 117, .null, .int 0, .null], vm := .none },
  { cls := 17, slots := #[.null, .ref 14, .ref 118, .null, .int 0, .null], vm := .none },
  { cls := 17, slots := #[.null, .ref 14, .ref 119, .null, .int 0, .null], vm := .none },
  { cls := 17, slots := #[.null, .ref 12, .ref 120, .null, .int 0, .null], vm := .none },
  { cls := 17, slots := #[.null, .ref 2, .ref 121, .null, .int 0, .null], vm := .none },
  { cls := 15, slots := #[.null, .ref 10, .ref 122, .null, .int 0, .null], vm := .none },
  { cls := 17, slots := #[.null, .ref 8, .ref 123, .null, .int 0, .null], vm := .none },
  { cls := 17, slots := #[.null, .ref 8, .ref 124, .null, .int 0, .null], vm := .none },
  { cls := 15, slots := #[.null, .ref 10, .ref 125, .null, .int 0, .null], vm := .none },
  { cls := 17, slots := #[.null, .ref 8, .ref 126, .null, .int 0, .null], vm := .none },
  { cls := 17, slots := #[.null, .ref 8, .ref 127, .null, .int 0, .null], vm := .none },
  { cls := 17, slots := #[.null, .ref 14, .ref 128, .null, .int 0, .null], vm := .none },
  { cls := 17, slots := #[.null, .ref 14, .ref 129, .null, .int 0, .null], vm := .none },
  { cls := 17, slots := #[.null, .ref 12, .ref 130, .null, .int 0, .null], vm := .none },
  { cls := 17, slots := #[.null, .ref 2, .ref 131, .null, .int 0, .null], vm := .none },
  { cls := 17, slots := #[.null, .ref 14, .ref 132, .null, .int 0, .null], vm := .none },
  { cls := 17, slots := #[.null, .ref 14, .ref 133, .null, .int 0, .null], vm := .none },
  { cls := 17, slots := #[.null, .ref 12, .ref 134, .null, .int 0, .null], vm := .none },
  { cls := 17, slots := #[.null, .ref 2, .ref 135, .null, .int 0, .null], vm := .none },
  { cls := 17, slots := #[.null, .ref 14, .ref 136, .null, .int 0, .null], vm := .none },
  { cls := 17, slots := #[.null, .ref 14, .ref 137, .null, .int 0, .null], vm := .none },
  { cls := 17, slots := #[.null, .ref 12, .ref 138, .null, .int 0, .null], vm := .none },
  { cls := 17, slots := #[.null, .ref 2, .ref 139, .null, .int 0, .null], vm := .none },
  { cls := 15, slots := #[.null, .ref 16, .ref 140, .null, .int 0, .null], vm := .none },
  { cls := 15, slots := #[.null, .ref 16, .ref 141, .null, .int 0, .null], vm := .none },
  { cls := 17, slots := #[.null, .ref 12, .ref 142, .null, .int 0, .null], vm := .none },
  { cls := 15, slots := #[.null, .ref 16, .ref 143, .null, .int 0, .null], vm := .none },
  { cls := 15, slots := #[.null, .ref 16, .ref 144, .null, .int 0, .null], vm := .none },
  { cls := 15, slots := #[.null, .ref 16, .ref 145, .null, .int 0, .null], vm := .none },
  { cls := 17, slots := #[.null, .ref 12, .ref 146, .null, .int 0, .null], vm := .none },
  { cls := 17, slots := #[.null, .ref 12, .ref 147, .null, .int 0, .null], vm := .none },
  { cls := 17, slots := #[.null, .ref 26, .ref 148, .null, .int 0, .null], vm := .none },
  { cls := 17, slots := #[.null, .ref 12, .ref 149, .null, .int 0, .null], vm := .none },
  { cls := 15, slots := #[.null, .ref 16, .ref 150, .null, .int 0, .null], vm := .none },
  { cls := 17, slots := #[.null, .ref 14, .ref 151, .null, .int 0, .null], vm := .none },
  { cls := 17, slots := #[.null, .ref 14, .ref 152, .null, .int 0, .null], vm := .none },
  { cls := 17, slots := #[.null, .ref 12, .ref 153, .null, .int 0, .null], vm := .none },
  { cls := 17, slots := #[.null, .ref 2, .ref 154, .null, .int 0, .null], vm := .none }]
def zr_f30 : List Frame := [.java { method := ⟨0, 21⟩, pc := 33, locals := #[.val (.ref 53), .val (.ref 55), .val (.ref 56), .val (.ref 57), .val (.ref 61), .val (.int 0), .val (.int 1), .val (.int 0), .unset], stack := [.int 5, .ref 61, .int 0], locked := none },
  .java { method := ⟨0, 24⟩, pc := 9, locals := #[.val (.ref 30), .val (.int 4), .val (.int 0), .val (.ref 53), .val (.ref 54), .val (.ref 55), .val (.ref 56), .val (.ref 57), .val (.ref 58), .val (.ref 59), .val (.ref 60), .val (.ref 61), .unset, .unset, .unset, .unset, .unset], stack := [], locked := none },
  .java { method := ⟨0, 0⟩, pc := 238, locals := #[.val (.ref 0), .val (.ref 30), .val (.ref 53), .val (.ref 54), .val (.ref 55), .val (.ref 56), .val (.ref 57), .val (.ref 58), .val (.ref 59), .val (.ref 60), .val (.ref 61), .val (.int 22), .val (.int 134), .val (.int 12)], stack := [], locked := none },
  .native { method := ⟨0, 0⟩, args := #[] }]
def zr_u30 : Nat := 2178
def zr_w30 : State := stepsAlone start1.p0.tables start1.e0 870 (zr_mk zr_w29 zr_h29 zr_f29 zr_u29)
set_option maxRecDepth 16384 in
theorem zr_s30 : zr_run start1.p0.tables start1.e0 (zr_same zr_h30 zr_f30 zr_u30) 870 (zr_mk zr_w29 zr_h29 zr_f29 zr_u29) = true := by decide +kernel
end
section
def zr_h31 : List Cell := [{ cls := 2, slots := #[.ref 31, .ref 37, .ref 40, .ref 45, .ref 49], vm := .none },
  { cls := 3, slots := #[.ref 32, .ref 33, .ref 34, .ref 35, .ref 36, .int 0], vm := .none },
  { cls := 20, slots := #[.int 2, .int 2, .int 4, .int 0], vm := .none },
  { cls := 20, slots := #[.int 2, .int (-1), .int (-1), .int (-1), .int (-1), .int (-1), .int (-1), .int (-1), .int (-1), .int 1, .int (-1), .int (-1), .int (-1), .int (-1), .int (-1), .int (-1), .int (-1), .int 1, .int 0, .int 2, .int (-1), .int (-1), .int (-1), .int (-1), .int (-1), .int (-1), .int (-1), .int (-1), .int (-1), .int (-1), .int (-1), .int (-1)], vm := .none },
  { cls := 22, slots := #[.int 0, .int 0, .int 0, .int 0, .int 0, .int 0, .int 0, .int 0, .int 0, .int 0, .int 0, .int 0, .int 0, .int 0, .int 0, .int 0, .int 0, .int 0, .int 0, .int 0, .int 0, .int 0, .int 0, .int 0, .int 0, .int 0, .int 0, .int 0, .int 0, .int 0, .int 0, .int 0], vm := .none },
  { cls := 20, slots := #[.int 0, .int 0, .int 0, .int 0, .int 0, .int 0, .int 0, .int 0, .int 0, .int 2, .int 0, .int 0, .int 0, .int 0, .int 0, .int 0, .int 4, .int 0, .int 0, .int 0, .int 0, .int 0, .int 0, .int 0, .int 0, .int 0, .int 0, .int 0, .int 0, .int 0, .int 0, .int 0], vm := .none },
  { cls := 20, slots := #[.int (-1), .int (-1), .int 0, .int (-1), .int (-1), .int (-1), .int (-1), .int (-1), .int (-1), .int (-1), .int (-1), .int (-1), .int (-1), .int (-1), .int (-1), .int (-1), .int (-1), .int (-1), .int (-1), .int (-1), .int (-1), .int 47, .int (-1), .int (-1), .int (-1), .int (-1), .int (-1), .int (-1), .int (-1), .int (-1), .int (-1), .int (-1), .int (-1), .int (-1), .int (-1), .int (-1), .int (-1), .int (-1), .int (-1), .int (-1), .int (-1), .int (-1), .int (-1), .int (-1), .int (-1), .int (-1), .int (-1), .int (-1), .int (-1), .int (-1), .int (-1), .int (-1), .int (-1), .int (-1), .int (-1), .int (-1), .int (-1), .int (-1), .int (-1), .int (-1), .int (-1), .int (-1), .int (-1), .int (-1), .int (-1), .int (-1), .int (-1), .int (-1), .int (-1), .int (-1), .int (-1), .int (-1), .int (-1), .int (-1), .int (-1), .int (-1), .int (-1), .int (-1), .int (-1), .int (-1), .int (-1), .int (-1), .int (-1), .int (-1), .int (-1), .int (-1), .int (-1), .int (-1), .int (-1), .int (-1), .int (-1), .int (-1), .int (-1), .int (-1), .int (-1), .int (-1), .int (-1), .int (-1), .int (-1), .int (-1), .int (-1), .int (-1), .int (-1), .int (-1), .int (-1), .int (-1), .int (-1), .int (-1), .int (-1), .int (-1), .int (-1), .int (-1), .int (-1), .int (-1), .int (-1), .int (-1), .int (-1), .int (-1), .int (-1), .int (-1), .int (-1), .int (-1), .int (-1), .int (-1), .int (-1), .int (-1), .int (-1), .int (-1), .int (-1), .int (-1), .int (-1), .int (-1), .int (-1), .int (-1), .int (-1), .int (-1), .int (-1), .int (-1), .int (-1), .int (-1), .int (-1), .int (-1), .int (-1), .int (-1), .int (-1), .int (-1), .int (-1), .int (-1), .int (-1), .int (-1), .int (-1), .int (-1), .int (-1), .int (-1), .int (-1), .int (-1), .int (-1), .int (-1), .int (-1), .int (-1), .int (-1), .int 47, .int 2, .int (-1), .int (-1), .int (-1), .int (-1), .int (-1), .int (-1), .int (-1), .int (-1), .int (-1), .int (-1), .int (-1), .int (-1), .int (-1), .int (-1), .int (-1), .int (-1), .int (-1), .int (-1), .int (-1), .int (-1), .int (-1), .int (-1), .int (-1), .int (-1), .int (-1), .int (-1), .int (-1), .int (-1), .int (-1), .int (-1), .int (-1), .int (-1), .int (-1), .int (-1), .int (-1), .int (-1), .int (-1), .int (-1), .int (-1), .int (-1), .int (-1), .int (-1), .int (-1), .int (-1), .int (-1), .int (-1), .int (-1), .int (-1), .int (-1), .int (-1), .int (-1), .int (-1), .int (-1), .int (-1), .int (-1), .int (-1), .int (-1), .int (-1), .int (-1), .int (-1), .int (-1), .int (-1), .int (-1), .int (-1), .int (-1), .int (-1), .int (-1), .int (-1), .int (-1), .int (-1), .int (-1), .int (-1), .int (-1), .int (-1), .int (-1), .int (-1), .int (-1), .int (-1), .int (-1), .int (-1), .int (-1), .int (-1), .int (-1), .int (-1), .int (-1), .int (-1), .int (-1), .int (-1), .int (-1), .int (-1), .int (-1), .int (-1), .int (-1), .int (-1), .int (-1), .int (-1), .int (-1), .int (-1), .int (-1), .int (-1), .int (-1), .int (-1), .int (-1), .int (-1), .int (-1), .int (-1), .int (-1), .int (-1), .int (-1), .int (-1), .int (-1), .int (-1), .int (-1), .int (-1), .int (-1), .int (-1), .int (-1), .int (-1), .int (-1), .int (-1), .int (-1), .int (-1), .int (-1), .int (-1), .int (-1), .int (-1), .int (-1), .int (-1), .int (-1), .int (-1), .int (-1), .int (-1), .int (-1), .int (-1), .int (-1), .int (-1), .int (-1), .int (-1), .int (-1), .int (-1), .int (-1), .int (-1), .int (-1), .int (-1), .int (-1), .int (-1), .int (-1), .int (-1), .int (-1), .int (-1), .int (-1), .int (-1), .int (-1), .int (-1), .int (-1), .int (-1), .int (-1), .int (-1), .int (-1), .int (-1), .int (-1), .int (-1), .int (-1), .int (-1), .int (-1), .int (-1), .int (-1), .int (-1), .int (-1), .int (-1), .int (-1), .int (-1), .int (-1), .int (-1), .int (-1), .int (-1), .int (-1), .int (-1), .int (-1), .int (-1), .int 1, .int (-1), .int (-1), .int (-1), .int (-1), .int (-1), .int (-1), .int (-1), .int (-1), .int (-1), .int (-1), .int (-1), .int (-1), .int (-1), .int (-1), .int (-1), .int (-1), .int (-1), .int (-1), .int (-1), .int (-1), .int (-1), .int (-1), .int (-1), .int (-1), .int (-1), .int (-1), .int (-1), .int (-1), .int (-1), .int (-1), .int (-1), .int (-1), .int (-1), .int (-1), .int (-1), .int (-1), .int (-1), .int (-1), .int (-1), .int (-1), .int (-1), .int (-1), .int (-1), .int (-1), .int (-1), .int (-1), .int (-1), .int (-1), .int (-1), .int (-1), .int (-1), .int (-1), .int (-1), .int (-1), .int (-1), .int (-1), .int (-1), .int (-1), .int (-1), .int (-1), .int (-1), .int (-1), .int (-1), .int (-1), .int (-1), .int (-1), .int (-1), .int (-1), .int (-1), .int (-1), .int (-1), .int (-1), .int (-1), .int (-1), .int (-1), .int (-1), .int (-1), .int (-1), .int (-1), .int (-1), .int (-1), .int (-1), .int (-1), .int (-1), .int (-1), .int (-1), .int (-1), .int (-1), .int (-1), .int (-1), .int (-1), .int (-1), .int (-1), .int (-1), .int (-1), .int (-1), .int (-1), .int (-1), .int (-1), .int (-1), .int (-1), .int (-1), .int (-1), .int (-1), .int (-1), .int (-1), .int (-1), .int (-1), .int (-1), .int (-1), .int (-1), .int (-1), .int (-1), .int (-1), .int (-1), .int (-1), .int (-1), .int (-1), .int (-1), .int (-1), .int (-1), .int (-1), .int (-1), .int (-1), .int (-1), .int (-1), .int (-1), .int (-1), .int (-1), .int (-1), .int (-1), .int (-1), .int (-1), .int (-1), .int (-1), .int (-1), .int (-1), .int (-1), .int (-1), .int (-1), .int (-1), .int (-1), .int (-1), .int (-1), .int (-1), .int (-1), .int (-1), .int (-1), .int (-1), .int (-1), .int (-1), .int (-1), .int (-1), .int (-1), .int (-1), .int (-1), .int (-1), .int (-1), .int (-1), .int (-1), .int (-1), .int (-1), .int (-1), .int (-1), .int (-1), .int (-1), .int (-1), .int (-1), .int (-1), .int (-1), .int (-1), .int (-1), .int (-1), .int (-1), .int (-1), .int (-1), .int (-1), .int (-1), .int (-1), .int (-1), .int (-1), .int (-1), .int (-1), .int (-1), .int (-1), .int (-1), .int (-1), .int (-1), .int (-1), .int (-1), .int (-1), .int (-1), .int (-1), .int (-1), .int (-1), .int (-1), .int (-1), .int (-1), .int (-1), .int (-1), .int (-1), .int (-1), .int (-1), .int (-1), .int (-1), .int (-1), .int (-1), .int (-1), .int (-1), .int (-1), .int (-1), .int (-1), .int (-1), .int (-1), .int (-1), .int (-1), .int (-1), .int (-1), .int (-1), .int (-1), .int (-1), .int (-1), .int (-1), .int (-1), .int (-1), .int (-1), .int (-1), .int (-1), .int (-1), .int (-1), .int (-1), .int (-1), .int (-1), .int (-1), .int (-1), .int (-1), .int (-1), .int (-1), .int (-1), .int (-1), .int (-1), .int (-1), .int (-1), .int (-1), .int (-1), .int (-1), .int (-1), .int (-1), .int (-1), .int (-1), .int (-1), .int (-1), .int (-1), .int (-1), .int (-1), .int (-1), .int (-1), .int (-1), .int (-1), .int (-1), .int (-1), .int (-1), .int (-1), .int (-1), .int (-1), .int (-1), .int (-1), .int (-1), .int (-1), .int (-1), .int (-1), .int (-1), .int (-1), .int (-1), .int (-1), .int (-1), .int (-1), .int (-1), .int (-1), .int (-1), .int (-1), .int (-1), .int (-1), .int (-1), .int (-1), .int (-1), .int (-1), .int (-1), .int (-1), .int (-1), .int (-1), .int (-1), .int (-1), .int (-1), .int (-1), .int (-1)], vm := .none },
  { cls := 5, slots := #[.ref 38, .ref 39, .int 0, .int 0], vm := .none },
  { cls := 20, slots := #[.int 0, .int 0, .int 0, .int 0, .int 0, .int 0, .int 0, .int 0, .int 0, .int 0, .int 0, .int 0], vm := .none },
  { cls := 20, slots := #[.int 0, .int 0, .int 0, .int 0, .int 0, .int 0, .int 0, .int 0, .int 0, .int 0, .int 0, .int 0], vm := .none },
  { cls := 6, slots := #[.ref 31, .ref 37, .ref 41, .ref 42, .ref 43, .ref 44, .int 0, .int 0, .int 1, .int 1], vm := .none },
  { cls := 20, slots := #[.int 0, .int 0, .int 0, .int 0, .int 0, .int 0, .int 0, .int 0, .int 0, .int 0, .int 0, .int 0], vm := .none },
  { cls := 20, slots := #[.int 0, .int 0, .int 0, .int 0, .int 0, .int 0, .int 0, .int 0, .int 0, .int 0, .int 0, .int 0], vm := .none },
  { cls := 20, slots := #[.int 0, .int 0, .int 0, .int 0, .int 0, .int 0, .int 0, .int 0, .int 0, .int 0, .int 0, .int 0, .int 0, .int 0, .int 0, .int 0, .int 0, .int 0, .int 0, .int 0, .int 0, .int 0, .int 0, .int 0, .int 0, .int 0, .int 0, .int 0, .int 0, .int 0, .int 0, .int 0, .int 0, .int 0, .int 0, .int 0, .int 0, .int 0, .int 0, .int 0, .int 0, .int 0, .int 0, .int 0, .int 0, .int 0, .int 0, .int 0], vm := .none },
  { cls := 20, slots := #[.int 0, .int 0, .int 0, .int 0, .int 0, .int 0, .int 0, .int 0, .int 0, .int 0, .int 0, .int 0], vm := .none },
  { cls := 7, slots := #[.ref 31, .ref 37, .ref 40, .ref 46, .ref 47, .ref 48, .int 0], vm := .none },
  { cls := 20, slots := #[.int 0, .int 0, .int 0, .int 0, .int 0, .int 0, .int 0, .int 0, .int 0, .int 0, .int 0, .int 0], vm := .none },
  { cls := 20, slots := #[.int 0, .int 0, .int 0, .int 0, .int 0, .int 0, .int 0, .int 0, .int 0, .int 0, .int 0, .int 0], vm := .none },
  { cls := 22, slots := #[.int 0, .int 0, .int 0, .int 0, .int 0, .int 0, .int 0, .int 0, .int 0, .int 0, .int 0, .int 0], vm := .none },
  { cls := 7, slots := #[.ref 31, .ref 37, .ref 40, .ref 50, .ref 51, .ref 52, .int 0], vm := .none },
  { cls := 20, slots := #[.int 0, .int 0, .int 0, .int 0, .int 0, .int 0, .int 0, .int 0, .int 0, .int 0, .int 0, .int 0], vm := .none },
  { cls := 20, slots := #[.int 0, .int 0, .int 0, .int 0, .int 0, .int 0, .int 0, .int 0, .int 0, .int 0, .int 0, .int 0], vm := .none },
  { cls := 22, slots := #[.int 0, .int 0, .int 0, .int 0, .int 0, .int 0, .int 0, .int 0, .int 0, .int 0, .int 0, .int 0], vm := .none },
  { cls := 20, slots := #[.int 3, .int 0, .int 0, .int 0, .int 0, .int 34, .int 0, .int 0, .int 64, .int 2, .int 1, .int 3], vm := .none },
  { cls := 20, slots := #[.int 0, .int 0, .int 0, .int 0, .int 0, .int 48, .int 0, .int 0, .int 1, .int 0, .int 0, .int 0, .int 0, .int 0, .int 0, .int 0, .int 0, .int 0, .int 0, .int 0, .int 0, .int 0, .int 0, .int 0, .int 48, .int 0, .int 0, .int 0, .int 3, .int 0, .int 0, .int 0, .int 0, .int 0, .int 0, .int 0, .int 0, .int 0, .int 0, .int 0, .int 0, .int 0, .int 0, .int 0, .int 0, .int 0, .int 0, .int 0, .int 0, .int 0, .int 0, .int 0, .int 0, .int 2, .int 0, .int 0, .int 0, .int 0, .int 0, .int 0], vm := .none },
  { cls := 20, slots := #[.int 0, .int 0, .int 0, .int 0, .int 0, .int 0], vm := .none },
  { cls := 20, slots := #[.int 0, .int 0, .int 0, .int 0, .int 0, .int 0], vm := .none },
  { cls := 20, slots := #[.int 0, .int 0, .int 0, .int 0, .int 0, .int 0], vm := .none },
  { cls := 20, slots := #[.int 0, .int 0, .int 0, .int 0, .int 0, .int 0], vm := .none },
  { cls := 20, slots := #[.int 0, .int 0, .int 0, .int 0, .int 0, .int 0], vm := .none },
  { cls := 20, slots := #[.int 0, .int 0, .int 0, .int 0, .int 0, .int 0], vm := .none },
  { cls := 20, slots := #[.int 2, .int 2, .int 4, .int 0, .int 0, .int 0, .int 0, .int 0], vm := .none },
  { cls := 15, slots := #[.null, .ref 16, .ref 62, .null, .int 0, .null], vm := .none },
  { cls := 15, slots := #[.null, .ref 16, .ref 63, .null, .int 0, .null], vm := .none },
  { cls := 17, slots := #[.null, .ref 12, .ref 64, .null, .int 0, .null], vm := .none },
  { cls := 15, slots := #[.null, .ref 16, .ref 65, .null, .int 0, .null], vm := .none },
  { cls := 15, slots := #[.null, .ref 16, .ref 66, .null, .int 0, .null], vm := .none },
  { cls := 15, slots := #[.null, .ref 16, .ref 67, .null, .int 0, .null], vm := .none },
  { cls := 17, slots := #[.null, .ref 12, .ref 68, .null, .int 0, .null], vm := .none },
  { cls := 17, slots := #[.null, .ref 12, .ref 69, .null, .int 0, .null], vm := .none },
  { cls := 17, slots := #[.null, .ref 26, .ref 70, .null, .int 0, .null], vm := .none },
  { cls := 17, slots := #[.null, .ref 12, .ref 71, .null, .int 0, .null], vm := .none },
  { cls := 15, slots := #[.null, .ref 16, .ref 72, .null, .int 0, .null], vm := .none },
  { cls := 17, slots := #[.null, .ref 2, .ref 73, .null, .int 0, .null], vm := .none },
  { cls := 17, slots := #[.null, .ref 2, .ref 74, .null, .int 0, .null], vm := .none },
  { cls := 17, slots := #[.null, .ref 4, .ref 75, .null, .int 0, .null], vm := .none },
  { cls := 17, slots := #[.null, .ref 4, .ref 76, .null, .int 0, .null], vm := .none },
  { cls := 17, slots := #[.null, .ref 2, .ref 77, .null, .int 0, .null], vm := .none },
  { cls := 17, slots := #[.null, .ref 2, .ref 78, .null, .int 0, .null], vm := .none },
  { cls := 17, slots := #[.null, .ref 4, .ref 79, .null, .int 0, .null], vm := .none },
  { cls := 17, slots := #[.null, .ref 4, .ref 80, .null, .int 0, .null], vm := .none },
  { cls := 17, slots := #[.null, .ref 2, .ref 81, .null, .int 0, .null], vm := .none },
  { cls := 17, slots := #[.null, .ref 2, .ref 82, .null, .int 0, .null], vm := .none },
  { cls := 17, slots := #[.null, .ref 4, .ref 83, .null, .int 0, .null], vm := .none },
  { cls := 17, slots := #[.null, .ref 4, .ref 84, .null, .int 0, .null], vm := .none },
  { cls := 17, slots := #[.null, .ref 2, .ref 85, .null, .int 0, .null], vm := .none },
  { cls := 17, slots := #[.null, .ref 2, .ref 86, .null, .int 0, .null], vm := .none },
  { cls := 17, slots := #[.null, .ref 4, .ref 87, .null, .int 0, .null], vm := .none },
  { cls := 17, slots := #[.null, .ref 4, .ref 88, .null, .int 0, .null], vm := .none },
  { cls := 17, slots := #[.null, .ref 2, .ref 89, .null, .int 0, .null], vm := .none },
  { cls := 17, slots := #[.null, .ref 2, .ref 90, .null, .int 0, .null], vm := .none },
  { cls := 17, slots := #[.null, .ref 4, .ref 91, .null, .int 0, .null], vm := .none },
  { cls := 17, slots := #[.null, .ref 4, .ref 92, .null, .int 0, .null], vm := .none },
  { cls := 17, slots := #[.null, .ref 2, .ref 93, .null, .int 0, .null], vm := .none },
  { cls := 17, slots := #[.null, .ref 2, .ref 94, .null, .int 0, .null], vm := .none },
  { cls := 17, slots := #[.null, .ref 4, .ref 95, .null, .int 0, .null], vm := .none },
  { cls := 17, slots := #[.null, .ref 4, .ref 96, .null, .int 0, .null], vm := .none },
  { cls := 17, slots := #[.null, .ref 2, .ref 97, .null, .int 0, .null], vm := .none },
  { cls := 17, slots := #[.null, .ref 2, .ref 98, .null, .int 0, .null], vm := .none },
  { cls := 17, slots := #[.null, .ref 4, .ref 99, .null, .int 0, .null], vm := .none },
  { cls := 17, slots := #[.null, .ref 4, .ref 100, .null, .int 0, .null], vm := .none },
  { cls := 17, slots := #[.null, .ref 2, .ref 101, .null, .int 0, .null], vm := .none },
  { cls := 17, slots := #[.null, .ref 2, .ref 102, .null, .int 0, .null], vm := .none },
  { cls := 17, slots := #[.null, .ref 4, .ref 103, .null, .int 0, .null], vm := .none },
  { cls := 17, slots := #[.null, .ref 4, .ref 104, .null, .int 0, .null], vm := .none },
  { cls := 15, slots := #[.null, .ref 10, .ref 105, .null, .int 0, .null], vm := .none },
  { cls := 17, slots := #[.null, .ref 8, .ref 106, .null, .int 0, .null], vm := .none },
  { cls := 17, slots := #[.null, .ref 2, .ref 107, .null, .int 0, .null], vm := .none },
  { cls := 15, slots := #[.null, .ref 10, .ref 108, .null, .int 0, .null], vm := .none },
  { cls := 17, slots := #[.null, .ref 12, .ref 109, .null, .int 0, .null], vm := .none },
  { cls := 17, slots := #[.null, .ref 14, .ref 110, .null, .int 0, .null], vm := .none },
  { cls := 17, slots := #[.null, .ref 14, .ref 111, .null, .int 0, .null], vm := .none },
  { cls := 17, slots := #[.null, .ref 12, .ref 112, .null, .int 0, .null], vm := .none },
  { cls := 17, slots := #[.null, .ref 2, .ref 113, .null, .int 0, .null], vm := .none },
  { cls := 17, slots := #[.null, .ref 14, .ref 114, .null, .int 0, .null], vm := .none },
  { cls := 17, slots := #[.null, .ref 14, .ref 115, .null, .int 0, .null], vm := .none },
  { cls := 17, slots := #[.null, .ref 12, .ref 116, .null, .int 0, .null], vm := .none },
  { cls := 17, slots := #[.null, .ref 2, .ref 117, .null, .int 0, .null], vm := .none },
  { cls := 17, slots := #[.null, .ref 14, .ref 118, .null, .int 0, .null], vm := .none },
  { cls := 17, slots := #[.null, .ref 14, .ref 119, .null, .int 0, .null], vm := .none },
  { cls := 17, slots := #[.null, .ref 12, .ref 120, .null, .int 0, .null], vm := .none },
  { cls := 17, slots := #[.null, .ref 2, .ref 121, .null, .int 0, .null], vm := .none },
  { cls := 15, slots := #[.null, .ref 10, .ref 122, .null, .int 0, .null], vm := .none },
  { cls := 17, slots := #[.null, .ref 8, .ref 123, .null, .int 0, .null], vm := .none },
  { cls := 17, slots := #[.null, .ref 8, .ref 124, .null, .int 0, .null], vm := .none },
  { cls := 15, slots := #[.null, .ref 10, .ref 125, .null, .int 0, .null], vm := .none },
  { cls := 17, slots := #[.null, .ref 8, .ref 126, .null, .int 0, .null], vm := .none },
  { cls := 17, slots := #[.null, .ref 8, .ref 127, .null, .int 0, .null], vm := .none },
  { cls := 17, slots := #[.null, .ref 14, .ref 128, .null, .int 0, .null], vm := .none },
  { cls := 17, slots := #[.null, .ref 14, .ref 129, .null, .int 0, .null], vm := .none },
  { cls := 17, slots := #[.null, .ref 12, .ref 130, .null, .int 0, .null], vm := .none },
  { cls := 17, slots := #[.null, .ref 2, .ref 131, .null, .int 0, .null], vm := .none },
  { cls := 17, slots := #[.null, .ref 14, .ref 132, .null, .int 0, .null], vm := .none },
  { cls := 17, slots := #[.null, .ref 14, .ref 133, .null, .int 0, .null], vm := .none },
  { cls := 17, slots := #[.null, .ref 12, .ref 134, .null, .int 0, .null], vm := .none },
  { cls := 17, slots := #[.null, .ref 2, .ref 135, .null, .int 0, .null], vm := .none },
  { cls := 17, slots := #[.null, .ref 14, .ref 136, .null, .int 0, .null], vm := .none },
  { cls := 17, slots := #[.null, .ref 14, .ref 137, .null, .int 0, .null], vm := .none },
  { cls := 17, slots := #[.null, .ref 12, .ref 138, .null, .int 0, .null], vm := .none },
  { cls := 17, slots := #[.null, .ref 2, .ref 139, .null, .int 0, .null], vm := .none },
  { cls := 15, slots := #[.null, .ref 16, .ref 140, .null, .int 0, .null], vm := .none },
  { cls := 15, slots := #[.null, .ref 16, .ref 141, .null, .int 0, .null], vm := .none },
  { cls := 17, slots := #[.null, .ref 12, .ref 142, .null, .int 0, .null], vm := .none },
  { cls := 15, slots := #[.null, .ref 16, .ref 143, .null, .int 0, .null], vm := .none },
  { cls := 15, slots := #[.null, .ref 16, .ref 144, .null, .int 0, .null], vm := .none },
  { cls := 15, slots := #[.null, .ref 16, .ref 145, .null, .int 0, .null], vm := .none },
  { cls := 17, slots := #[.null, .ref 12, .ref 146, .null, .int 0, .null], vm := .none },
  { cls := 17, slots := #[.null, .ref 12, .ref 147, .null, .int 0, .null], vm := .none },
  { cls := 17, slots := #[.null, .ref 26, .ref 148, .null, .int 0, .null], vm := .none },
  { cls := 17, slots := #[.null, .ref 12, .ref 149, .null, .int 0, .null], vm := .none },
  { cls := 15, slots := #[.null, .ref 16, .ref 150, .null, .int 0, .null], vm := .none },
  { cls := 17, slots := #[.null, .ref 14, .ref 151, .null, .int 0, .null], vm := .none },
  { cls := 17, slots := #[.null, .ref 14, .ref 152, .null, .int 0, .null], vm := .none },
  { cls := 17, slots := #[.null, .ref 12, .ref 153, .null, .int 0, .null], vm := .none },
  { cls := 17, slots := #[.null, .ref 2, .ref 154, .null, .int 0, .null], vm := .none },
  { cls := 15, slots := #[.null, .ref 16, .ref 155, .null, .int 0, .null], vm := .none },
  { cls := 15, slots := #[.null, .ref 16, .ref 156, .null, .int 0, .null], vm := .none },
  { cls := 17, slots := #[.null, .ref 12, .ref 157, .null, .int 0, .null], vm := .none },
  { cls := 15, slots := #[.null, .ref 16, .ref 158, .null, .int 0, .null], vm := .none },
  { cls := 15, slots := #[.null, .ref 16, .ref 159, .null, .int 0, .null], vm := .none },
  { cls := 15, slots := #[.null, .ref 16, .ref 160, .null, .int 0, .null], vm := .none },
  { cls := 17, slots := #[.null, .ref 12, .ref 161, .null, .int 0, .null], vm := .none },
  { cls := 17, slots := #[.null, .ref 12, .ref 162, .null, .int 0, .null], vm := .none }]
def zr_f31 : List Frame := [.java { method := ⟨2, 26⟩, pc := 1, locals := #[.val (.int 4)], stack := [.int 4], locked := none },
  .java { method := ⟨2, 15⟩, pc := 5, locals := #[.val (.ref 30), .val (.int 0), .val (.int 5), .val (.int 4), .unset, .unset], stack := [], locked := none },
  .java { method := ⟨0, 16⟩, pc := 4, locals := #[.val (.ref 30), .val (.int 0), .val (.int 5), .val (.int 4), .unset, .unset], stack := [], locked := none },
  .java { method := ⟨0, 24⟩, pc := 183, locals := #[.val (.ref 30), .val (.int 4), .val (.int 0), .val (.ref 53), .val (.ref 54), .val (.ref 55), .val (.ref 56), .val (.ref 57), .val (.ref 58), .val (.ref 59), .val (.ref 60), .val (.ref 61), .val (.int 0), .val (.int 0), .unset, .unset, .unset], stack := [], locked := none },
  .java { method := ⟨0, 0⟩, pc := 238, locals := #[.val (.ref 0), .val (.ref 30), .val (.ref 53), .val (.ref 54), .val (.ref 55), .val (.ref 56), .val (.ref 57), .val (.ref 58), .val (.ref 59), .val (.ref 60), .val (.ref 61), .val (.int 22), .val (.int 134), .val (.int 12)], stack := [], locked := none },
  .native { method := ⟨0, 0⟩, args := #[] }]
def zr_u31 : Nat := 2226
def zr_w31 : State := stepsAlone start1.p0.tables start1.e0 759 (zr_mk zr_w30 zr_h30 zr_f30 zr_u30)
set_option maxRecDepth 16384 in
theorem zr_s31 : zr_run start1.p0.tables start1.e0 (zr_same zr_h31 zr_f31 zr_u31) 759 (zr_mk zr_w30 zr_h30 zr_f30 zr_u30) = true := by decide +kernel
end
section
def zr_h32 : List Cell := [{ cls := 2, slots := #[.ref 31, .ref 37, .ref 40, .ref 45, .ref 49], vm := .none },
  { cls := 3, slots := #[.ref 32, .ref 33, .ref 34, .ref 35, .ref 36, .int 0], vm := .none },
  { cls := 20, slots := #[.int 2, .int 2, .int 4, .int 0], vm := .none },
  { cls := 20, slots := #[.int 2, .int (-1), .int (-1), .int (-1), .int (-1), .int (-1), .int (-1), .int (-1), .int (-1), .int 1, .int (-1), .int (-1), .int (-1), .int (-1), .int (-1), .int (-1), .int (-1), .int 1, .int 0, .int 2, .int (-1), .int (-1), .int (-1), .int (-1), .int (-1), .int (-1), .int (-1), .int (-1), .int (-1), .int (-1), .int (-1), .int (-1)], vm := .none },
  { cls := 22, slots := #[.int 0, .int 0, .int 0, .int 0, .int 0, .int 0, .int 0, .int 0, .int 0, .int 0, .int 0, .int 0, .int 0, .int 0, .int 0, .int 0, .int 0, .int 0, .int 0, .int 0, .int 0, .int 0, .int 0, .int 0, .int 0, .int 0, .int 0, .int 0, .int 0, .int 0, .int 0, .int 0], vm := .none },
  { cls := 20, slots := #[.int 0, .int 0, .int 0, .int 0, .int 0, .int 0, .int 0, .int 0, .int 0, .int 2, .int 0, .int 0, .int 0, .int 0, .int 0, .int 0, .int 4, .int 0, .int 0, .int 0, .int 0, .int 0, .int 0, .int 0, .int 0, .int 0, .int 0, .int 0, .int 0, .int 0, .int 0, .int 0], vm := .none },
  { cls := 20, slots := #[.int (-1), .int (-1), .int 0, .int (-1), .int (-1), .int (-1), .int (-1), .int (-1), .int (-1), .int (-1), .int (-1), .int (-1), .int (-1), .int (-1), .int (-1), .int (-1), .int (-1), .int (-1), .int (-1), .int (-1), .int (-1), .int 47, .int (-1), .int (-1), .int (-1), .int (-1), .int (-1), .int (-1), .int (-1), .int (-1), .int (-1), .int (-1), .int (-1), .int (-1), .int (-1), .int (-1), .int (-1), .int (-1), .int (-1), .int (-1), .int (-1), .int (-1), .int (-1), .int (-1), .int (-1), .int (-1), .int (-1), .int (-1), .int (-1), .int (-1), .int (-1), .int (-1), .int (-1), .int (-1), .int (-1), .int (-1), .int (-1), .int (-1), .int (-1), .int (-1), .int (-1), .int (-1), .int (-1), .int (-1), .int (-1), .int (-1), .int (-1), .int (-1), .int (-1), .int (-1), .int (-1), .int (-1), .int (-1), .int (-1), .int (-1), .int (-1), .int (-1), .int (-1), .int (-1), .int (-1), .int (-1), .int (-1), .int (-1), .int (-1), .int (-1), .int (-1), .int (-1), .int (-1), .int (-1), .int (-1), .int (-1), .int (-1), .int (-1), .int (-1), .int (-1), .int (-1), .int (-1), .int (-1), .int (-1), .int (-1), .int (-1), .int (-1), .int (-1), .int (-1), .int (-1), .int (-1), .int (-1), .int (-1), .int (-1), .int (-1), .int (-1), .int (-1), .int (-1), .int (-1), .int (-1), .int (-1), .int (-1), .int (-1), .int (-1), .int (-1), .int (-1), .int (-1), .int (-1), .int (-1), .int (-1), .int (-1), .int (-1), .int (-1), .int (-1), .int (-1), .int (-1), .int (-1), .int (-1), .int (-1), .int (-1), .int (-1), .int (-1), .int (-1), .int (-1), .int (-1), .int (-1), .int (-1), .int (-1), .int (-1), .int (-1), .int (-1), .int (-1), .int (-1), .int (-1), .int (-1), .int (-1), .int (-1), .int (-1), .int (-1), .int (-1), .int (-1), .int (-1), .int (-1), .int (-1), .int (-1), .int (-1), .int 47, .int 2, .int (-1), .int (-1), .int (-1), .int (-1), .int (-1), .int (-1), .int (-1), .int (-1), .int (-1), .int (-1), .int (-1), .int (-1), .int (-1), .int (-1), .int (-1), .int (-1), .int (-1), .int (-1), .int (-1), .int (-1), .int (-1), .int (-1), .int (-1), .int (-1), .int (-1), .int (-1), .int (-1), .int (-1), .int (-1), .int (-1), .int (-1), .int (-1), .int (-1), .int (-1), .int (-1), .int (-1), .int (-1), .int (-1), .int (-1), .int (-1), .int (-1), .int (-1), .int (-1), .int (-1), .int (-1), .int (-1), .int (-1), .int (-1), .int (-1), .int (-1), .int (-1), .int (-1), .int (-1), .int (-1), .int (-1), .int (-1), .int (-1), .int (-1), .int (-1), .int (-1), .int (-1), .int (-1), .int (-1), .int (-1), .int (-1), .int (-1), .int (-1), .int (-1), .int (-1), .int (-1), .int (-1), .int (-1), .int (-1), .int (-1), .int (-1), .int (-1), .int (-1), .int (-1), .int (-1), .int (-1), .int (-1), .int (-1), .int (-1), .int (-1), .int (-1), .int (-1), .int (-1), .int (-1), .int (-1), .int (-1), .int (-1), .int (-1), .int (-1), .int (-1), .int (-1), .int (-1), .int (-1), .int (-1), .int (-1), .int (-1), .int (-1), .int (-1), .int (-1), .int (-1), .int (-1), .int (-1), .int (-1), .int (-1), .int (-1), .int (-1), .int (-1), .int (-1), .int (-1), .int (-1), .int (-1), .int (-1), .int (-1), .int (-1), .int (-1), .int (-1), .int (-1), .int (-1), .int (-1), .int (-1), .int (-1), .int (-1), .int (-1), .int (-1), .int (-1), .int (-1), .int (-1), .int (-1), .int (-1), .int (-1), .int (-1), .int (-1), .int (-1), .int (-1), .int (-1), .int (-1), .int (-1), .int (-1), .int (-1), .int (-1), .int (-1), .int (-1), .int (-1), .int (-1), .int (-1), .int (-1), .int (-1), .int (-1), .int (-1), .int (-1), .int (-1), .int (-1), .int (-1), .int (-1), .int (-1), .int (-1), .int (-1), .int (-1), .int (-1), .int (-1), .int (-1), .int (-1), .int (-1), .int (-1), .int (-1), .int (-1), .int (-1), .int (-1), .int (-1), .int (-1), .int (-1), .int (-1), .int (-1), .int (-1), .int (-1), .int (-1), .int 1, .int (-1), .int (-1), .int (-1), .int (-1), .int (-1), .int (-1), .int (-1), .int (-1), .int (-1), .int (-1), .int (-1), .int (-1), .int (-1), .int (-1), .int (-1), .int (-1), .int (-1), .int (-1), .int (-1), .int (-1), .int (-1), .int (-1), .int (-1), .int (-1), .int (-1), .int (-1), .int (-1), .int (-1), .int (-1), .int (-1), .int (-1), .int (-1), .int (-1), .int (-1), .int (-1), .int (-1), .int (-1), .int (-1), .int (-1), .int (-1), .int (-1), .int (-1), .int (-1), .int (-1), .int (-1), .int (-1), .int (-1), .int (-1), .int (-1), .int (-1), .int (-1), .int (-1), .int (-1), .int (-1), .int (-1), .int (-1), .int (-1), .int (-1), .int (-1), .int (-1), .int (-1), .int (-1), .int (-1), .int (-1), .int (-1), .int (-1), .int (-1), .int (-1), .int (-1), .int (-1), .int (-1), .int (-1), .int (-1), .int (-1), .int (-1), .int (-1), .int (-1), .int (-1), .int (-1), .int (-1), .int (-1), .int (-1), .int (-1), .int (-1), .int (-1), .int (-1), .int (-1), .int (-1), .int (-1), .int (-1), .int (-1), .int (-1), .int (-1), .int (-1), .int (-1), .int (-1), .int (-1), .int (-1), .int (-1), .int (-1), .int (-1), .int (-1), .int (-1), .int (-1), .int (-1), .int (-1), .int (-1), .int (-1), .int (-1), .int (-1), .int (-1), .int (-1), .int (-1), .int (-1), .int (-1), .int (-1), .int (-1), .int (-1), .int (-1), .int (-1), .int (-1), .int (-1), .int (-1), .int (-1), .int (-1), .int (-1), .int (-1), .int (-1), .int (-1), .int (-1), .int (-1), .int (-1), .int (-1), .int (-1), .int (-1), .int (-1), .int (-1), .int (-1), .int (-1), .int (-1), .int (-1), .int (-1), .int (-1), .int (-1), .int (-1), .int (-1), .int (-1), .int (-1), .int (-1), .int (-1), .int (-1), .int (-1), .int (-1), .int (-1), .int (-1), .int (-1), .int (-1), .int (-1), .int (-1), .int (-1), .int (-1), .int (-1), .int (-1), .int (-1), .int (-1), .int (-1), .int (-1), .int (-1), .int (-1), .int (-1), .int (-1), .int (-1), .int (-1), .int (-1), .int (-1), .int (-1), .int (-1), .int (-1), .int (-1), .int (-1), .int (-1), .int (-1), .int (-1), .int (-1), .int (-1), .int (-1), .int (-1), .int (-1), .int (-1), .int (-1), .int (-1), .int (-1), .int (-1), .int (-1), .int (-1), .int (-1), .int (-1), .int (-1), .int (-1), .int (-1), .int (-1), .int (-1), .int (-1), .int (-1), .int (-1), .int (-1), .int (-1), .int (-1), .int (-1), .int (-1), .int (-1), .int (-1), .int (-1), .int (-1), .int (-1), .int (-1), .int (-1), .int (-1), .int (-1), .int (-1), .int (-1), .int (-1), .int (-1), .int (-1), .int (-1), .int (-1), .int (-1), .int (-1), .int (-1), .int (-1), .int (-1), .int (-1), .int (-1), .int (-1), .int (-1), .int (-1), .int (-1), .int (-1), .int (-1), .int (-1), .int (-1), .int (-1), .int (-1), .int (-1), .int (-1), .int (-1), .int (-1), .int (-1), .int (-1), .int (-1), .int (-1), .int (-1), .int (-1), .int (-1), .int (-1), .int (-1), .int (-1), .int (-1), .int (-1), .int (-1), .int (-1), .int (-1), .int (-1), .int (-1), .int (-1), .int (-1), .int (-1), .int (-1), .int (-1), .int (-1), .int (-1), .int (-1), .int (-1), .int (-1), .int (-1), .int (-1), .int (-1), .int (-1), .int (-1), .int (-1), .int (-1), .int (-1), .int (-1), .int (-1), .int (-1), .int (-1), .int (-1), .int (-1), .int (-1), .int (-1), .int (-1), .int (-1), .int (-1), .int (-1), .int (-1), .int (-1)], vm := .none },
  { cls := 5, slots := #[.ref 38, .ref 39, .int 0, .int 0], vm := .none },
  { cls := 20, slots := #[.int 0, .int 0, .int 0, .int 0, .int 0, .int 0, .int 0, .int 0, .int 0, .int 0, .int 0, .int 0], vm := .none },
  { cls := 20, slots := #[.int 0, .int 0, .int 0, .int 0, .int 0, .int 0, .int 0, .int 0, .int 0, .int 0, .int 0, .int 0], vm := .none },
  { cls := 6, slots := #[.ref 31, .ref 37, .ref 41, .ref 42, .ref 43, .ref 44, .int 0, .int 0, .int 1, .int 1], vm := .none },
  { cls := 20, slots := #[.int 0, .int 0, .int 0, .int 0, .int 0, .int 0, .int 0, .int 0, .int 0, .int 0, .int 0, .int 0], vm := .none },
  { cls := 20, slots := #[.int 0, .int 0, .int 0, .int 0, .int 0, .int 0, .int 0, .int 0, .int 0, .int 0, .int 0, .int 0], vm := .none },
  { cls := 20, slots := #[.int 0, .int 0, .int 0, .int 0, .int 0, .int 0, .int 0, .int 0, .int 0, .int 0, .int 0, .int 0, .int 0, .int 0, .int 0, .int 0, .int 0, .int 0, .int 0, .int 0, .int 0, .int 0, .int 0, .int 0, .int 0, .int 0, .int 0, .int 0, .int 0, .int 0, .int 0, .int 0, .int 0, .int 0, .int 0, .int 0, .int 0, .int 0, .int 0, .int 0, .int 0, .int 0, .int 0, .int 0, .int 0, .int 0, .int 0, .int 0], vm := .none },
  { cls := 20, slots := #[.int 0, .int 0, .int 0, .int 0, .int 0, .int 0, .int 0, .int 0, .int 0, .int 0, .int 0, .int 0], vm := .none },
  { cls := 7, slots := #[.ref 31, .ref 37, .ref 40, .ref 46, .ref 47, .ref 48, .int 0], vm := .none },
  { cls := 20, slots := #[.int 0, .int 0, .int 0, .int 0, .int 0, .int 0, .int 0, .int 0, .int 0, .int 0, .int 0, .int 0], vm := .none },
  { cls := 20, slots := #[.int 0, .int 0, .int 0, .int 0, .int 0, .int 0, .int 0, .int 0, .int 0, .int 0, .int 0, .int 0], vm := .none },
  { cls := 22, slots := #[.int 0, .int 0, .int 0, .int 0, .int 0, .int 0, .int 0, .int 0, .int 0, .int 0, .int 0, .int 0], vm := .none },
  { cls := 7, slots := #[.ref 31, .ref 37, .ref 40, .ref 50, .ref 51, .ref 52, .int 0], vm := .none },
  { cls := 20, slots := #[.int 0, .int 0, .int 0, .int 0, .int 0, .int 0, .int 0, .int 0, .int 0, .int 0, .int 0, .int 0], vm := .none },
  { cls := 20, slots := #[.int 0, .int 0, .int 0, .int 0, .int 0, .int 0, .int 0, .int 0, .int 0, .int 0, .int 0, .int 0], vm := .none },
  { cls := 22, slots := #[.int 0, .int 0, .int 0, .int 0, .int 0, .int 0, .int 0, .int 0, .int 0, .int 0, .int 0, .int 0], vm := .none },
  { cls := 20, slots := #[.int 3, .int 0, .int 0, .int 0, .int 0, .int 34, .int 0, .int 0, .int 64, .int 2, .int 1, .int 3], vm := .none },
  { cls := 20, slots := #[.int 0, .int 0, .int 0, .int 0, .int 0, .int 48, .int 0, .int 0, .int 1, .int 0, .int 0, .int 0, .int 0, .int 0, .int 0, .int 0, .int 0, .int 0, .int 0, .int 0, .int 0, .int 0, .int 0, .int 0, .int 48, .int 0, .int 0, .int 0, .int 3, .int 0, .int 0, .int 0, .int 0, .int 0, .int 0, .int 0, .int 0, .int 0, .int 0, .int 0, .int 0, .int 0, .int 0, .int 0, .int 0, .int 0, .int 0, .int 0, .int 0, .int 0, .int 0, .int 0, .int 0, .int 2, .int 0, .int 0, .int 0, .int 0, .int 0, .int 0], vm := .none },
  { cls := 20, slots := #[.int 0, .int 0, .int 0, .int 0, .int 0, .int 0], vm := .none },
  { cls := 20, slots := #[.int 0, .int 0, .int 0, .int 0, .int 0, .int 0], vm := .none },
  { cls := 20, slots := #[.int 0, .int 0, .int 0, .int 0, .int 0, .int 0], vm := .none },
  { cls := 20, slots := #[.int 0, .int 0, .int 0, .int 0, .int 0, .int 0], vm := .none },
  { cls := 20, slots := #[.int 0, .int 0, .int 0, .int 0, .int 0, .int 0], vm := .none },
  { cls := 20, slots := #[.int 0, .int 0, .int 0, .int 0, .int 0, .int 0], vm := .none },
  { cls := 20, slots := #[.int 2, .int 2, .int 4, .int 0, .int 0, .int 0, .int 0, .int 0], vm := .none },
  { cls := 15, slots := #[.null, .ref 16, .ref 62, .null, .int 0, .null], vm := .none },
  { cls := 15, slots := #[.null, .ref 16, .ref 63, .null, .int 0, .null], vm := .none },
  { cls := 17, slots := #[.null, .ref 12, .ref 64, .null, .int 0, .null], vm := .none },
  { cls := 15, slots := #[.null, .ref 16, .ref 65, .null, .int 0, .null], vm := .none },
  { cls := 15, slots := #[.null, .ref 16, .ref 66, .null, .int 0, .null], vm := .none },
  { cls := 15, slots := #[.null, .ref 16, .ref 67, .null, .int 0, .null], vm := .none },
  { cls := 17, slots := #[.null, .ref 12, .ref 68, .null, .int 0, .null], vm := .none },
  { cls := 17, slots := #[.null, .ref 12, .ref 69, .null, .int 0, .null], vm := .none },
  { cls := 17, slots := #[.null, .ref 26, .ref 70, .null, .int 0, .null], vm := .none },
  { cls := 17, slots := #[.null, .ref 12, .ref 71, .null, .int 0, .null], vm := .none },
  { cls := 15, slots := #[.null, .ref 16, .ref 72, .null, .int 0, .null], vm := .none },
  { cls := 17, slots := #[.null, .ref 2, .ref 73, .null, .int 0, .null], vm := .none },
  { cls := 17, slots := #[.null, .ref 2, .ref 74, .null, .int 0, .null], vm := .none },
  { cls := 17, slots := #[.null, .ref 4, .ref 75, .null, .int 0, .null], vm := .none },
  { cls := 17, slots := #[.null, .ref 4, .ref 76, .null, .int 0, .null], vm := .none },
  { cls := 17, slots := #[.null, .ref 2, .ref 77, .null, .int 0, .null], vm := .none },
  { cls := 17, slots := #[.null, .ref 2, .ref 78, .null, .int 0, .null], vm := .none },
  { cls := 17, slots := #[.null, .ref 4, .ref 79, .null, .int 0, .null], vm := .none },
  { cls := 17, slots := #[.null, .ref 4, .ref 80, .null, .int 0, .null], vm := .none },
  { cls := 17, slots := #[.null, .ref 2, .ref 81, .null, .int 0, .null], vm := .none },
  { cls := 17, slots := #[.null, .ref 2, .ref 82, .null, .int 0, .null], vm := .none },
  { cls := 17, slots := #[.null, .ref 4, .ref 83, .null, .int 0, .null], vm := .none },
  { cls := 17, slots := #[.null, .ref 4, .ref 84, .null, .int 0, .null], vm := .none },
  { cls := 17, slots := #[.null, .ref 2, .ref 85, .null, .int 0, .null], vm := .none },
  { cls := 17, slots := #[.null, .ref 2, .ref 86, .null, .int 0, .null], vm := .none },
  { cls := 17, slots := #[.null, .ref 4, .ref 87, .null, .int 0, .null], vm := .none },
  { cls := 17, slots := #[.null, .ref 4, .ref 88, .null, .int 0, .null], vm := .none },
  { cls := 17, slots := #[.null, .ref 2, .ref 89, .null, .int 0, .null], vm := .none },
  { cls := 17, slots := #[.null, .ref 2, .ref 90, .null, .int 0, .null], vm := .none },
  { cls := 17, slots := #[.null, .ref 4, .ref 91, .null, .int 0, .null], vm := .none },
  { cls := 17, slots := #[.null, .ref 4, .ref 92, .null, .int 0, .null], vm := .none },
  { cls := 17, slots := #[.null, .ref 2, .ref 93, .null, .int 0, .null], vm := .none },
  { cls := 17, slots := #[.null, .ref 2, .ref 94, .null, .int 0, .null], vm := .none },
  { cls := 17, slots := #[.null, .ref 4, .ref 95, .null, .int 0, .null], vm := .none },
  { cls := 17, slots := #[.null, .ref 4, .ref 96, .null, .int 0, .null], vm := .none },
  { cls := 17, slots := #[.null, .ref 2, .ref 97, .null, .int 0, .null], vm := .none },
  { cls := 17, slots := #[.null, .ref 2, .ref 98, .null, .int 0, .null], vm := .none },
  { cls := 17, slots := #[.null, .ref 4, .ref 99, .null, .int 0, .null], vm := .none },
  { cls := 17, slots := #[.null, .ref 4, .ref 100, .null, .int 0, .null], vm := .none },
  { cls := 17, slots := #[.null, .ref 2, .ref 101, .null, .int 0, .null], vm := .none },
  { cls := 17, slots := #[.null, .ref 2, .ref 102, .null, .int 0, .null], vm := .none },
  { cls := 17, slots := #[.null, .ref 4, .ref 103, .null, .int 0, .null], vm := .none },
  { cls := 17, slots := #[.null, .ref 4, .ref 104, .null, .int 0, .null], vm := .none },
  { cls := 15, slots := #[.null, .ref 10, .ref 105, .null, .int 0, .null], vm := .none },
  { cls := 17, slots := #[.null, .ref 8, .ref 106, .null, .int 0, .null], vm := .none },
  { cls := 17, slots := #[.null, .ref 2, .ref 107, .null, .int 0, .null], vm := .none },
  { cls := 15, slots := #[.null, .ref 10, .ref 108, .null, .int 0, .null], vm := .none },
  { cls := 17, slots := #[.null, .ref 12, .ref 109, .null, .int 0, .null], vm := .none },
  { cls := 17, slots := #[.null, .ref 14, .ref 110, .null, .int 0, .null], vm := .none },
  { cls := 17, slots := #[.null, .ref 14, .ref 111, .null, .int 0, .null], vm := .none },
  { cls := 17, slots := #[.null, .ref 12, .ref 112, .null, .int 0, .null], vm := .none },
  { cls := 17, slots := #[.null, .ref 2, .ref 113, .null, .int 0, .null], vm := .none },
  { cls := 17, slots := #[.null, .ref 14, .ref 114, .null, .int 0, .null], vm := .none },
  { cls := 17, slots := #[.null, .ref 14, .ref 115, .null, .int 0, .null], vm := .none },
  { cls := 17, slots := #[.null, .ref 12, .ref 116, .null, .int 0, .null], vm := .none },
  { cls := 17, slots := #[.null, .ref 2, .ref 117, .null, .int 0, .null], vm := .none },
  { cls := 17, slots := #[.null, .ref 14, .ref 118, .null, .int 0, .null], vm := .none },
  { cls := 17, slots := #[.null, .ref 14, .ref 119, .null, .int 0, .null], vm := .none },
  { cls := 17, slots := #[.null, .ref 12, .ref 120, .null, .int 0, .null], vm := .none },
  { cls := 17, slots := #[.null, .ref 2, .ref 121, .null, .int 0, .null], vm := .none },
  { cls := 15, slots := #[.null, .ref 10, .ref 122, .null, .int 0, .null], vm := .none },
  { cls := 17, slots := #[.null, .ref 8, .ref 123, .null, .int 0, .null], vm := .none },
  { cls := 17, slots := #[.null, .ref 8, .ref 124, .null, .int 0, .null], vm := .none },
  { cls := 15, slots := #[.null, .ref 10, .ref 125, .null, .int 0, .null], vm := .none },
  { cls := 17, slots := #[.null, .ref 8, .ref 126, .null, .int 0, .null], vm := .none },
  { cls := 17, slots := #[.null, .ref 8, .ref 127, .null, .int 0, .null], vm := .none },
  { cls := 17, slots := #[.null, .ref 14, .ref 128, .null, .int 0, .null], vm := .none },
  { cls := 17, slots := #[.null, .ref 14, .ref 129, .null, .int 0, .null], vm := .none },
  { cls := 17, slots := #[.null, .ref 12, .ref 130, .null, .int 0, .null], vm := .none },
  { cls := 17, slots := #[.null, .ref 2, .ref 131, .null, .int 0, .null], vm := .none },
  { cls := 17, slots := #[.null, .ref 14, .ref 132, .null, .int 0, .null], vm := .none },
  { cls := 17, slots := #[.null, .ref 14, .ref 133, .null, .int 0, .null], vm := .none },
  { cls := 17, slots := #[.null, .ref 12, .ref 134, .null, .int 0, .null], vm := .none },
  { cls := 17, slots := #[.null, .ref 2, .ref 135, .null, .int 0, .null], vm := .none },
  { cls := 17, slots := #[.null, .ref 14, .ref 136, .null, .int 0, .null], vm := .none },
  { cls := 17, slots := #[.null, .ref 14, .ref 137, .null, .int 0, .null], vm := .none },
  { cls := 17, slots := #[.null, .ref 12, .ref 138, .null, .int 0, .null], vm := .none },
  { cls := 17, slots := #[.null, .ref 2, .ref 139, .null, .int 0, .null], vm := .none },
  { cls := 15, slots := #[.null, .ref 16, .ref 140, .null, .int 0, .null], vm := .none },
  { cls := 15, slots := #[.null, .ref 16, .ref 141, .null, .int 0, .null], vm := .none },
  { cls := 17, slots := #[.null, .ref 12, .ref 142, .null, .int 0, .null], vm := .none },
  { cls := 15, slots := #[.null, .ref 16, .ref 143, .null, .int 0, .null], vm := .none },
  { cls := 15, slots := #[.null, .ref 16, .ref 144, .null, .int 0, .null], vm := .none },
  { cls := 15, slots := #[.null, .ref 16, .ref 145, .null, .int 0, .null], vm := .none },
  { cls := 17, slots := #[.null, .ref 12, .ref 146, .null, .int 0, .null], vm := .none },
  { cls := 17, slots := #[.null, .ref 12, .ref 147, .null, .int 0, .null], vm := .none },
  { cls := 17, slots := #[.null, .ref 26, .ref 148, .null, .int 0, .null], vm := .none },
  { cls := 17, slots := #[.null, .ref 12, .ref 149, .null, .int 0, .null], vm := .none },
  { cls := 15, slots := #[.null, .ref 16, .ref 150, .null, .int 0, .null], vm := .none },
  { cls := 17, slots := #[.null, .ref 14, .ref 151, .null, .int 0, .null], vm := .none },
  { cls := 17, slots := #[.null, .ref 14, .ref 152, .null, .int 0, .null], vm := .none },
  { cls := 17, slots := #[.null, .ref 12, .ref 153, .null, .int 0, .null], vm := .none },
  { cls := 17, slots := #[.null, .ref 2, .ref 154, .null, .int 0, .null], vm := .none },
  { cls := 15, slots := #[.null, .ref 16, .ref 155, .null, .int 0, .null], vm := .none },
  { cls := 15, slots := #[.null, .ref 16, .ref 156, .null, .int 0, .null], vm := .none },
  { cls := 17, slots := #[.null, .ref 12, .ref 157, .null, .int 0, .null], vm := .none },
  { cls := 15, slots := #[.null, .ref 16, .ref 158, .null, .int 0, .null], vm := .none },
  { cls := 15, slots := #[.null, .ref 16, .ref 159, .null, .int 0, .null], vm := .none },
  { cls := 15, slots := #[.null, .ref 16, .ref 160, .null, .int 0, .null], vm := .none },
  { cls := 17, slots := #[.null, .ref 12, .ref 161, .null, .int 0, .null], vm := .none },
  { cls := 17, slots := #[.null, .ref 12, .ref 162, .null, .int 0, .null], vm := .none },
  { cls := 17, slots := #[.null, .ref 26, .ref 163, .null, .int 0, .null], vm := .none },
  { cls := 17, slots := #[.null, .ref 12, .ref 164, .null, .int 0, .null], vm := .none },
  { cls := 15, slots := #[.null, .ref 16, .ref 165, .null, .int 0, .null], vm := .none }]
def zr_f32 : List Frame := [.java { method := ⟨0, 23⟩, pc := 203, locals := #[.val (.ref 30), .val (.int 12), .val (.int 31), .val (.int 68), .val (.ref 53), .val (.ref 54), .val (.ref 55), .val (.ref 61), .val (.int 0), .val (.int 0), .unset, .unset, .unset, .unset, .unset], stack := [.int 12], locked := none },
  .java { method := ⟨0, 0⟩, pc := 191, locals := #[.val (.ref 0), .val (.ref 30), .val (.ref 53), .val (.ref 54), .val (.ref 55), .val (.ref 56), .val (.ref 57), .val (.ref 58), .val (.ref 59), .val (.ref 60), .val (.ref 61), .val (.int 23), .val (.int (-6)), .val (.int 12)], stack := [], locked := none },
  .native { method := ⟨0, 0⟩, args := #[] }]
def zr_u32 : Nat := 2244
def zr_w32 : State := stepsAlone start1.p0.tables start1.e0 774 (zr_mk zr_w31 zr_h31 zr_f31 zr_u31)
set_option maxRecDepth 16384 in
theorem zr_s32 : zr_run start1.p0.tables start1.e0 (zr_same zr_h32 zr_f32 zr_u32) 774 (zr_mk zr_w31 zr_h31 zr_f31 zr_u31) = true := by decide +kernel
end
section
def zr_h33 : List Cell := [{ cls := 2, slots := #[.ref 31, .ref 37, .ref 40, .ref 45, .ref 49], vm := .none },
  { cls := 3, slots := #[.ref 32, .ref 33, .ref 34, .ref 35, .ref 36, .int 0], vm := .none },
  { cls := 20, slots := #[.int 2, .int 2, .int 4, .int 0], vm := .none },
  { cls := 20, slots := #[.int 2, .int (-1), .int (-1), .int (-1), .int (-1), .int (-1), .int (-1), .int (-1), .int (-1), .int 1, .int (-1), .int (-1), .int (-1), .int (-1), .int (-1), .int (-1), .int (-1), .int 1, .int 0, .int 2, .int (-1), .int (-1), .int (-1), .int (-1), .int (-1), .int (-1), .int (-1), .int (-1), .int (-1), .int (-1), .int (-1), .int (-1)], vm := .none },
  { cls := 22, slots := #[.int 0, .int 0, .int 0, .int 0, .int 0, .int 0, .int 0, .int 0, .int 0, .int 0, .int 0, .int 0, .int 0, .int 0, .int 0, .int 0, .int 0, .int 0, .int 0, .int 0, .int 0, .int 0, .int 0, .int 0, .int 0, .int 0, .int 0, .int 0, .int 0, .int 0, .int 0, .int 0], vm := .none },
  { cls := 20, slots := #[.int 0, .int 0, .int 0, .int 0, .int 0, .int 0, .int 0, .int 0, .int 0, .int 2, .int 0, .int 0, .int 0, .int 0, .int 0, .int 0, .int 4, .int 0, .int 0, .int 0, .int 0, .int 0, .int 0, .int 0, .int 0, .int 0, .int 0, .int 0, .int 0, .int 0, .int 0, .int 0], vm := .none },
  { cls := 20, slots := #[.int (-1), .int (-1), .int 0, .int (-1), .int (-1), .int (-1), .int (-1), .int (-1), .int (-1), .int (-1), .int (-1), .int (-1), .int (-1), .int (-1), .int (-1), .int (-1), .int (-1), .int (-1), .int (-1), .int (-1), .int (-1), .int 47, .int (-1), .int (-1), .int (-1), .int (-1), .int (-1), .int (-1), .int (-1), .int (-1), .int (-1), .int (-1), .int (-1), .int (-1), .int (-1), .int (-1), .int (-1), .int (-1), .int (-1), .int (-1), .int (-1), .int (-1), .int (-1), .int (-1), .int (-1), .int (-1), .int (-1), .int (-1), .int (-1), .int (-1), .int (-1), .int (-1), .int (-1), .int (-1), .int (-1), .int (-1), .int (-1), .int (-1), .int (-1), .int (-1), .int (-1), .int (-1), .int (-1), .int (-1), .int (-1), .int (-1), .int (-1), .int (-1), .int (-1), .int (-1), .int (-1), .int (-1), .int (-1), .int (-1), .int (-1), .int (-1), .int (-1), .int (-1), .int (-1), .int (-1), .int (-1), .int (-1), .int (-1), .int (-1), .int (-1), .int (-1), .int (-1), .int (-1), .int (-1), .int (-1), .int (-1), .int (-1), .int (-1), .int (-1), .int (-1), .int (-1), .int (-1), .int (-1), .int (-1), .int (-1), .int (-1), .int (-1), .int (-1), .int (-1), .int (-1), .int (-1), .int (-1), .int (-1), .int (-1), .int (-1), .int (-1), .int (-1), .int (-1), .int (-1), .int (-1), .int (-1), .int (-1), .int (-1), .int (-1), .int (-1), .int (-1), .int (-1), .int (-1), .int (-1), .int (-1), .int (-1), .int (-1), .int (-1), .int (-1), .int (-1), .int (-1), .int (-1), .int (-1), .int (-1), .int (-1), .int (-1), .int (-1), .int (-1), .int (-1), .int (-1), .int (-1), .int (-1), .int (-1), .int (-1), .int (-1), .int (-1), .int (-1), .int (-1), .int (-1), .int (-1), .int (-1), .int (-1), .int (-1), .int (-1), .int (-1), .int (-1), .int (-1), .int (-1), .int (-1), .int (-1), .int (-1), .int 47, .int 2, .int (-1), .int (-1), .int (-1), .int (-1), .int (-1), .int (-1), .int (-1), .int (-1), .int (-1), .int (-1), .int (-1), .int (-1), .int (-1), .int (-1), .int (-1), .int (-1), .int (-1), .int (-1), .int (-1), .int (-1), .int (-1), .int (-1), .int (-1), .int (-1), .int (-1), .int (-1), .int (-1), .int (-1), .int (-1), .int (-1), .int (-1), .int (-1), .int (-1), .int (-1), .int (-1), .int (-1), .int (-1), .int (-1), .int (-1), .int (-1), .int (-1), .int (-1), .int (-1), .int (-1), .int (-1), .int (-1), .int (-1), .int (-1), .int (-1), .int (-1), .int (-1), .int (-1), .int (-1), .int (-1), .int (-1), .int (-1), .int (-1), .int (-1), .int (-1), .int (-1), .int (-1), .int (-1), .int (-1), .int (-1), .int (-1), .int (-1), .int (-1), .int (-1), .int (-1), .int (-1), .int (-1), .int (-1), .int (-1), .int (-1), .int (-1), .int (-1), .int (-1), .int (-1), .int (-1), .int (-1), .int (-1), .int (-1), .int (-1), .int (-1), .int (-1), .int (-1), .int (-1), .int (-1), .int (-1), .int (-1), .int (-1), .int (-1), .int (-1), .int (-1), .int (-1), .int (-1), .int (-1), .int (-1), .int (-1), .int (-1), .int (-1), .int (-1), .int (-1), .int (-1), .int (-1), .int (-1), .int (-1), .int (-1), .int (-1), .int (-1), .int (-1), .int (-1), .int (-1), .int (-1), .int (-1), .int (-1), .int (-1), .int (-1), .int (-1), .int (-1), .int (-1), .int (-1), .int (-1), .int (-1), .int (-1), .int (-1), .int (-1), .int (-1), .int (-1), .int (-1), .int (-1), .int (-1), .int (-1), .int (-1), .int (-1), .int (-1), .int (-1), .int (-1), .int (-1), .int (-1), .int (-1), .int (-1), .int (-1), .int (-1), .int (-1), .int (-1), .int (-1), .int (-1), .int (-1), .int (-1), .int (-1), .int (-1), .int (-1), .int (-1), .int (-1), .int (-1), .int (-1), .int (-1), .int (-1), .int (-1), .int (-1), .int (-1), .int (-1), .int (-1), .int (-1), .int (-1), .int (-1), .int (-1), .int (-1), .int (-1), .int (-1), .int (-1), .int (-1), .int (-1), .int (-1), .int (-1), .int (-1), .int (-1), .int (-1), .int (-1), .int 1, .int (-1), .int (-1), .int (-1), .int (-1), .int (-1), .int (-1), .int (-1), .int (-1), .int (-1), .int (-1), .int (-1), .int (-1), .int (-1), .int (-1), .int (-1), .int (-1), .int (-1), .int (-1), .int (-1), .int (-1), .int (-1), .int (-1), .int (-1), .int (-1), .int (-1), .int (-1), .int (-1), .int (-1), .int (-1), .int (-1), .int (-1), .int (-1), .int (-1), .int (-1), .int (-1), .int (-1), .int (-1), .int (-1), .int (-1), .int (-1), .int (-1), .int (-1), .int (-1), .int (-1), .int (-1), .int (-1), .int (-1), .int (-1), .int (-1), .int (-1), .int (-1), .int (-1), .int (-1), .int (-1), .int (-1), .int (-1), .int (-1), .int (-1), .int (-1), .int (-1), .int (-1), .int (-1), .int (-1), .int (-1), .int (-1), .int (-1), .int (-1), .int (-1), .int (-1), .int (-1), .int (-1), .int (-1), .int (-1), .int (-1), .int (-1), .int (-1), .int (-1), .int (-1), .int (-1), .int (-1), .int (-1), .int (-1), .int (-1), .int (-1), .int (-1), .int (-1), .int (-1), .int (-1), .int (-1), .int (-1), .int (-1), .int (-1), .int (-1), .int (-1), .int (-1), .int (-1), .int (-1), .int (-1), .int (-1), .int (-1), .int (-1), .int (-1), .int (-1), .int (-1), .int (-1), .int (-1), .int (-1), .int (-1), .int (-1), .int (-1), .int (-1), .int (-1), .int (-1), .int (-1), .int (-1), .int (-1), .int (-1), .int (-1), .int (-1), .int (-1), .int (-1), .int (-1), .int (-1), .int (-1), .int (-1), .int (-1), .int (-1), .int (-1), .int (-1), .int (-1), .int (-1), .int (-1), .int (-1), .int (-1), .int (-1), .int (-1), .int (-1), .int (-1), .int (-1), .int (-1), .int (-1), .int (-1), .int (-1), .int (-1), .int (-1), .int (-1), .int (-1), .int (-1), .int (-1), .int (-1), .int (-1), .int (-1), .int (-1), .int (-1), .int (-1), .int (-1), .int (-1), .int (-1), .int (-1), .int (-1), .int (-1), .int (-1), .int (-1), .int (-1), .int (-1), .int (-1), .int (-1), .int (-1), .int (-1), .int (-1), .int (-1), .int (-1), .int (-1), .int (-1), .int (-1), .int (-1), .int (-1), .int (-1), .int (-1), .int (-1), .int (-1), .int (-1), .int (-1), .int (-1), .int (-1), .int (-1), .int (-1), .int (-1), .int (-1), .int (-1), .int (-1), .int (-1), .int (-1), .int (-1), .int (-1), .int (-1), .int (-1), .int (-1), .int (-1), .int (-1), .int (-1), .int (-1), .int (-1), .int (-1), .int (-1), .int (-1), .int (-1), .int (-1), .int (-1), .int (-1), .int (-1), .int (-1), .int (-1), .int (-1), .int (-1), .int (-1), .int (-1), .int (-1), .int (-1), .int (-1), .int (-1), .int (-1), .int (-1), .int (-1), .int (-1), .int (-1), .int (-1), .int (-1), .int (-1), .int (-1), .int (-1), .int (-1), .int (-1), .int (-1), .int (-1), .int (-1), .int (-1), .int (-1), .int (-1), .int (-1), .int (-1), .int (-1), .int (-1), .int (-1), .int (-1), .int (-1), .int (-1), .int (-1), .int (-1), .int (-1), .int (-1), .int (-1), .int (-1), .int (-1), .int (-1), .int (-1), .int (-1), .int (-1), .int (-1), .int (-1), .int (-1), .int (-1), .int (-1), .int (-1), .int (-1), .int (-1), .int (-1), .int (-1), .int (-1), .int (-1), .int (-1), .int (-1), .int (-1), .int (-1), .int (-1), .int (-1), .int (-1), .int (-1), .int (-1), .int (-1), .int (-1), .int (-1), .int (-1), .int (-1), .int (-1), .int (-1), .int (-1), .int (-1), .int (-1), .int (-1), .int (-1), .int (-1), .int (-1), .int (-1), .int (-1), .int (-1)], vm := .none },
  { cls := 5, slots := #[.ref 38, .ref 39, .int 0, .int 0], vm := .none },
  { cls := 20, slots := #[.int 0, .int 0, .int 0, .int 0, .int 0, .int 0, .int 0, .int 0, .int 0, .int 0, .int 0, .int 0], vm := .none },
  { cls := 20, slots := #[.int 0, .int 0, .int 0, .int 0, .int 0, .int 0, .int 0, .int 0, .int 0, .int 0, .int 0, .int 0], vm := .none },
  { cls := 6, slots := #[.ref 31, .ref 37, .ref 41, .ref 42, .ref 43, .ref 44, .int 0, .int 0, .int 1, .int 1], vm := .none },
  { cls := 20, slots := #[.int 0, .int 0, .int 0, .int 0, .int 0, .int 0, .int 0, .int 0, .int 0, .int 0, .int 0, .int 0], vm := .none },
  { cls := 20, slots := #[.int 0, .int 0, .int 0, .int 0, .int 0, .int 0, .int 0, .int 0, .int 0, .int 0, .int 0, .int 0], vm := .none },
  { cls := 20, slots := #[.int 0, .int 0, .int 0, .int 0, .int 0, .int 0, .int 0, .int 0, .int 0, .int 0, .int 0, .int 0, .int 0, .int 0, .int 0, .int 0, .int 0, .int 0, .int 0, .int 0, .int 0, .int 0, .int 0, .int 0, .int 0, .int 0, .int 0, .int 0, .int 0, .int 0, .int 0, .int 0, .int 0, .int 0, .int 0, .int 0, .int 0, .int 0, .int 0, .int 0, .int 0, .int 0, .int 0, .int 0, .int 0, .int 0, .int 0, .int 0], vm := .none },
  { cls := 20, slots := #[.int 0, .int 0, .int 0, .int 0, .int 0, .int 0, .int 0, .int 0, .int 0, .int 0, .int 0, .int 0], vm := .none },
  { cls := 7, slots := #[.ref 31, .ref 37, .ref 40, .ref 46, .ref 47, .ref 48, .int 0], vm := .none },
  { cls := 20, slots := #[.int 0, .int 0, .int 0, .int 0, .int 0, .int 0, .int 0, .int 0, .int 0, .int 0, .int 0, .int 0], vm := .none },
  { cls := 20, slots := #[.int 0, .int 0, .int 0, .int 0, .int 0, .int 0, .int 0, .int 0, .int 0, .int 0, .int 0, .int 0], vm := .none },
  { cls := 22, slots := #[.int 0, .int 0, .int 0, .int 0, .int 0, .int 0, .int 0, .int 0, .int 0, .int 0, .int 0, .int 0], vm := .none },
  { cls := 7, slots := #[.ref 31, .ref 37, .ref 40, .ref 50, .ref 51, .ref 52, .int 0], vm := .none },
  { cls := 20, slots := #[.int 0, .int 0, .int 0, .int 0, .int 0, .int 0, .int 0, .int 0, .int 0, .int 0, .int 0, .int 0], vm := .none },
  { cls := 20, slots := #[.int 0, .int 0, .int 0, .int 0, .int 0, .int 0, .int 0, .int 0, .int 0, .int 0, .int 0, .int 0], vm := .none },
  { cls := 22, slots := #[.int 0, .int 0, .int 0, .int 0, .int 0, .int 0, .int 0, .int 0, .int 0, .int 0, .int 0, .int 0], vm := .none },
  { cls := 20, slots := #[.int 3, .int 0, .int 0, .int 0, .int 0, .int 34, .int 0, .int 0, .int 64, .int 2, .int 1, .int 3], vm := .none },
  { cls := 20, slots := #[.int 0, .int 0, .int 0, .int 0, .int 0, .int 48, .int 0, .int 0, .int 1, .int 0, .int 0, .int 0, .int 0, .int 0, .int 0, .int 0, .int 0, .int 0, .int 0, .int 0, .int 0, .int 0, .int 0, .int 0, .int 48, .int 0, .int 0, .int 0, .int 3, .int 0, .int 0, .int 0, .int 0, .int 0, .int 0, .int 0, .int 0, .int 0, .int 0, .int 0, .int 0, .int 0, .int 0, .int 0, .int 0, .int 0, .int 0, .int 0, .int 0, .int 0, .int 0, .int 0, .int 0, .int 2, .int 0, .int 0, .int 0, .int 0, .int 0, .int 0], vm := .none },
  { cls := 20, slots := #[.int 0, .int 0, .int 0, .int 0, .int 0, .int 0], vm := .none },
  { cls := 20, slots := #[.int 0, .int 0, .int 0, .int 0, .int 0, .int 0], vm := .none },
  { cls := 20, slots := #[.int 0, .int 0, .int 0, .int 0, .int 0, .int 0], vm := .none },
  { cls := 20, slots := #[.int 0, .int 0, .int 0, .int 0, .int 0, .int 0], vm := .none },
  { cls := 20, slots := #[.int 0, .int 0, .int 0, .int 0, .int 0, .int 0], vm := .none },
  { cls := 20, slots := #[.int 0, .int 0, .int 0, .int 0, .int 0, .int 0], vm := .none },
  { cls := 20, slots := #[.int 2, .int 2, .int 4, .int 0, .int 0, .int 0, .int (-1), .int 0], vm := .none },
  { cls := 15, slots := #[.null, .ref 16, .ref 62, .null, .int 0, .null], vm := .none },
  { cls := 15, slots := #[.null, .ref 16, .ref 63, .null, .int 0, .null], vm := .none },
  { cls := 17, slots := #[.null, .ref 12, .ref 64, .null, .int 0, .null], vm := .none },
  { cls := 15, slots := #[.null, .ref 16, .ref 65, .null, .int 0, .null], vm := .none },
  { cls := 15, slots := #[.null, .ref 16, .ref 66, .null, .int 0, .null], vm := .none },
  { cls := 15, slots := #[.null, .ref 16, .ref 67, .null, .int 0, .null], vm := .none },
  { cls := 17, slots := #[.null, .ref 12, .ref 68, .null, .int 0, .null], vm := .none },
  { cls := 17, slots := #[.null, .ref 12, .ref 69, .null, .int 0, .null], vm := .none },
  { cls := 17, slots := #[.null, .ref 26, .ref 70, .null, .int 0, .null], vm := .none },
  { cls := 17, slots := #[.null, .ref 12, .ref 71, .null, .int 0, .null], vm := .none },
  { cls := 15, slots := #[.null, .ref 16, .ref 72, .null, .int 0, .null], vm := .none },
  { cls := 17, slots := #[.null, .ref 2, .ref 73, .null, .int 0, .null], vm := .none },
  { cls := 17, slots := #[.null, .ref 2, .ref 74, .null, .int 0, .null], vm := .none },
  { cls := 17, slots := #[.null, .ref 4, .ref 75, .null, .int 0, .null], vm := .none },
  { cls := 17, slots := #[.null, .ref 4, .ref 76, .null, .int 0, .null], vm := .none },
  { cls := 17, slots := #[.null, .ref 2, .ref 77, .null, .int 0, .null], vm := .none },
  { cls := 17, slots := #[.null, .ref 2, .ref 78, .null, .int 0, .null], vm := .none },
  { cls := 17, slots := #[.null, .ref 4, .ref 79, .null, .int 0, .null], vm := .none },
  { cls := 17, slots := #[.null, .ref 4, .ref 80, .null, .int 0, .null], vm := .none },
  { cls := 17, slots := #[.null, .ref 2, .ref 81, .null, .int 0, .null], vm := .none },
  { cls := 17, slots := #[.null, .ref 2, .ref 82, .null, .int 0, .null], vm := .none },
  { cls := 17, slots := #[.null, .ref 4, .ref 83, .null, .int 0, .null], vm := .none },
  { cls := 17, slots := #[.null, .ref 4, .ref 84, .null, .int 0, .null], vm := .none },
  { cls := 17, slots := #[.null, .ref 2, .ref 85, .null, .int 0, .null], vm := .none },
  { cls := 17, slots := #[.null, .ref 2, .ref 86, .null, .int 0, .null], vm := .none },
  { cls := 17, slots := #[.null, .ref 4, .ref 87, .null, .int 0, .null], vm := .none },
  { cls := 17, slots := #[.null, .ref 4, .ref 88, .null, .int 0, .null], vm := .none },
  { cls := 17, slots := #[.null, .ref 2, .ref 89, .null, .int 0, .null], vm := .none },
  { cls := 17, slots := #[.null, .ref 2, .ref 90, .null, .int 0, .null], vm := .none },
  { cls := 17, slots := #[.null, .ref 4, .ref 91, .null, .int 0, .null], vm := .none },
  { cls := 17, slots := #[.null, .ref 4, .ref 92, .null, .int 0, .null], vm := .none },
  { cls := 17, slots := #[.null, .ref 2, .ref 93, .null, .int 0, .null], vm := .none },
  { cls := 17, slots := #[.null, .ref 2, .ref 94, .null, .int 0, .null], vm := .none },
  { cls := 17, slots := #[.null, .ref 4, .ref 95, .null, .int 0, .null], vm := .none },
  { cls := 17, slots := #[.null, .ref 4, .ref 96, .null, .int 0, .null], vm := .none },
  { cls := 17, slots := #[.null, .ref 2, .ref 97, .null, .int 0, .null], vm := .none },
  { cls := 17, slots := #[.null, .ref 2, .ref 98, .null, .int 0, .null], vm := .none },
  { cls := 17, slots := #[.null, .ref 4, .ref 99, .null, .int 0, .null], vm := .none },
  { cls := 17, slots := #[.null, .ref 4, .ref 100, .null, .int 0, .null], vm := .none },
  { cls := 17, slots := #[.null, .ref 2, .ref 101, .null, .int 0, .null], vm := .none },
  { cls := 17, slots := #[.null, .ref 2, .ref 102, .null, .int 0, .null], vm := .none },
  { cls := 17, slots := #[.null, .ref 4, .ref 103, .null, .int 0, .null], vm := .none },
  { cls := 17, slots := #[.null, .ref 4, .ref 104, .null, .int 0, .null], vm := .none },
  { cls := 15, slots := #[.null, .ref 10, .ref 105, .null, .int 0, .null], vm := .none },
  { cls := 17, slots := #[.null, .ref 8, .ref 106, .null, .int 0, .null], vm := .none },
  { cls := 17, slots := #[.null, .ref 2, .ref 107, .null, .int 0, .null], vm := .none },
  { cls := 15, slots := #[.null, .ref 10, .ref 108, .null, .int 0, .null], vm := .none },
  { cls := 17, slots := #[.null, .ref 12, .ref 109, .null, .int 0, .null], vm := .none },
  { cls := 17, slots := #[.null, .ref 14, .ref 110, .null, .int 0, .null], vm := .none },
  { cls := 17, slots := #[.null, .ref 14, .ref 111, .null, .int 0, .null], vm := .none },
  { cls := 17, slots := #[.null, .ref 12, .ref 112, .null, .int 0, .null], vm := .none },
  { cls := 17, slots := #[.null, .ref 2, .ref 113, .null, .int 0, .null], vm := .none },
  { cls := 17, slots := #[.null, .ref 14, .ref 114, .null, .int 0, .null], vm := .none },
  { cls := 17, slots := #[.null, .ref 14, .ref 115, .null, .int 0, .null], vm := .none },
  { cls := 17, slots := #[.null, .ref 12, .ref 116, .null, .int 0, .null], vm := .none },
  { cls := 17, slots := #[.null, .ref 2, .ref 117, .null, .int 0, .null], vm := .none },
  { cls := 17, slots := #[.null, .ref 14, .ref 118, .null, .int 0, .null], vm := .none },
  { cls := 17, slots := #[.null, .ref 14, .ref 119, .null, .int 0, .null], vm := .none },
  { cls := 17, slots := #[.null, .ref 12, .ref 120, .null, .int 0, .null], vm := .none },
  { cls := 17, slots := #[.null, .ref 2, .ref 121, .null, .int 0, .null], vm := .none },
  { cls := 15, slots := #[.null, .ref 10, .ref 122, .null, .int 0, .null], vm := .none },
  { cls := 17, slots := #[.null, .ref 8, .ref 123, .null, .int 0, .null], vm := .none },
  { cls := 17, slots := #[.null, .ref 8, .ref 124, .null, .int 0, .null], vm := .none },
  { cls := 15, slots := #[.null, .ref 10, .ref 125, .null, .int 0, .null], vm := .none },
  { cls := 17, slots := #[.null, .ref 8, .ref 126, .null, .int 0, .null], vm := .none },
  { cls := 17, slots := #[.null, .ref 8, .ref 127, .null, .int 0, .null], vm := .none },
  { cls := 17, slots := #[.null, .ref 14, .ref 128, .null, .int 0, .null], vm := .none },
  { cls := 17, slots := #[.null, .ref 14, .ref 129, .null, .int 0, .null], vm := .none },
  { cls := 17, slots := #[.null, .ref 12, .ref 130, .null, .int 0, .null], vm := .none },
  { cls := 17, slots := #[.null, .ref 2, .ref 131, .null, .int 0, .null], vm := .none },
  { cls := 17, slots := #[.null, .ref 14, .ref 132, .null, .int 0, .null], vm := .none },
  { cls := 17, slots := #[.null, .ref 14, .ref 133, .null, .int 0, .null], vm := .none },
  { cls := 17, slots := #[.null, .ref 12, .ref 134, .null, .int 0, .null], vm := .none },
  { cls := 17, slots := #[.null, .ref 2, .ref 135, .null, .int 0, .null], vm := .none },
  { cls := 17, slots := #[.null, .ref 14, .ref 136, .null, .int 0, .null], vm := .none },
  { cls := 17, slots := #[.null, .ref 14, .ref 137, .null, .int 0, .null], vm := .none },
  { cls := 17, slots := #[.null, .ref 12, .ref 138, .null, .int 0, .null], vm := .none },
  { cls := 17, slots := #[.null, .ref 2, .ref 139, .null, .int 0, .null], vm := .none },
  { cls := 15, slots := #[.null, .ref 16, .ref 140, .null, .int 0, .null], vm := .none },
  { cls := 15, slots := #[.null, .ref 16, .ref 141, .null, .int 0, .null], vm := .none },
  { cls := 17, slots := #[.null, .ref 12, .ref 142, .null, .int 0, .null], vm := .none },
  { cls := 15, slots := #[.null, .ref 16, .ref 143, .null, .int 0, .null], vm := .none },
  { cls := 15, slots := #[.null, .ref 16, .ref 144, .null, .int 0, .null], vm := .none },
  { cls := 15, slots := #[.null, .ref 16, .ref 145, .null, .int 0, .null], vm := .none },
  { cls := 17, slots := #[.null, .ref 12, .ref 146, .null, .int 0, .null], vm := .none },
  { cls := 17, slots := #[.null, .ref 12, .ref 147, .null, .int 0, .null], vm := .none },
  { cls := 17, slots := #[.null, .ref 26, .ref 148, .null, .int 0, .null], vm := .none },
  { cls := 17, slots := #[.null, .ref 12, .ref 149, .null, .int 0, .null], vm := .none },
  { cls := 15, slots := #[.null, .ref 16, .ref 150, .null, .int 0, .null], vm := .none },
  { cls := 17, slots := #[.null, .ref 14, .ref 151, .null, .int 0, .null], vm := .none },
  { cls := 17, slots := #[.null, .ref 14, .ref 152, .null, .int 0, .null], vm := .none },
  { cls := 17, slots := #[.null, .ref 12, .ref 153, .null, .int 0, .null], vm := .none },
  { cls := 17, slots := #[.null, .ref 2, .ref 154, .null, .int 0, .null], vm := .none },
  { cls := 15, slots := #[.null, .ref 16, .ref 155, .null, .int 0, .null], vm := .none },
  { cls := 15, slots := #[.null, .ref 16, .ref 156, .null, .int 0, .null], vm := .none },
  { cls := 17, slots := #[.null, .ref 12, .ref 157, .null, .int 0, .null], vm := .none },
  { cls := 15, slots := #[.null, .ref 16, .ref 158, .null, .int 0, .null], vm := .none },
  { cls := 15, slots := #[.null, .ref 16, .ref 159, .null, .int 0, .null], vm := .none },
  { cls := 15, slots := #[.null, .ref 16, .ref 160, .null, .int 0, .null], vm := .none },
  { cls := 17, slots := #[.null, .ref 12, .ref 161, .null, .int 0, .null], vm := .none },
  { cls := 17, slots := #[.null, .ref 12, .ref 162, .null, .int 0, .null], vm := .none },
  { cls := 17, slots := #[.null, .ref 26, .ref 163, .null, .int 0, .null], vm := .none },
  { cls := 17, slots := #[.null, .ref 12, .ref 164, .null, .int 0, .null], vm := .none },
  { cls := 15, slots := #[.null, .ref 16, .ref 165, .null, .int 0, .null], vm := .none },
  { cls := 17, slots := #[.null, .ref 14, .ref 166, .null, .int 0, .null], vm := .none },
  { cls := 17, slots := #[.null, .ref 14, .ref 167, .null, .int 0, .null], vm := .none },
  { cls := 17, slots := #[.null, .ref 12, .ref 168, .null, .int 0, .null], vm := .none },
  { cls := 17, slots := #[.null, .ref 2, .ref 169, .null, .int 0, .null], vm := .none }]
def zr_f33 : List Frame := [.java { method := ⟨0, 21⟩, pc := 109, locals := #[.val (.ref 53), .val (.ref 55), .val (.ref 56), .val (.ref 57), .val (.ref 61), .val (.int 0), .val (.int 1), .val (.int 0), .unset], stack := [.int 0], locked := none },
  .java { method := ⟨0, 24⟩, pc := 9, locals := #[.val (.ref 30), .val (.int (-1)), .val (.int 1), .val (.ref 53), .val (.ref 54), .val (.ref 55), .val (.ref 56), .val (.ref 57), .val (.ref 58), .val (.ref 59), .val (.ref 60), .val (.ref 61), .unset, .unset, .unset, .unset, .unset], stack := [], locked := none },
  .java { method := ⟨0, 0⟩, pc := 238, locals := #[.val (.ref 0), .val (.ref 30), .val (.ref 53), .val (.ref 54), .val (.ref 55), .val (.ref 56), .val (.ref 57), .val (.ref 58), .val (.ref 59), .val (.ref 60), .val (.ref 61), .val (.int 23), .val (.int (-6)), .val (.int 12)], stack := [], locked := none },
  .native { method := ⟨0, 0⟩, args := #[] }]
def zr_u33 : Nat := 2268
def zr_w33 : State := stepsAlone start1.p0.tables start1.e0 861 (zr_mk zr_w32 zr_h32 zr_f32 zr_u32)
set_option maxRecDepth 16384 in
theorem zr_s33 : zr_run start1.p0.tables start1.e0 (zr_same zr_h33 zr_f33 zr_u33) 861 (zr_mk zr_w32 zr_h32 zr_f32 zr_u32) = true := by decide +kernel
end
section
def zr_h34 : List Cell := [{ cls := 2, slots := #[.ref 31, .ref 37, .ref 40, .ref 45, .ref 49], vm := .none },
  { cls := 3, slots := #[.ref 32, .ref 33, .ref 34, .ref 35, .ref 36, .int 0], vm := .none },
  { cls := 20, slots := #[.int 2, .int 2, .int 4, .int 0], vm := .none },
  { cls := 20, slots := #[.int 2, .int (-1), .int (-1), .int (-1), .int (-1), .int (-1), .int (-1), .int (-1), .int (-1), .int 1, .int (-1), .int (-1), .int (-1), .int (-1), .int (-1), .int (-1), .int (-1), .int 1, .int 0, .int 2, .int (-1), .int (-1), .int (-1), .int (-1), .int (-1), .int (-1), .int (-1), .int (-1), .int (-1), .int (-1), .int (-1), .int (-1)], vm := .none },
  { cls := 22, slots := #[.int 0, .int 0, .int 0, .int 0, .int 0, .int 0, .int 0, .int 0, .int 0, .int 0, .int 0, .int 0, .int 0, .int 0, .int 0, .int 0, .int 0, .int 0, .int 0, .int 0, .int 0, .int 0, .int 0, .int 0, .int 0, .int 0, .int 0, .int 0, .int 0, .int 0, .int 0, .int 0], vm := .none },
  { cls := 20, slots := #[.int 0, .int 0, .int 0, .int 0, .int 0, .int 0, .int 0, .int 0, .int 0, .int 2, .int 0, .int 0, .int 0, .int 0, .int 0, .int 0, .int 4, .int 0, .int 0, .int 0, .int 0, .int 0, .int 0, .int 0, .int 0, .int 0, .int 0, .int 0, .int 0, .int 0, .int 0, .int 0], vm := .none },
  { cls := 20, slots := #[.int (-1), .int (-1), .int 0, .int (-1), .int (-1), .int (-1), .int (-1), .int (-1), .int (-1), .int (-1), .int (-1), .int (-1), .int (-1), .int (-1), .int (-1), .int (-1), .int (-1), .int (-1), .int (-1), .int (-1), .int (-1), .int 47, .int (-1), .int (-1), .int (-1), .int (-1), .int (-1), .int (-1), .int (-1), .int (-1), .int (-1), .int (-1), .int (-1), .int (-1), .int (-1), .int (-1), .int (-1), .int (-1), .int (-1), .int (-1), .int (-1), .int (-1), .int (-1), .int (-1), .int (-1), .int (-1), .int (-1), .int (-1), .int (-1), .int (-1), .int (-1), .int (-1), .int (-1), .int (-1), .int (-1), .int (-1), .int (-1), .int (-1), .int (-1), .int (-1), .int (-1), .int (-1), .int (-1), .int (-1), .int (-1), .int (-1), .int (-1), .int (-1), .int (-1), .int (-1), .int (-1), .int (-1), .int (-1), .int (-1), .int (-1), .int (-1), .int (-1), .int (-1), .int (-1), .int (-1), .int (-1), .int (-1), .int (-1), .int (-1), .int (-1), .int (-1), .int (-1), .int (-1), .int (-1), .int (-1), .int (-1), .int (-1), .int (-1), .int (-1), .int (-1), .int (-1), .int (-1), .int (-1), .int (-1), .int (-1), .int (-1), .int (-1), .int (-1), .int (-1), .int (-1), .int (-1), .int (-1), .int (-1), .int (-1), .int (-1), .int (-1), .int (-1), .int (-1), .int (-1), .int (-1), .int (-1), .int (-1), .int (-1), .int (-1), .int (-1), .int (-1), .int (-1), .int (-1), .int (-1), .int (-1), .int (-1), .int (-1), .int (-1), .int (-1), .int (-1), .int (-1), .int (-1), .int (-1), .int (-1), .int (-1), .int (-1), .int (-1), .int (-1), .int (-1), .int (-1), .int (-1), .int (-1), .int (-1), .int (-1), .int (-1), .int (-1), .int (-1), .int (-1), .int (-1), .int (-1), .int (-1), .int (-1), .int (-1), .int (-1), .int (-1), .int (-1), .int (-1), .int (-1), .int (-1), .int (-1), .int (-1), .int 47, .int 2, .int (-1), .int (-1), .int (-1), .int (-1), .int (-1), .int (-1), .int (-1), .int (-1), .int (-1), .int (-1), .int (-1), .int (-1), .int (-1), .int (-1), .int (-1), .int (-1), .int (-1), .int (-1), .int (-1), .int (-1), .int (-1), .int (-1), .int (-1), .int (-1), .int (-1), .int (-1), .int (-1), .int (-1), .int (-1), .int (-1), .int (-1), .int (-1), .int (-1), .int (-1), .int (-1), .int (-1), .int (-1), .int (-1), .int (-1), .int (-1), .int (-1), .int (-1), .int (-1), .int (-1), .int (-1), .int (-1), .int (-1), .int (-1), .int (-1), .int (-1), .int (-1), .int (-1), .int (-1), .int (-1), .int (-1), .int (-1), .int (-1), .int (-1), .int (-1), .int (-1), .int (-1), .int (-1), .int (-1), .int (-1), .int (-1), .int (-1), .int (-1), .int (-1), .int (-1), .int (-1), .int (-1), .int (-1), .int (-1), .int (-1), .int (-1), .int (-1), .int (-1), .int (-1), .int (-1), .int (-1), .int (-1), .int (-1), .int (-1), .int (-1), .int (-1), .int (-1), .int (-1), .int (-1), .int (-1), .int (-1), .int (-1), .int (-1), .int (-1), .int (-1), .int (-1), .int (-1), .int (-1), .int (-1), .int (-1), .int (-1), .int (-1), .int (-1), .int (-1), .int (-1), .int (-1), .int (-1), .int (-1), .int (-1), .int (-1), .int (-1), .int (-1), .int (-1), .int (-1), .int (-1), .int (-1), .int (-1), .int (-1), .int (-1), .int (-1), .int (-1), .int (-1), .int (-1), .int (-1), .int (-1), .int (-1), .int (-1), .int (-1), .int (-1), .int (-1), .int (-1), .int (-1), .int (-1), .int (-1), .int (-1), .int (-1), .int (-1), .int (-1), .int (-1), .int (-1), .int (-1), .int (-1), .int (-1), .int (-1), .int (-1), .int (-1), .int (-1), .int (-1), .int (-1), .int (-1), .int (-1), .int (-1), .int (-1), .int (-1), .int (-1), .int (-1), .int (-1), .int (-1), .int (-1), .int (-1), .int (-1), .int (-1), .int (-1), .int (-1), .int (-1), .int (-1), .int (-1), .int (-1), .int (-1), .int (-1), .int (-1), .int (-1), .int (-1), .int (-1), .int (-1), .int (-1), .int (-1), .int (-1), .int (-1), .int (-1), .int (-1), .int 1, .int (-1), .int (-1), .int (-1), .int (-1), .int (-1), .int (-1), .int (-1), .int (-1), .int (-1), .int (-1), .int (-1), .int (-1), .int (-1), .int (-1), .int (-1), .int (-1), .int (-1), .int (-1), .int (-1), .int (-1), .int (-1), .int (-1), .int (-1), .int (-1), .int (-1), .int (-1), .int (-1), .int (-1), .int (-1), .int (-1), .int (-1), .int (-1), .int (-1), .int (-1), .int (-1), .int (-1), .int (-1), .int (-1), .int (-1), .int (-1), .int (-1), .int (-1), .int (-1), .int (-1), .int (-1), .int (-1), .int (-1), .int (-1), .int (-1), .int (-1), .int (-1), .int (-1), .int (-1), .int (-1), .int (-1), .int (-1), .int (-1), .int (-1), .int (-1), .int (-1), .int (-1), .int (-1), .int (-1), .int (-1), .int (-1), .int (-1), .int (-1), .int (-1), .int (-1), .int (-1), .int (-1), .int (-1), .int (-1), .int (-1), .int (-1), .int (-1), .int (-1), .int (-1), .int (-1), .int (-1), .int (-1), .int (-1), .int (-1), .int (-1), .int (-1), .int (-1), .int (-1), .int (-1), .int (-1), .int (-1), .int (-1), .int (-1), .int (-1), .int (-1), .int (-1), .int (-1), .int (-1), .int (-1), .int (-1), .int (-1), .int (-1), .int (-1), .int (-1), .int (-1), .int (-1), .int (-1), .int (-1), .int (-1), .int (-1), .int (-1), .int (-1), .int (-1), .int (-1), .int (-1), .int (-1), .int (-1), .int (-1), .int (-1), .int (-1), .int (-1), .int (-1), .int (-1), .int (-1), .int (-1), .int (-1), .int (-1), .int (-1), .int (-1), .int (-1), .int (-1), .int (-1), .int (-1), .int (-1), .int (-1), .int (-1), .int (-1), .int (-1), .int (-1), .int (-1), .int (-1), .int (-1), .int (-1), .int (-1), .int (-1), .int (-1), .int (-1), .int (-1), .int (-1), .int (-1), .int (-1), .int (-1), .int (-1), .int (-1), .int (-1), .int (-1), .int (-1), .int (-1), .int (-1), .int (-1), .int (-1), .int (-1), .int (-1), .int (-1), .int (-1), .int (-1), .int (-1), .int (-1), .int (-1), .int (-1), .int (-1), .int (-1), .int (-1), .int (-1), .int (-1), .int (-1), .int (-1), .int (-1), .int (-1), .int (-1), .int (-1), .int (-1), .int (-1), .int (-1), .int (-1), .int (-1), .int (-1), .int (-1), .int (-1), .int (-1), .int (-1), .int (-1), .int (-1), .int (-1), .int (-1), .int (-1), .int (-1), .int (-1), .int (-1), .int (-1), .int (-1), .int (-1), .int (-1), .int (-1), .int (-1), .int (-1), .int (-1), .int (-1), .int (-1), .int (-1), .int (-1), .int (-1), .int (-1), .int (-1), .int (-1), .int (-1), .int (-1), .int (-1), .int (-1), .int (-1), .int (-1), .int (-1), .int (-1), .int (-1), .int (-1), .int (-1), .int (-1), .int (-1), .int (-1), .int (-1), .int (-1), .int (-1), .int (-1), .int (-1), .int (-1), .int (-1), .int (-1), .int (-1), .int (-1), .int (-1), .int (-1), .int (-1), .int (-1), .int (-1), .int (-1), .int (-1), .int (-1), .int (-1), .int (-1), .int (-1), .int (-1), .int (-1), .int (-1), .int (-1), .int (-1), .int (-1), .int (-1), .int (-1), .int (-1), .int (-1), .int (-1), .int (-1), .int (-1), .int (-1), .int (-1), .int (-1), .int (-1), .int (-1), .int (-1), .int (-1), .int (-1), .int (-1), .int (-1), .int (-1), .int (-1), .int (-1), .int (-1), .int (-1), .int (-1), .int (-1), .int (-1), .int (-1), .int (-1), .int (-1), .int (-1), .int (-1), .int (-1), .int (-1), .int (-1), .int (-1), .int (-1), .int (-1), .int (-1), .int (-1), .int (-1), .int (-1), .int (-1)], vm := .none },
  { cls := 5, slots := #[.ref 38, .ref 39, .int 0, .int 0], vm := .none },
  { cls := 20, slots := #[.int 0, .int 0, .int 0, .int 0, .int 0, .int 0, .int 0, .int 0, .int 0, .int 0, .int 0, .int 0], vm := .none },
  { cls := 20, slots := #[.int 0, .int 0, .int 0, .int 0, .int 0, .int 0, .int 0, .int 0, .int 0, .int 0, .int 0, .int 0], vm := .none },
  { cls := 6, slots := #[.ref 31, .ref 37, .ref 41, .ref 42, .ref 43, .ref 44, .int 0, .int 0, .int 1, .int 1], vm := .none },
  { cls := 20, slots := #[.int 0, .int 0, .int 0, .int 0, .int 0, .int 0, .int 0, .int 0, .int 0, .int 0, .int 0, .int 0], vm := .none },
  { cls := 20, slots := #[.int 0, .int 0, .int 0, .int 0, .int 0, .int 0, .int 0, .int 0, .int 0, .int 0, .int 0, .int 0], vm := .none },
  { cls := 20, slots := #[.int 0, .int 0, .int 0, .int 0, .int 0, .int 0, .int 0, .int 0, .int 0, .int 0, .int 0, .int 0, .int 0, .int 0, .int 0, .int 0, .int 0, .int 0, .int 0, .int 0, .int 0, .int 0, .int 0, .int 0, .int 0, .int 0, .int 0, .int 0, .int 0, .int 0, .int 0, .int 0, .int 0, .int 0, .int 0, .int 0, .int 0, .int 0, .int 0, .int 0, .int 0, .int 0, .int 0, .int 0, .int 0, .int 0, .int 0, .int 0], vm := .none },
  { cls := 20, slots := #[.int 0, .int 0, .int 0, .int 0, .int 0, .int 0, .int 0, .int 0, .int 0, .int 0, .int 0, .int 0], vm := .none },
  { cls := 7, slots := #[.ref 31, .ref 37, .ref 40, .ref 46, .ref 47, .ref 48, .int 0], vm := .none },
  { cls := 20, slots := #[.int 0, .int 0, .int 0, .int 0, .int 0, .int 0, .int 0, .int 0, .int 0, .int 0, .int 0, .int 0], vm := .none },
  { cls := 20, slots := #[.int 0, .int 0, .int 0, .int 0, .int 0, .int 0, .int 0, .int 0, .int 0, .int 0, .int 0, .int 0], vm := .none },
  { cls := 22, slots := #[.int 0, .int 0, .int 0, .int 0, .int 0, .int 0, .int 0, .int 0, .int 0, .int 0, .int 0, .int 0], vm := .none },
  { cls := 7, slots := #[.ref 31, .ref 37, .ref 40, .ref 50, .ref 51, .ref 52, .int 0], vm := .none },
  { cls := 20, slots := #[.int 0, .int 0, .int 0, .int 0, .int 0, .int 0, .int 0, .int 0, .int 0, .int 0, .int 0, .int 0], vm := .none },
  { cls := 20, slots := #[.int 0, .int 0, .int 0, .int 0, .int 0, .int 0, .int 0, .int 0, .int 0, .int 0, .int 0, .int 0], vm := .none },
  { cls := 22, slots := #[.int 0, .int 0, .int 0, .int 0, .int 0, .int 0, .int 0, .int 0, .int 0, .int 0, .int 0, .int 0], vm := .none },
  { cls := 20, slots := #[.int 3, .int 0, .int 0, .int 0, .int 0, .int 34, .int 0, .int 0, .int 64, .int 2, .int 1, .int 3], vm := .none },
  { cls := 20, slots := #[.int 0, .int 0, .int 0, .int 0, .int 0, .int 48, .int 0, .int 0, .int 1, .int 0, .int 0, .int 0, .int 0, .int 0, .int 0, .int 0, .int 0, .int 0, .int 0, .int 0, .int 0, .int 0, .int 0, .int 0, .int 48, .int 0, .int 0, .int 0, .int 3, .int 0, .int 0, .int 0, .int 0, .int 0, .int 0, .int 0, .int 0, .int 0, .int 0, .int 0, .int 0, .int 0, .int 0, .int 0, .int 0, .int 0, .int 0, .int 0, .int 0, .int 0, .int 0, .int 0, .int 0, .int 2, .int 0, .int 0, .int 0, .int 0, .int 0, .int 0], vm := .none },
  { cls := 20, slots := #[.int 0, .int 0, .int 0, .int 0, .int 0, .int 0], vm := .none },
  { cls := 20, slots := #[.int 0, .int 0, .int 0, .int 0, .int 0, .int 0], vm := .none },
  { cls := 20, slots := #[.int 0, .int 0, .int 0, .int 0, .int 0, .int 0], vm := .none },
  { cls := 20, slots := #[.int 0, .int 0, .int 0, .int 0, .int 0, .int 0], vm := .none },
  { cls := 20, slots := #[.int 0, .int 0, .int 0, .int 0, .int 0, .int 0], vm := .none },
  { cls := 20, slots := #[.int 0, .int 0, .int 0, .int 0, .int 0, .int 0], vm := .none },
  { cls := 20, slots := #[.int 2, .int 2, .int 4, .int 0, .int 0, .int 0, .int 0, .int 0], vm := .none },
  { cls := 15, slots := #[.null, .ref 16, .ref 62, .null, .int 0, .null], vm := .none },
  { cls := 15, slots := #[.null, .ref 16, .ref 63, .null, .int 0, .null], vm := .none },
  { cls := 17, slots := #[.null, .ref 12, .ref 64, .null, .int 0, .null], vm := .none },
  { cls := 15, slots := #[.null, .ref 16, .ref 65, .null, .int 0, .null], vm := .none },
  { cls := 15, slots := #[.null, .ref 16, .ref 66, .null, .int 0, .null], vm := .none },
  { cls := 15, slots := #[.null, .ref 16, .ref 67, .null, .int 0, .null], vm := .none },
  { cls := 17, slots := #[.null, .ref 12, .ref 68, .null, .int 0, .null], vm := .none },
  { cls := 17, slots := #[.null, .ref 12, .ref 69, .null, .int 0, .null], vm := .none },
  { cls := 17, slots := #[.null, .ref 26, .ref 70, .null, .int 0, .null], vm := .none },
  { cls := 17, slots := #[.null, .ref 12, .ref 71, .null, .int 0, .null], vm := .none },
  { cls := 15, slots := #[.null, .ref 16, .ref 72, .null, .int 0, .null], vm := .none },
  { cls := 17, slots := #[.null, .ref 2, .ref 73, .null, .int 0, .null], vm := .none },
  { cls := 17, slots := #[.null, .ref 2, .ref 74, .null, .int 0, .null], vm := .none },
  { cls := 17, slots := #[.null, .ref 4, .ref 75, .null, .int 0, .null], vm := .none },
  { cls := 17, slots := #[.null, .ref 4, .ref 76, .null, .int 0, .null], vm := .none },
  { cls := 17, slots := #[.null, .ref 2, .ref 77, .null, .int 0, .null], vm := .none },
  { cls := 17, slots := #[.null, .ref 2, .ref 78, .null, .int 0, .null], vm := .none },
  { cls := 17, slots := #[.null, .ref 4, .ref 79, .null, .int 0, .null], vm := .none },
  { cls := 17, slots := #[.null, .ref 4, .ref 80, .null, .int 0, .null], vm := .none },
  { cls := 17, slots := #[.null, .ref 2, .ref 81, .null, .int 0, .null], vm := .none },
  { cls := 17, slots := #[.null, .ref 2, .ref 82, .null, .int 0, .null], vm := .none },
  { cls := 17, slots := #[.null, .ref 4, .ref 83, .null, .int 0, .null], vm := .none },
  { cls := 17, slots := #[.null, .ref 4, .ref 84, .null, .int 0, .null], vm := .none },
  { cls := 17, slots := #[.null, .ref 2, .ref 85, .null, .int 0, .null], vm := .none },
  { cls := 17, slots := #[.null, .ref 2, .ref 86, .null, .int 0, .null], vm := .none },
  { cls := 17, slots := #[.null, .ref 4, .ref 87, .null, .int 0, .null], vm := .none },
  { cls := 17, slots := #[.null, .ref 4, .ref 88, .null, .int 0, .null], vm := .none },
  { cls := 17, slots := #[.null, .ref 2, .ref 89, .null, .int 0, .null], vm := .none },
  { cls := 17, slots := #[.null, .ref 2, .ref 90, .null, .int 0, .null], vm := .none },
  { cls := 17, slots := #[.null, .ref 4, .ref 91, .null, .int 0, .null], vm := .none },
  { cls := 17, slots := #[.null, .ref 4, .ref 92, .null, .int 0, .null], vm := .none },
  { cls := 17, slots := #[.null, .ref 2, .ref 93, .null, .int 0, .null], vm := .none },
  { cls := 17, slots := #[.null, .ref 2, .ref 94, .null, .int 0, .null], vm := .none },
  { cls := 17, slots := #[.null, .ref 4, .ref 95, .null, .int 0, .null], vm := .none },
  { cls := 17, slots := #[.null, .ref 4, .ref 96, .null, .int 0, .null], vm := .none },
  { cls := 17, slots := #[.null, .ref 2, .ref 97, .null, .int 0, .null], vm := .none },
  { cls := 17, slots := #[.null, .ref 2, .ref 98, .null, .int 0, .null], vm := .none },
  { cls := 17, slots := #[.null, .ref 4, .ref 99, .null, .int 0, .null], vm := .none },
  { cls := 17, slots := #[.null, .ref 4, .ref 100, .null, .int 0, .null], vm := .none },
  { cls := 17, slots := #[.null, .ref 2, .ref 101, .null, .int 0, .null], vm := .none },
  { cls := 17, slots := #[.null, .ref 2, .ref 102, .null, .int 0, .null], vm := .none },
  { cls := 17, slots := #[.null, .ref 4, .ref 103, .null, .int 0, .null], vm := .none },
  { cls := 17, slots := #[.null, .ref 4, .ref 104, .null, .int 0, .null], vm := .none },
  { cls := 15, slots := #[.null, .ref 10, .ref 105, .null, .int 0, .null], vm := .none },
  { cls := 17, slots := #[.null, .ref 8, .ref 106, .null, .int 0, .null], vm := .none },
  { cls := 17, slots := #[.null, .ref 2, .ref 107, .null, .int 0, .null], vm := .none },
  { cls := 15, slots := #[.null, .ref 10, .ref 108, .null, .int 0, .null], vm := .none },
  { cls := 17, slots := #[.null, .ref 12, .ref 109, .null, .int 0, .null], vm := .none },
  { cls := 17, slots := #[.null, .ref 14, .ref 110, .null, .int 0, .null], vm := .none },
  { cls := 17, slots := #[.null, .ref 14, .ref 111, .null, .int 0, .null], vm := .none },
  { cls := 17, slots := #[.null, .ref 12, .ref 112, .null, .int 0, .null], vm := .none },
  { cls := 17, slots := #[.null, .ref 2, .ref 113, .null, .int 0, .null], vm := .none },
  { cls := 17, slots := #[.null, .ref 14, .ref 114, .null, .int 0, .null], vm := .none },
  { cls := 17, slots := #[.null, .ref 14, .ref 115, .null, .int 0, .null], vm := .none },
  { cls := 17, slots := #[.null, .ref 12, .ref 116, .null, .int 0, .null], vm := .none },
  { cls := 17, slots := #[.null, .ref 2, .ref 117, .null, .int 0, .null], vm := .none },
  { cls := 17, slots := #[.null, .ref 14, .ref 118, .null, .int 0, .null], vm := .none },
  { cls := 17, slots := #[.null, .ref 14, .ref 119, .null, .int 0, .null], vm := .none },
  { cls := 17, slots := #[.null, .ref 12, .ref 120, .null, .int 0, .null], vm := .none },
  { cls := 17, slots := #[.null, .ref 2, .ref 121, .null, .int 0, .null], vm := .none },
  { cls := 15, slots := #[.null, .ref 10, .ref 122, .null, .int 0, .null], vm := .none },
  { cls := 17, slots := #[.null, .ref 8, .ref 123, .null, .int 0, .null], vm := .none },
  { cls := 17, slots := #[.null, .ref 8, .ref 124, .null, .int 0, .null], vm := .none },
  { cls := 15, slots := #[.null, .ref 10, .ref 125, .null, .int 0, .null], vm := .none },
  { cls := 17, slots := #[.null, .ref 8, .ref 126, .null, .int 0, .null], vm := .none },
  { cls := 17, slots := #[.null, .ref 8, .ref 127, .null, .int 0, .null], vm := .none },
  { cls := 17, slots := #[.null, .ref 14, .ref 128, .null, .int 0, .null], vm := .none },
  { cls := 17, slots := #[.null, .ref 14, .ref 129, .null, .int 0, .null], vm := .none },
  { cls := 17, slots := #[.null, .ref 12, .ref 130, .null, .int 0, .null], vm := .none },
  { cls := 17, slots := #[.null, .ref 2, .ref 131, .null, .int 0, .null], vm := .none },
  { cls := 17, slots := #[.null, .ref 14, .ref 132, .null, .int 0, .null], vm := .none },
  { cls := 17, slots := #[.null, .ref 14, .ref 133, .null, .int 0, .null], vm := .none },
  { cls := 17, slots := #[.null, .ref 12, .ref 134, .null, .int 0, .null], vm := .none },
  { cls := 17, slots := #[.null, .ref 2, .ref 135, .null, .int 0, .null], vm := .none },
  { cls := 17, slots := #[.null, .ref 14, .ref 136, .null, .int 0, .null], vm := .none },
  { cls := 17, slots := #[.null, .ref 14, .ref 137, .null, .int 0, .null], vm := .none },
  { cls := 17, slots := #[.null, .ref 12, .ref 138, .null, .int 0, .null], vm := .none },
  { cls := 17, slots := #[.null, .ref 2, .ref 139, .null, .int 0, .null], vm := .none },
  { cls := 15, slots := #[.null, .ref 16, .ref 140, .null, .int 0, .null], vm := .none },
  { cls := 15, slots := #[.null, .ref 16, .ref 141, .null, .int 0, .null], vm := .none },
  { cls := 17, slots := #[.null, .ref 12, .ref 142, .null, .int 0, .null], vm := .none },
  { cls := 15, slots := #[.null, .ref 16, .ref 143, .null, .int 0, .null], vm := .none },
  { cls := 15, slots := #[.null, .ref 16, .ref 144, .null, .int 0, .null], vm := .none },
  { cls := 15, slots := #[.null, .ref 16, .ref 145, .null, .int 0, .null], vm := .none },
  { cls := 17, slots := #[.null, .ref 12, .ref 146, .null, .int 0, .null], vm := .none },
  { cls := 17, slots := #[.null, .ref 12, .ref 147, .null, .int 0, .null], vm := .none },
  { cls := 17, slots := #[.null, .ref 26, .ref 148, .null, .int 0, .null], vm := .none },
  { cls := 17, slots := #[.null, .ref 12, .ref 149, .null, .int 0, .null], vm := .none },
  { cls := 15, slots := #[.null, .ref 16, .ref 150, .null, .int 0, .null], vm := .none },
  { cls := 17, slots := #[.null, .ref 14, .ref 151, .null, .int 0, .null], vm := .none },
  { cls := 17, slots := #[.null, .ref 14, .ref 152, .null, .int 0, .null], vm := .none },
  { cls := 17, slots := #[.null, .ref 12, .ref 153, .null, .int 0, .null], vm := .none },
  { cls := 17, slots := #[.null, .ref 2, .ref 154, .null, .int 0, .null], vm := .none },
  { cls := 15, slots := #[.null, .ref 16, .ref 155, .null, .int 0, .null], vm := .none },
  { cls := 15, slots := #[.null, .ref 16, .ref 156, .null, .int 0, .null], vm := .none },
  { cls := 17, slots := #[.null, .ref 12, .ref 157, .null, .int 0, .null], vm := .none },
  { cls := 15, slots := #[.null, .ref 16, .ref 158, .null, .int 0, .null], vm := .none },
  { cls := 15, slots := #[.null, .ref 16, .ref 159, .null, .int 0, .null], vm := .none },
  { cls := 15, slots := #[.null, .ref 16, .ref 160, .null, .int 0, .null], vm := .none },
  { cls := 17, slots := #[.null, .ref 12, .ref 161, .null, .int 0, .null], vm := .none },
  { cls := 17, slots := #[.null, .ref 12, .ref 162, .null, .int 0, .null], vm := .none },
  { cls := 17, slots := #[.null, .ref 26, .ref 163, .null, .int 0, .null], vm := .none },
  { cls := 17, slots := #[.null, .ref 12, .ref 164, .null, .int 0, .null], vm := .none },
  { cls := 15, slots := #[.null, .ref 16, .ref 165, .null, .int 0, .null], vm := .none },
  { cls := 17, slots := #[.null, .ref 14, .ref 166, .null, .int 0, .null], vm := .none },
  { cls := 17, slots := #[.null, .ref 14, .ref 167, .null, .int 0, .null], vm := .none },
  { cls := 17, slots := #[.null, .ref 12, .ref 168, .null, .int 0, .null], vm := .none },
  { cls := 17, slots := #[.null, .ref 2, .ref 169, .null, .int 0, .null], vm := .none },
  { cls := 15, slots := #[.null, .ref 16, .ref 170, .null, .int 0, .null], vm := .none },
  { cls := 15, slots := #[.null, .ref 16, .ref 171, .null, .int 0, .null], vm := .none },
  { cls := 17, slots := #[.null, .ref 12, .ref 172, .null, .int 0, .null], vm := .none },
  { cls := 15, slots := #[.null, .ref 16, .ref 173, .null, .int 0, .null], vm := .none },
  { cls := 15, slots := #[.null, .ref 16, .ref 174, .null, .int 0, .null], vm := .none },
  { cls := 15, slots := #[.null, .ref 16, .ref 175, .null, .int 0, .null], vm := .none },
  { cls := 17, slots := #[.null, .ref 12, .ref 176, .null, .int 0, .null], vm := .none },
  { cls := 17, slots := #[.null, .ref 12, .ref 177, .null, .int 0, .null], vm := .none },
  { cls := 17, slots := #[.null, .null, .ref 178, .null, .int 0, .null], vm := .none }]
def zr_f34 : List Frame := [.java { method := ⟨11, 1⟩, pc := 27, locals := #[.val (.ref 178), .val (.ref 26)], stack := [.ref 178], locked := none },
  .java { method := ⟨13, 1⟩, pc := 2, locals := #[.val (.ref 178), .val (.ref 26)], stack := [], locked := none },
  .java { method := ⟨14, 1⟩, pc := 2, locals := #[.val (.ref 178), .val (.ref 26)], stack := [], locked := none },
  .java { method := ⟨17, 0⟩, pc := 2, locals := #[.val (.ref 178), .val (.ref 26)], stack := [], locked := none },
  .java { method := ⟨2, 15⟩, pc := 19, locals := #[.val (.ref 30), .val (.int 0), .val (.int 5), .val (.int 4), .unset, .unset], stack := [.ref 178], locked := none },
  .java { method := ⟨0, 16⟩, pc := 4, locals := #[.val (.ref 30), .val (.int 0), .val (.int 5), .val (.int 4), .unset, .unset], stack := [], locked := none },
  .java { method := ⟨0, 24⟩, pc := 183, locals := #[.val (.ref 30), .val (.int (-1)), .val (.int 1), .val (.ref 53), .val (.ref 54), .val (.ref 55), .val (.ref 56), .val (.ref 57), .val (.ref 58), .val (.ref 59), .val (.ref 60), .val (.ref 61), .val (.int 0), .val (.int 1), .unset, .unset, .unset], stack := [], locked := none },
  .java { method := ⟨0, 0⟩, pc := 238, locals := #[.val (.ref 0), .val (.ref 30), .val (.ref 53), .val (.ref 54), .val (.ref 55), .val (.ref 56), .val (.ref 57), .val (.ref 58), .val (.ref 59), .val (.ref 60), .val (.ref 61), .val (.int 23), .val (.int (-6)), .val (.int 12)], stack := [], locked := none },
  .native { method := ⟨0, 0⟩, args := #[] }]
def zr_u34 : Nat := 2322
def zr_w34 : State := stepsAlone start1.p0.tables start1.e0 767 (zr_mk zr_w33 zr_h33 zr_f33 zr_u33)
set_option maxRecDepth 16384 in
theorem zr_s34 : zr_run start1.p0.tables start1.e0 (zr_same zr_h34 zr_f34 zr_u34) 767 (zr_mk zr_w33 zr_h33 zr_f33 zr_u33) = true := by decide +kernel
end
section
def zr_h35 : List Cell := [{ cls := 2, slots := #[.ref 31, .ref 37, .ref 40, .ref 45, .ref 49], vm := .none },
  { cls := 3, slots := #[.ref 32, .ref 33, .ref 34, .ref 35, .ref 36, .int 0], vm := .none },
  { cls := 20, slots := #[.int 2, .int 2, .int 4, .int 0], vm := .none },
  { cls := 20, slots := #[.int 2, .int (-1), .int (-1), .int (-1), .int (-1), .int (-1), .int (-1), .int (-1), .int (-1), .int 1, .int (-1), .int (-1), .int (-1), .int (-1), .int (-1), .int (-1), .int (-1), .int 1, .int 0, .int 2, .int (-1), .int (-1), .int (-1), .int (-1), .int (-1), .int (-1), .int (-1), .int (-1), .int (-1), .int (-1), .int (-1), .int (-1)], vm := .none },
  { cls := 22, slots := #[.int 0, .int 0, .int 0, .int 0, .int 0, .int 0, .int 0, .int 0, .int 0, .int 0, .int 0, .int 0, .int 0, .int 0, .int 0, .int 0, .int 0, .int 0, .int 0, .int 0, .int 0, .int 0, .int 0, .int 0, .int 0, .int 0, .int 0, .int 0, .int 0, .int 0, .int 0, .int 0], vm := .none },
  { cls := 20, slots := #[.int 0, .int 0, .int 0, .int 0, .int 0, .int 0, .int 0, .int 0, .int 0, .int 2, .int 0, .int 0, .int 0, .int 0, .int 0, .int 0, .int 4, .int 0, .int 0, .int 0, .int 0, .int 0, .int 0, .int 0, .int 0, .int 0, .int 0, .int 0, .int 0, .int 0, .int 0, .int 0], vm := .none },
  { cls := 20, slots := #[.int (-1), .int (-1), .int 0, .int (-1), .int (-1), .int (-1), .int (-1), .int (-1), .int (-1), .int (-1), .int (-1), .int (-1), .int (-1), .int (-1), .int (-1), .int (-1), .int (-1), .int (-1), .int (-1), .int (-1), .int (-1), .int 47, .int (-1), .int (-1), .int (-1), .int (-1), .int (-1), .int (-1), .int (-1), .int (-1), .int (-1), .int (-1), .int (-1), .int (-1), .int (-1), .int (-1), .int (-1), .int (-1), .int (-1), .int (-1), .int (-1), .int (-1), .int (-1), .int (-1), .int (-1), .int (-1), .int (-1), .int (-1), .int (-1), .int (-1), .int (-1), .int (-1), .int (-1), .int (-1), .int (-1), .int (-1), .int (-1), .int (-1), .int (-1), .int (-1), .int (-1), .int (-1), .int (-1), .int (-1), .int (-1), .int (-1), .int (-1), .int (-1), .int (-1), .int (-1), .int (-1), .int (-1), .int (-1), .int (-1), .int (-1), .int (-1), .int (-1), .int (-1), .int (-1), .int (-1), .int (-1), .int (-1), .int (-1), .int (-1), .int (-1), .int (-1), .int (-1), .int (-1), .int (-1), .int (-1), .int (-1), .int (-1), .int (-1), .int (-1), .int (-1), .int (-1), .int (-1), .int (-1), .int (-1), .int (-1), .int (-1), .int (-1), .int (-1), .int (-1), .int (-1), .int (-1), .int (-1), .int (-1), .int (-1), .int (-1), .int (-1), .int (-1), .int (-1), .int (-1), .int (-1), .int (-1), .int (-1), .int (-1), .int (-1), .int (-1), .int (-1), .int (-1), .int (-1), .int (-1), .int (-1), .int (-1), .int (-1), .int (-1), .int (-1), .int (-1), .int (-1), .int (-1), .int (-1), .int (-1), .int (-1), .int (-1), .int (-1), .int (-1), .int (-1), .int (-1), .int (-1), .int (-1), .int (-1), .int (-1), .int (-1), .int (-1), .int (-1), .int (-1), .int (-1), .int (-1), .int (-1), .int (-1), .int (-1), .int (-1), .int (-1), .int (-1), .int (-1), .int (-1), .int (-1), .int (-1), .int (-1), .int 47, .int 2, .int (-1), .int (-1), .int (-1), .int (-1), .int (-1), .int (-1), .int (-1), .int (-1), .int (-1), .int (-1), .int (-1), .int (-1), .int (-1), .int (-1), .int (-1), .int (-1), .int (-1), .int (-1), .int (-1), .int (-1), .int (-1), .int (-1), .int (-1), .int (-1), .int (-1), .int (-1), .int (-1), .int (-1), .int (-1), .int (-1), .int (-1), .int (-1), .int (-1), .int (-1), .int (-1), .int (-1), .int (-1), .int (-1), .int (-1), .int (-1), .int (-1), .int (-1), .int (-1), .int (-1), .int (-1), .int (-1), .int (-1), .int (-1), .int (-1), .int (-1), .int (-1), .int (-1), .int (-1), .int (-1), .int (-1), .int (-1), .int (-1), .int (-1), .int (-1), .int (-1), .int (-1), .int (-1), .int (-1), .int (-1), .int (-1), .int (-1), .int (-1), .int (-1), .int (-1), .int (-1), .int (-1), .int (-1), .int (-1), .int (-1), .int (-1), .int (-1), .int (-1), .int (-1), .int (-1), .int (-1), .int (-1), .int (-1), .int (-1), .int (-1), .int (-1), .int (-1), .int (-1), .int (-1), .int (-1), .int (-1), .int (-1), .int (-1), .int (-1), .int (-1), .int (-1), .int (-1), .int (-1), .int (-1), .int (-1), .int (-1), .int (-1), .int (-1), .int (-1), .int (-1), .int (-1), .int (-1), .int (-1), .int (-1), .int (-1), .int (-1), .int (-1), .int (-1), .int (-1), .int (-1), .int (-1), .int (-1), .int (-1), .int (-1), .int (-1), .int (-1), .int (-1), .int (-1), .int (-1), .int (-1), .int (-1), .int (-1), .int (-1), .int (-1), .int (-1), .int (-1), .int (-1), .int (-1), .int (-1), .int (-1), .int (-1), .int (-1), .int (-1), .int (-1), .int (-1), .int (-1), .int (-1), .int (-1), .int (-1), .int (-1), .int (-1), .int (-1), .int (-1), .int (-1), .int (-1), .int (-1), .int (-1), .int (-1), .int (-1), .int (-1), .int (-1), .int (-1), .int (-1), .int (-1), .int (-1), .int (-1), .int (-1), .int (-1), .int (-1), .int (-1), .int (-1), .int (-1), .int (-1), .int (-1), .int (-1), .int (-1), .int (-1), .int (-1), .int (-1), .int (-1), .int (-1), .int (-1), .int (-1), .int (-1), .int (-1), .int (-1), .int 1, .int (-1), .int (-1), .int (-1), .int (-1), .int (-1), .int (-1), .int (-1), .int (-1), .int (-1), .int (-1), .int (-1), .int (-1), .int (-1), .int (-1), .int (-1), .int (-1), .int (-1), .int (-1), .int (-1), .int (-1), .int (-1), .int (-1), .int (-1), .int (-1), .int (-1), .int (-1), .int (-1), .int (-1), .int (-1), .int (-1), .int (-1), .int (-1), .int (-1), .int (-1), .int (-1), .int (-1), .int (-1), .int (-1), .int (-1), .int (-1), .int (-1), .int (-1), .int (-1), .int (-1), .int (-1), .int (-1), .int (-1), .int (-1), .int (-1), .int (-1), .int (-1), .int (-1), .int (-1), .int (-1), .int (-1), .int (-1), .int (-1), .int (-1), .int (-1), .int (-1), .int (-1), .int (-1), .int (-1), .int (-1), .int (-1), .int (-1), .int (-1), .int (-1), .int (-1), .int (-1), .int (-1), .int (-1), .int (-1), .int (-1), .int (-1), .int (-1), .int (-1), .int (-1), .int (-1), .int (-1), .int (-1), .int (-1), .int (-1), .int (-1), .int (-1), .int (-1), .int (-1), .int (-1), .int (-1), .int (-1), .int (-1), .int (-1), .int (-1), .int (-1), .int (-1), .int (-1), .int (-1), .int (-1), .int (-1), .int (-1), .int (-1), .int (-1), .int (-1), .int (-1), .int (-1), .int (-1), .int (-1), .int (-1), .int (-1), .int (-1), .int (-1), .int (-1), .int (-1), .int (-1), .int (-1), .int (-1), .int (-1), .int (-1), .int (-1), .int (-1), .int (-1), .int (-1), .int (-1), .int (-1), .int (-1), .int (-1), .int (-1), .int (-1), .int (-1), .int (-1), .int (-1), .int (-1), .int (-1), .int (-1), .int (-1), .int (-1), .int (-1), .int (-1), .int (-1), .int (-1), .int (-1), .int (-1), .int (-1), .int (-1), .int (-1), .int (-1), .int (-1), .int (-1), .int (-1), .int (-1), .int (-1), .int (-1), .int (-1), .int (-1), .int (-1), .int (-1), .int (-1), .int (-1), .int (-1), .int (-1), .int (-1), .int (-1), .int (-1), .int (-1), .int (-1), .int (-1), .int (-1), .int (-1), .int (-1), .int (-1), .int (-1), .int (-1), .int (-1), .int (-1), .int (-1), .int (-1), .int (-1), .int (-1), .int (-1), .int (-1), .int (-1), .int (-1), .int (-1), .int (-1), .int (-1), .int (-1), .int (-1), .int (-1), .int (-1), .int (-1), .int (-1), .int (-1), .int (-1), .int (-1), .int (-1), .int (-1), .int (-1), .int (-1), .int (-1), .int (-1), .int (-1), .int (-1), .int (-1), .int (-1), .int (-1), .int (-1), .int (-1), .int (-1), .int (-1), .int (-1), .int (-1), .int (-1), .int (-1), .int (-1), .int (-1), .int (-1), .int (-1), .int (-1), .int (-1), .int (-1), .int (-1), .int (-1), .int (-1), .int (-1), .int (-1), .int (-1), .int (-1), .int (-1), .int (-1), .int (-1), .int (-1), .int (-1), .int (-1), .int (-1), .int (-1), .int (-1), .int (-1), .int (-1), .int (-1), .int (-1), .int (-1), .int (-1), .int (-1), .int (-1), .int (-1), .int (-1), .int (-1), .int (-1), .int (-1), .int (-1), .int (-1), .int (-1), .int (-1), .int (-1), .int (-1), .int (-1), .int (-1), .int (-1), .int (-1), .int (-1), .int (-1), .int (-1), .int (-1), .int (-1), .int (-1), .int (-1), .int (-1), .int (-1), .int (-1), .int (-1), .int (-1), .int (-1), .int (-1), .int (-1), .int (-1), .int (-1), .int (-1), .int (-1), .int (-1), .int (-1), .int (-1), .int (-1), .int (-1), .int (-1), .int (-1), .int (-1), .int (-1), .int (-1), .int (-1), .int (-1), .int (-1), .int (-1), .int (-1), .int (-1), .int (-1), .int (-1)], vm := .none },
  { cls := 5, slots := #[.ref 38, .ref 39, .int 0, .int 0], vm := .none },
  { cls := 20, slots := #[.int 0, .int 0, .int 0, .int 0, .int 0, .int 0, .int 0, .int 0, .int 0, .int 0, .int 0, .int 0], vm := .none },
  { cls := 20, slots := #[.int 0, .int 0, .int 0, .int 0, .int 0, .int 0, .int 0, .int 0, .int 0, .int 0, .int 0, .int 0], vm := .none },
  { cls := 6, slots := #[.ref 31, .ref 37, .ref 41, .ref 42, .ref 43, .ref 44, .int 0, .int 0, .int 1, .int 1], vm := .none },
  { cls := 20, slots := #[.int 0, .int 0, .int 0, .int 0, .int 0, .int 0, .int 0, .int 0, .int 0, .int 0, .int 0, .int 0], vm := .none },
  { cls := 20, slots := #[.int 0, .int 0, .int 0, .int 0, .int 0, .int 0, .int 0, .int 0, .int 0, .int 0, .int 0, .int 0], vm := .none },
  { cls := 20, slots := #[.int 0, .int 0, .int 0, .int 0, .int 0, .int 0, .int 0, .int 0, .int 0, .int 0, .int 0, .int 0, .int 0, .int 0, .int 0, .int 0, .int 0, .int 0, .int 0, .int 0, .int 0, .int 0, .int 0, .int 0, .int 0, .int 0, .int 0, .int 0, .int 0, .int 0, .int 0, .int 0, .int 0, .int 0, .int 0, .int 0, .int 0, .int 0, .int 0, .int 0, .int 0, .int 0, .int 0, .int 0, .int 0, .int 0, .int 0, .int 0], vm := .none },
  { cls := 20, slots := #[.int 0, .int 0, .int 0, .int 0, .int 0, .int 0, .int 0, .int 0, .int 0, .int 0, .int 0, .int 0], vm := .none },
  { cls := 7, slots := #[.ref 31, .ref 37, .ref 40, .ref 46, .ref 47, .ref 48, .int 0], vm := .none },
  { cls := 20, slots := #[.int 0, .int 0, .int 0, .int 0, .int 0, .int 0, .int 0, .int 0, .int 0, .int 0, .int 0, .int 0], vm := .none },
  { cls := 20, slots := #[.int 0, .int 0, .int 0, .int 0, .int 0, .int 0, .int 0, .int 0, .int 0, .int 0, .int 0, .int 0], vm := .none },
  { cls := 22, slots := #[.int 0, .int 0, .int 0, .int 0, .int 0, .int 0, .int 0, .int 0, .int 0, .int 0, .int 0, .int 0], vm := .none },
  { cls := 7, slots := #[.ref 31, .ref 37, .ref 40, .ref 50, .ref 51, .ref 52, .int 0], vm := .none },
  { cls := 20, slots := #[.int 0, .int 0, .int 0, .int 0, .int 0, .int 0, .int 0, .int 0, .int 0, .int 0, .int 0, .int 0], vm := .none },
  { cls := 20, slots := #[.int 0, .int 0, .int 0, .int 0, .int 0, .int 0, .int 0, .int 0, .int 0, .int 0, .int 0, .int 0], vm := .none },
  { cls := 22, slots := #[.int 0, .int 0, .int 0, .int 0, .int 0, .int 0, .int 0, .int 0, .int 0, .int 0, .int 0, .int 0], vm := .none },
  { cls := 20, slots := #[.int 3, .int 0, .int 0, .int 0, .int 0, .int 34, .int 0, .int 0, .int 64, .int 2, .int 1, .int 3], vm := .none },
  { cls := 20, slots := #[.int 0, .int 0, .int 0, .int 0, .int 0, .int 48, .int 0, .int 0, .int 1, .int 0, .int 0, .int 0, .int 0, .int 0, .int 0, .int 0, .int 0, .int 0, .int 0, .int 0, .int 0, .int 0, .int 0, .int 0, .int 48, .int 0, .int 0, .int 0, .int 3, .int 0, .int 0, .int 0, .int 0, .int 0, .int 0, .int 0, .int 0, .int 0, .int 0, .int 0, .int 0, .int 0, .int 0, .int 0, .int 0, .int 0, .int 0, .int 0, .int 0, .int 0, .int 0, .int 0, .int 0, .int 2, .int 0, .int 0, .int 0, .int 0, .int 0, .int 0], vm := .none },
  { cls := 20, slots := #[.int 0, .int 0, .int 0, .int 0, .int 0, .int 0], vm := .none },
  { cls := 20, slots := #[.int 0, .int 0, .int 0, .int 0, .int 0, .int 0], vm := .none },
  { cls := 20, slots := #[.int 0, .int 0, .int 0, .int 0, .int 0, .int 0], vm := .none },
  { cls := 20, slots := #[.int 0, .int 0, .int 0, .int 0, .int 0, .int 0], vm := .none },
  { cls := 20, slots := #[.int 0, .int 0, .int 0, .int 0, .int 0, .int 0], vm := .none },
  { cls := 20, slots := #[.int 0, .int 0, .int 0, .int 0, .int 0, .int 0], vm := .none },
  { cls := 20, slots := #[.int 2, .int 2, .int 4, .int 0, .int 0, .int 0, .int 0, .int 0], vm := .none },
  { cls := 15, slots := #[.null, .ref 16, .ref 62, .null, .int 0, .null], vm := .none },
  { cls := 15, slots := #[.null, .ref 16, .ref 63, .null, .int 0, .null], vm := .none },
  { cls := 17, slots := #[.null, .ref 12, .ref 64, .null, .int 0, .null], vm := .none },
  { cls := 15, slots := #[.null, .ref 16, .ref 65, .null, .int 0, .null], vm := .none },
  { cls := 15, slots := #[.null, .ref 16, .ref 66, .null, .int 0, .null], vm := .none },
  { cls := 15, slots := #[.null, .ref 16, .ref 67, .null, .int 0, .null], vm := .none },
  { cls := 17, slots := #[.null, .ref 12, .ref 68, .null, .int 0, .null], vm := .none },
  { cls := 17, slots := #[.null, .ref 12, .ref 69, .null, .int 0, .null], vm := .none },
  { cls := 17, slots := #[.null, .ref 26, .ref 70, .null, .int 0, .null], vm := .none },
  { cls := 17, slots := #[.null, .ref 12, .ref 71, .null, .int 0, .null], vm := .none },
  { cls := 15, slots := #[.null, .ref 16, .ref 72, .null, .int 0, .null], vm := .none },
  { cls := 17, slots := #[.null, .ref 2, .ref 73, .null, .int 0, .null], vm := .none },
  { cls := 17, slots := #[.null, .ref 2, .ref 74, .null, .int 0, .null], vm := .none },
  { cls := 17, slots := #[.null, .ref 4, .ref 75, .null, .int 0, .null], vm := .none },
  { cls := 17, slots := #[.null, .ref 4, .ref 76, .null, .int 0, .null], vm := .none },
  { cls := 17, slots := #[.null, .ref 2, .ref 77, .null, .int 0, .null], vm := .none },
  { cls := 17, slots := #[.null, .ref 2, .ref 78, .null, .int 0, .null], vm := .none },
  { cls := 17, slots := #[.null, .ref 4, .ref 79, .null, .int 0, .null], vm := .none },
  { cls := 17, slots := #[.null, .ref 4, .ref 80, .null, .int 0, .null], vm := .none },
  { cls := 17, slots := #[.null, .ref 2, .ref 81, .null, .int 0, .null], vm := .none },
  { cls := 17, slots := #[.null, .ref 2, .ref 82, .null, .int 0, .null], vm := .none },
  { cls := 17, slots := #[.null, .ref 4, .ref 83, .null, .int 0, .null], vm := .none },
  { cls := 17, slots := #[.null, .ref 4, .ref 84, .null, .int 0, .null], vm := .none },
  { cls := 17, slots := #[.null, .ref 2, .ref 85, .null, .int 0, .null], vm := .none },
  { cls := 17, slots := #[.null, .ref 2, .ref 86, .null, .int 0, .null], vm := .none },
  { cls := 17, slots := #[.null, .ref 4, .ref 87, .null, .int 0, .null], vm := .none },
  { cls := 17, slots := #[.null, .ref 4, .ref 88, .null, .int 0, .null], vm := .none },
  { cls := 17, slots := #[.null, .ref 2, .ref 89, .null, .int 0, .null], vm := .none },
  { cls := 17, slots := #[.null, .ref 2, .ref 90, .null, .int 0, .null], vm := .none },
  { cls := 17, slots := #[.null, .ref 4, .ref 91, .null, .int 0, .null], vm := .none },
  { cls := 17, slots := #[.null, .ref 4, .ref 92, .null, .int 0, .null], vm := .none },
  { cls := 17, slots := #[.null, .ref 2, .ref 93, .null, .int 0, .null], vm := .none },
  { cls := 17, slots := #[.null, .ref 2, .ref 94, .null, .int 0, .null], vm := .none },
  { cls := 17, slots := #[.null, .ref 4, .ref 95, .null, .int 0, .null], vm := .none },
  { cls := 17, slots := #[.null, .ref 4, .ref 96, .null, .int 0, .null], vm := .none },
  { cls := 17, slots := #[.null, .ref 2, .ref 97, .null, .int 0, .null], vm := .none },
  { cls := 17, slots := #[.null, .ref 2, .ref 98, .null, .int 0, .null], vm := .none },
  { cls := 17, slots := #[.null, .ref 4, .ref 99, .null, .int 0, .null], vm := .none },
  { cls := 17, slots := #[.null, .ref 4, .ref 100, .null, .int 0, .null], vm := .none },
  { cls := 17, slots := #[.null, .ref 2, .ref 101, .null, .int 0, .null], vm := .none },
  { cls := 17, slots := #[.null, .ref 2, .ref 102, .null, .int 0, .null], vm := .none },
  { cls := 17, slots := #[.null, .ref 4, .ref 103, .null, .int 0, .null], vm := .none },
  { cls := 17, slots := #[.null, .ref 4, .ref 104, .null, .int 0, .null], vm := .none },
  { cls := 15, slots := #[.null, .ref 10, .ref 105, .null, .int 0, .null], vm := .none },
  { cls := 17, slots := #[.null, .ref 8, .ref 106, .null, .int 0, .null], vm := .none },
  { cls := 17, slots := #[.null, .ref 2, .ref 107, .null, .int 0, .null], vm := .none },
  { cls := 15, slots := #[.null, .ref 10, .ref 108, .null, .int 0, .null], vm := .none },
  { cls := 17, slots := #[.null, .ref 12, .ref 109, .null, .int 0, .null], vm := .none },
  { cls := 17, slots := #[.null, .ref 14, .ref 110, .null, .int 0, .null], vm := .none },
  { cls := 17, slots := #[.null, .ref 14, .ref 111, .null, .int 0, .null], vm := .none },
  { cls := 17, slots := #[.null, .ref 12, .ref 112, .null, .int 0, .null], vm := .none },
  { cls := 17, slots := #[.null, .ref 2, .ref 113, .null, .int 0, .null], vm := .none },
  { cls := 17, slots := #[.null, .ref 14, .ref 114, .null, .int 0, .null], vm := .none },
  { cls := 17, slots := #[.null, .ref 14, .ref 115, .null, .int 0, .null], vm := .none },
  { cls := 17, slots := #[.null, .ref 12, .ref 116, .null, .int 0, .null], vm := .none },
  { cls := 17, slots := #[.null, .ref 2, .ref 117, .null, .int 0, .null], vm := .none },
  { cls := 17, slots := #[.null, .ref 14, .ref 118, .null, .int 0, .null], vm := .none },
  { cls := 17, slots := #[.null, .ref 14, .ref 119, .null, .int 0, .null], vm := .none },
  { cls := 17, slots := #[.null, .ref 12, .ref 120, .null, .int 0, .null], vm := .none },
  { cls := 17, slots := #[.null, .ref 2, .ref 121, .null, .int 0, .null], vm := .none },
  { cls := 15, slots := #[.null, .ref 10, .ref 122, .null, .int 0, .null], vm := .none },
  { cls := 17, slots := #[.null, .ref 8, .ref 123, .null, .int 0, .null], vm := .none },
  { cls := 17, slots := #[.null, .ref 8, .ref 124, .null, .int 0, .null], vm := .none },
  { cls := 15, slots := #[.null, .ref 10, .ref 125, .null, .int 0, .null], vm := .none },
  { cls := 17, slots := #[.null, .ref 8, .ref 126, .null, .int 0, .null], vm := .none },
  { cls := 17, slots := #[.null, .ref 8, .ref 127, .null, .int 0, .null], vm := .none },
  { cls := 17, slots := #[.null, .ref 14, .ref 128, .null, .int 0, .null], vm := .none },
  { cls := 17, slots := #[.null, .ref 14, .ref 129, .null, .int 0, .null], vm := .none },
  { cls := 17, slots := #[.null, .ref 12, .ref 130, .null, .int 0, .null], vm := .none },
  { cls := 17, slots := #[.null, .ref 2, .ref 131, .null, .int 0, .null], vm := .none },
  { cls := 17, slots := #[.null, .ref 14, .ref 132, .null, .int 0, .null], vm := .none },
  { cls := 17, slots := #[.null, .ref 14, .ref 133, .null, .int 0, .null], vm := .none },
  { cls := 17, slots := #[.null, .ref 12, .ref 134, .null, .int 0, .null], vm := .none },
  { cls := 17, slots := #[.null, .ref 2, .ref 135, .null, .int 0, .null], vm := .none },
  { cls := 17, slots := #[.null, .ref 14, .ref 136, .null, .int 0, .null], vm := .none },
  { cls := 17, slots := #[.null, .ref 14, .ref 137, .null, .int 0, .null], vm := .none },
  { cls := 17, slots := #[.null, .ref 12, .ref 138, .null, .int 0, .null], vm := .none },
  { cls := 17, slots := #[.null, .ref 2, .ref 139, .null, .int 0, .null], vm := .none },
  { cls := 15, slots := #[.null, .ref 16, .ref 140, .null, .int 0, .null], vm := .none },
  { cls := 15, slots := #[.null, .ref 16, .ref 141, .null, .int 0, .null], vm := .none },
  { cls := 17, slots := #[.null, .ref 12, .ref 142, .null, .int 0, .null], vm := .none },
  { cls := 15, slots := #[.null, .ref 16, .ref 143, .null, .int 0, .null], vm := .none },
  { cls := 15, slots := #[.null, .ref 16, .ref 144, .null, .int 0, .null], vm := .none },
  { cls := 15, slots := #[.null, .ref 16, .ref 145, .null, .int 0, .null], vm := .none },
  { cls := 17, slots := #[.null, .ref 12, .ref 146, .null, .int 0, .null], vm := .none },
  { cls := 17, slots := #[.null, .ref 12, .ref 147, .null, .int 0, .null], vm := .none },
  { cls := 17, slots := #[.null, .ref 26, .ref 148, .null, .int 0, .null], vm := .none },
  { cls := 17, slots := #[.null, .ref 12, .ref 149, .null, .int 0, .null], vm := .none },
  { cls := 15, slots := #[.null, .ref 16, .ref 150, .null, .int 0, .null], vm := .none },
  { cls := 17, slots := #[.null, .ref 14, .ref 151, .null, .int 0, .null], vm := .none },
  { cls := 17, slots := #[.null, .ref 14, .ref 152, .null, .int 0, .null], vm := .none },
  { cls := 17, slots := #[.null, .ref 12, .ref 153, .null, .int 0, .null], vm := .none },
  { cls := 17, slots := #[.null, .ref 2, .ref 154, .null, .int 0, .null], vm := .none },
  { cls := 15, slots := #[.null, .ref 16, .ref 155, .null, .int 0, .null], vm := .none },
  { cls := 15, slots := #[.null, .ref 16, .ref 156, .null, .int 0, .null], vm := .none },
  { cls := 17, slots := #[.null, .ref 12, .ref 157, .null, .int 0, .null], vm := .none },
  { cls := 15, slots := #[.null, .ref 16, .ref 158, .null, .int 0, .null], vm := .none },
  { cls := 15, slots := #[.null, .ref 16, .ref 159, .null, .int 0, .null], vm := .none },
  { cls := 15, slots := #[.null, .ref 16, .ref 160, .null, .int 0, .null], vm := .none },
  { cls := 17, slots := #[.null, .ref 12, .ref 161, .null, .int 0, .null], vm := .none },
  { cls := 17, slots := #[.null, .ref 12, .ref 162, .null, .int 0, .null], vm := .none },
  { cls := 17, slots := #[.null, .ref 26, .ref 163, .null, .int 0, .null], vm := .none },
  { cls := 17, slots := #[.null, .ref 12, .ref 164, .null, .int 0, .null], vm := .none },
  { cls := 15, slots := #[.null, .ref 16, .ref 165, .null, .int 0, .null], vm := .none },
  { cls := 17, slots := #[.null, .ref 14, .ref 166, .null, .int 0, .null], vm := .none },
  { cls := 17, slots := #[.null, .ref 14, .ref 167, .null, .int 0, .null], vm := .none },
  { cls := 17, slots := #[.null, .ref 12, .ref 168, .null, .int 0, .null], vm := .none },
  { cls := 17, slots := #[.null, .ref 2, .ref 169, .null, .int 0, .null], vm := .none },
  { cls := 15, slots := #[.null, .ref 16, .ref 170, .null, .int 0, .null], vm := .none },
  { cls := 15, slots := #[.null, .ref 16, .ref 171, .null, .int 0, .null], vm := .none },
  { cls := 17, slots := #[.null, .ref 12, .ref 172, .null, .int 0, .null], vm := .none },
  { cls := 15, slots := #[.null, .ref 16, .ref 173, .null, .int 0, .null], vm := .none },
  { cls := 15, slots := #[.null, .ref 16, .ref 174, .null, .int 0, .null], vm := .none },
  { cls := 15, slots := #[.null, .ref 16, .ref 175, .null, .int 0, .null], vm := .none },
  { cls := 17, slots := #[.null, .ref 12, .ref 176, .null, .int 0, .null], vm := .none },
  { cls := 17, slots := #[.null, .ref 12, .ref 177, .null, .int 0, .null], vm := .none },
  { cls := 17, slots := #[.null, .ref 26, .ref 178, .null, .int 0, .null], vm := .none },
  { cls := 17, slots := #[.null, .ref 12, .ref 179, .null, .int 0, .null], vm := .none },
  { cls := 15, slots := #[.null, .null, .null, .null, .int 0, .null], vm := .none }]
def zr_f35 : List Frame := [.java { method := ⟨2, 28⟩, pc := 14, locals := #[.val (.ref 30), .val (.int 0)], stack := [.ref 180], locked := none },
  .java { method := ⟨2, 15⟩, pc := 25, locals := #[.val (.ref 30), .val (.int 0), .val (.int 0), .val (.int 19), .unset, .unset], stack := [], locked := none },
  .java { method := ⟨0, 16⟩, pc := 4, locals := #[.val (.ref 30), .val (.int 0), .val (.int 0), .val (.int 19), .unset, .unset], stack := [], locked := none },
  .java { method := ⟨0, 24⟩, pc := 212, locals := #[.val (.ref 30), .val (.int (-1)), .val (.int 1), .val (.ref 53), .val (.ref 54), .val (.ref 55), .val (.ref 56), .val (.ref 57), .val (.ref 58), .val (.ref 59), .val (.ref 60), .val (.ref 61), .val (.int 0), .val (.int 1), .unset, .unset, .unset], stack := [], locked := none },
  .java { method := ⟨0, 0⟩, pc := 238, locals := #[.val (.ref 0), .val (.ref 30), .val (.ref 53), .val (.ref 54), .val (.ref 55), .val (.ref 56), .val (.ref 57), .val (.ref 58), .val (.ref 59), .val (.ref 60), .val (.ref 61), .val (.int 23), .val (.int (-6)), .val (.int 12)], stack := [], locked := none },
  .native { method := ⟨0, 0⟩, args := #[] }]
def zr_u35 : Nat := 2334
def zr_w35 : State := stepsAlone start1.p0.tables start1.e0 164 (zr_mk zr_w34 zr_h34 zr_f34 zr_u34)
set_option maxRecDepth 16384 in
theorem zr_s35 : zr_run start1.p0.tables start1.e0 (zr_same zr_h35 zr_f35 zr_u35) 164 (zr_mk zr_w34 zr_h34 zr_f34 zr_u34) = true := by decide +kernel
end
section
/-! THE RUN AS A WHOLE, AND WHAT THE STATEMENT SAYS OF IT: the law makes more cells than the statement's 150, so the statement is false as it is printed -/
def zr_A (n : Nat) (w : State) (h : List Cell) (f : List Frame) (u : Nat) : Prop := stepsAlone start1.p0.tables start1.e0 n start1.about = zr_mk w h f u ∧ ∀ j, j < n → zr_two (stepsAlone start1.p0.tables start1.e0 j start1.about).frames = true
theorem zr_first {w' : State} {h' : List Cell} {f' : List Frame} {u' n : Nat} (hw : stepsAlone start1.p0.tables start1.e0 n start1.about = w') (hr : zr_run start1.p0.tables start1.e0 (zr_same h' f' u') n start1.about = true) : zr_A n w' h' f' u' := by
  obtain ⟨a, b⟩ := zr_run_ok n _ hr
  have c := zr_same_eq (fun i k hk => zr_stays start1.p0.tables start1.e0 n start1.about i k (by rw [← zr_V_eq]; exact hk)) b
  rw [hw] at c
  exact ⟨hw.trans c, a⟩
theorem zr_next {a n N : Nat} {w w' : State} {h h' : List Cell} {f f' : List Frame} {u u' : Nat} (hN : a + n = N) (hw : stepsAlone start1.p0.tables start1.e0 n (zr_mk w h f u) = w') (A : zr_A a w h f u) (hr : zr_run start1.p0.tables start1.e0 (zr_same h' f' u') n (zr_mk w h f u) = true) : zr_A N w' h' f' u' := by
  obtain ⟨p, q⟩ := zr_run_ok n _ hr
  have c := zr_same_eq (fun i k hk => zr_stays start1.p0.tables start1.e0 n (zr_mk w h f u) i k hk) q
  rw [hw] at c
  subst hN
  refine ⟨by rw [stepsAlone_add, A.1, hw]; exact c, fun j hj => ?_⟩
  rcases Nat.lt_or_ge j a with g | g
  · exact A.2 j g
  · obtain ⟨i, rfl⟩ := Nat.exists_eq_add_of_le g
    rw [stepsAlone_add, A.1]
    exact p i (by omega)
theorem zr_a1 : zr_A 60 zr_w1 zr_h1 zr_f1 zr_u1 := zr_first (by rw [zr_w1]) zr_s1
theorem zr_a2 : zr_A 2360 zr_w2 zr_h2 zr_f2 zr_u2 := zr_next (a := 60) (n := 2300) (by decide) (by rw [zr_w2]) zr_a1 zr_s2
theorem zr_a3 : zr_A 4660 zr_w3 zr_h3 zr_f3 zr_u3 := zr_next (a := 2360) (n := 2300) (by decide) (by rw [zr_w3]) zr_a2 zr_s3
theorem zr_a4 : zr_A 6060 zr_w4 zr_h4 zr_f4 zr_u4 := zr_next (a := 4660) (n := 1400) (by decide) (by rw [zr_w4]) zr_a3 zr_s4
theorem zr_a5 : zr_A 6767 zr_w5 zr_h5 zr_f5 zr_u5 := zr_next (a := 6060) (n := 707) (by decide) (by rw [zr_w5]) zr_a4 zr_s5
theorem zr_a6 : zr_A 7565 zr_w6 zr_h6 zr_f6 zr_u6 := zr_next (a := 6767) (n := 798) (by decide) (by rw [zr_w6]) zr_a5 zr_s6
theorem zr_a7 : zr_A 9328 zr_w7 zr_h7 zr_f7 zr_u7 := zr_next (a := 7565) (n := 1763) (by decide) (by rw [zr_w7]) zr_a6 zr_s7
theorem zr_a8 : zr_A 11628 zr_w8 zr_h8 zr_f8 zr_u8 := zr_next (a := 9328) (n := 2300) (by decide) (by rw [zr_w8]) zr_a7 zr_s8
theorem zr_a9 : zr_A 13462 zr_w9 zr_h9 zr_f9 zr_u9 := zr_next (a := 11628) (n := 1834) (by decide) (by rw [zr_w9]) zr_a8 zr_s9
theorem zr_a10 : zr_A 14374 zr_w10 zr_h10 zr_f10 zr_u10 := zr_next (a := 13462) (n := 912) (by decide) (by rw [zr_w10]) zr_a9 zr_s10
theorem zr_a11 : zr_A 15286 zr_w11 zr_h11 zr_f11 zr_u11 := zr_next (a := 14374) (n := 912) (by decide) (by rw [zr_w11]) zr_a10 zr_s11
theorem zr_a12 : zr_A 16200 zr_w12 zr_h12 zr_f12 zr_u12 := zr_next (a := 15286) (n := 914) (by decide) (by rw [zr_w12]) zr_a11 zr_s12
theorem zr_a13 : zr_A 17044 zr_w13 zr_h13 zr_f13 zr_u13 := zr_next (a := 16200) (n := 844) (by decide) (by rw [zr_w13]) zr_a12 zr_s13
theorem zr_a14 : zr_A 17924 zr_w14 zr_h14 zr_f14 zr_u14 := zr_next (a := 17044) (n := 880) (by decide) (by rw [zr_w14]) zr_a13 zr_s14
theorem zr_a15 : zr_A 18924 zr_w15 zr_h15 zr_f15 zr_u15 := zr_next (a := 17924) (n := 1000) (by decide) (by rw [zr_w15]) zr_a14 zr_s15
theorem zr_a16 : zr_A 19832 zr_w16 zr_h16 zr_f16 zr_u16 := zr_next (a := 18924) (n := 908) (by decide) (by rw [zr_w16]) zr_a15 zr_s16
theorem zr_a17 : zr_A 20820 zr_w17 zr_h17 zr_f17 zr_u17 := zr_next (a := 19832) (n := 988) (by decide) (by rw [zr_w17]) zr_a16 zr_s17
theorem zr_a18 : zr_A 21711 zr_w18 zr_h18 zr_f18 zr_u18 := zr_next (a := 20820) (n := 891) (by decide) (by rw [zr_w18]) zr_a17 zr_s18
theorem zr_a19 : zr_A 22608 zr_w19 zr_h19 zr_f19 zr_u19 := zr_next (a := 21711) (n := 897) (by decide) (by rw [zr_w19]) zr_a18 zr_s19
theorem zr_a20 : zr_A 23577 zr_w20 zr_h20 zr_f20 zr_u20 := zr_next (a := 22608) (n := 969) (by decide) (by rw [zr_w20]) zr_a19 zr_s20
theorem zr_a21 : zr_A 24456 zr_w21 zr_h21 zr_f21 zr_u21 := zr_next (a := 23577) (n := 879) (by decide) (by rw [zr_w21]) zr_a20 zr_s21
theorem zr_a22 : zr_A 25332 zr_w22 zr_h22 zr_f22 zr_u22 := zr_next (a := 24456) (n := 876) (by decide) (by rw [zr_w22]) zr_a21 zr_s22
theorem zr_a23 : zr_A 26209 zr_w23 zr_h23 zr_f23 zr_u23 := zr_next (a := 25332) (n := 877) (by decide) (by rw [zr_w23]) zr_a22 zr_s23
theorem zr_a24 : zr_A 27095 zr_w24 zr_h24 zr_f24 zr_u24 := zr_next (a := 26209) (n := 886) (by decide) (by rw [zr_w24]) zr_a23 zr_s24
theorem zr_a25 : zr_A 27966 zr_w25 zr_h25 zr_f25 zr_u25 := zr_next (a := 27095) (n := 871) (by decide) (by rw [zr_w25]) zr_a24 zr_s25
theorem zr_a26 : zr_A 28827 zr_w26 zr_h26 zr_f26 zr_u26 := zr_next (a := 27966) (n := 861) (by decide) (by rw [zr_w26]) zr_a25 zr_s26
theorem zr_a27 : zr_A 29653 zr_w27 zr_h27 zr_f27 zr_u27 := zr_next (a := 28827) (n := 826) (by decide) (by rw [zr_w27]) zr_a26 zr_s27
theorem zr_a28 : zr_A 30379 zr_w28 zr_h28 zr_f28 zr_u28 := zr_next (a := 29653) (n := 726) (by decide) (by rw [zr_w28]) zr_a27 zr_s28
theorem zr_a29 : zr_A 31156 zr_w29 zr_h29 zr_f29 zr_u29 := zr_next (a := 30379) (n := 777) (by decide) (by rw [zr_w29]) zr_a28 zr_s29
theorem zr_a30 : zr_A 32026 zr_w30 zr_h30 zr_f30 zr_u30 := zr_next (a := 31156) (n := 870) (by decide) (by rw [zr_w30]) zr_a29 zr_s30
theorem zr_a31 : zr_A 32785 zr_w31 zr_h31 zr_f31 zr_u31 := zr_next (a := 32026) (n := 759) (by decide) (by rw [zr_w31]) zr_a30 zr_s31
theorem zr_a32 : zr_A 33559 zr_w32 zr_h32 zr_f32 zr_u32 := zr_next (a := 32785) (n := 774) (by decide) (by rw [zr_w32]) zr_a31 zr_s32
theorem zr_a33 : zr_A 34420 zr_w33 zr_h33 zr_f33 zr_u33 := zr_next (a := 33559) (n := 861) (by decide) (by rw [zr_w33]) zr_a32 zr_s33
theorem zr_a34 : zr_A 35187 zr_w34 zr_h34 zr_f34 zr_u34 := zr_next (a := 34420) (n := 767) (by decide) (by rw [zr_w34]) zr_a33 zr_s34
theorem zr_a35 : zr_A 35351 zr_w35 zr_h35 zr_f35 zr_u35 := zr_next (a := 35187) (n := 164) (by decide) (by rw [zr_w35]) zr_a34 zr_s35
/-- the cells behind 35351 steps, and the run is still under way -/
theorem zr_cells : Nat.blt (start1.about.heap.size + 150) (start1.about.heap.toList ++ zr_h35).length = true := by decide +kernel
theorem zr_ends {s : State} {v : Option Value} (h : Ended s Lib.HandBits.below0 (.returned v)) : zr_two s.frames = false := by
  have h2 : s.frames = [.native { method := ⟨0, 0⟩, args := #[], awaiting := false, answer := some (.returned v) }] := h
  rw [h2]
  rfl
/-- THE STATEMENT IS FALSE AS PRINTED: from the start that the witness gives, the law's run makes more than 150 cells -/
theorem p20_first_false : ¬ Claimed_1_1 := by
  intro hA
  obtain ⟨hL, hW, had, -, hcas, hclk, hfr, hfit, hheap, happ, hcalls, hrest, hpre⟩ := start1.atStart
  obtain ⟨n, o, -, -, hend, hpost⟩ := hA launch0 rfl hL hW start1.p0 start1.e0 had hcas hclk start1.about ⟨0, 0⟩ start1.args0 Lib.HandBits.below0 hfr hfit hheap happ ⟨hcalls, hrest, hpre⟩
  obtain ⟨-, ⟨v, rfl⟩, -, hsame⟩ := hpost
  have hN : 35351 ≤ n := by
    rcases Nat.lt_or_ge n 35351 with h | h
    · have := zr_a35.2 n h
      rw [zr_ends hend] at this
      cases this
    · exact h
  obtain ⟨j, rfl⟩ := Nat.exists_eq_add_of_le hN
  have h1 : (stepsAlone start1.p0.tables start1.e0 (35351 + j) start1.about).heap.size ≤ start1.about.heap.size + 150 := hsame.2.2.1
  rw [stepsAlone_add, zr_a35.1] at h1
  have h2 := stepsAlone_heap_le start1.p0.tables start1.e0 j (zr_mk zr_w35 zr_h35 zr_f35 zr_u35)
  have h3 : (zr_mk zr_w35 zr_h35 zr_f35 zr_u35).heap.size = (start1.about.heap.toList ++ zr_h35).length := rfl
  have h4 := zr_cells
  rw [Nat.blt_eq] at h4
  omega
theorem p20_false : ¬ (Claimed_1_1 ∧ Claimed_1_2) := fun h => p20_first_false h.1
end
section
theorem i_vc : Claimed_1_1 ∧ Claimed_1_2 := sorry
end
