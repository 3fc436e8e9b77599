/-! TWO STATES ARE ONE: what is compared by running, and what stays of a class by the library's own law -/
def zr_list {α : Type} (eq : α → α → Bool) : List α → List α → Bool
  | [], [] => true
  | a :: l, b :: r => match eq a b with
    | true => zr_list eq l r
    | false => false
  | _, _ => false
theorem zr_list_eq {α : Type} {eq : α → α → Bool} (h : ∀ a b, eq a b = true → a = b) : ∀ l r, zr_list eq l r = true → l = r
  | [], [], _ => rfl
  | [], _ :: _, h1 => by simp [zr_list] at h1
  | _ :: _, [], h1 => by simp [zr_list] at h1
  | a :: l, b :: r, h1 => by
    unfold zr_list at h1
    split at h1
    · rename_i h2; rw [h a b h2, zr_list_eq h l r h1]
    · cases h1
def zr_val : Value → Value → Bool
  | .int a, .int b => Nat.beq a.toBitVec.toNat b.toBitVec.toNat
  | .ref a, .ref b => Nat.beq a b
  | .null, .null => true
  | .long a, .long b => Nat.beq a.toBitVec.toNat b.toBitVec.toNat
  | _, _ => false
theorem zr_val_eq (a b : Value) (h : zr_val a b = true) : a = b := by
  unfold zr_val at h
  split at h
  · rename_i x y
    rw [show x = y from Int32.toBitVec_inj.mp (BitVec.eq_of_toNat_eq (Nat.eq_of_beq_eq_true h))]
  · rw [Nat.eq_of_beq_eq_true h]
  · rfl
  · rename_i x y
    rw [show x = y from Int64.toBitVec_inj.mp (BitVec.eq_of_toNat_eq (Nat.eq_of_beq_eq_true h))]
  · cases h
def zr_cell (a b : Cell) : Bool := decide (a.cls = b.cls) && (zr_list zr_val a.slots.toList b.slots.toList && (decide (a.monitor = b.monitor) && (decide (a.hash = b.hash) && decide (a.vm = b.vm))))
theorem zr_cell_eq (a b : Cell) (h : zr_cell a b = true) : a = b := by
  simp only [zr_cell, Bool.and_eq_true, decide_eq_true_eq] at h
  obtain ⟨h1, h2, h3, h4, h5⟩ := h
  replace h2 : a.slots = b.slots := Array.toList_inj.mp (zr_list_eq zr_val_eq _ _ h2)
  cases a; cases b
  simp only at h1 h2 h3 h4 h5
  subst h1 h2 h3 h4 h5
  rfl
def zr_slot (a b : Slot) : Bool := decide (a = b)
def zr_java (a b : JFrame) : Bool := decide (a.method = b.method) && (decide (a.pc = b.pc) && (zr_list zr_slot a.locals.toList b.locals.toList && (zr_list zr_val a.stack b.stack && (decide (a.locked = b.locked) && (decide (a.entered = b.entered) && decide (a.monitorRoom = b.monitorRoom))))))
theorem zr_java_eq (a b : JFrame) (h : zr_java a b = true) : a = b := by
  simp only [zr_java, Bool.and_eq_true, decide_eq_true_eq] at h
  obtain ⟨h1, h2, h3, h4, h5, h6, h7⟩ := h
  replace h3 : a.locals = b.locals := Array.toList_inj.mp (zr_list_eq (fun x y h => of_decide_eq_true h) _ _ h3)
  replace h4 : a.stack = b.stack := zr_list_eq zr_val_eq _ _ h4
  cases a; cases b
  simp only at h1 h2 h3 h4 h5 h6 h7
  subst h1 h2 h3 h4 h5 h6 h7
  rfl
def zr_bot : Frame → Bool
  | .native ⟨⟨0, 0⟩, ⟨[]⟩, 0, ⟨[]⟩, false, none, none, 0⟩ => true
  | _ => false
theorem zr_bot_eq {f : Frame} (h : zr_bot f = true) : f = .native { method := ⟨0, 0⟩, args := #[] } := by
  revert h; unfold zr_bot; split <;> intro h <;> first | rfl | cases h
def zr_frame (a b : Frame) : Bool := match a, b with
  | .java f, .java g => zr_java f g
  | .native f, .native g => zr_bot (.native f) && zr_bot (.native g)
  | _, _ => false
theorem zr_frame_eq (a b : Frame) (h : zr_frame a b = true) : a = b := by
  unfold zr_frame at h
  split at h
  · rw [zr_java_eq _ _ h]
  · rw [Bool.and_eq_true] at h
    rw [zr_bot_eq h.1, zr_bot_eq h.2]
  · cases h
def zr_fr : Thread → Option (List Frame)
  | ⟨fs, .runnable, none, false, false, .other, none, .null, 0⟩ => some fs
  | _ => none
theorem zr_fr_eq {t : Thread} {fs : List Frame} (h : zr_fr t = some fs) : t = { frames := fs } := by
  revert h; unfold zr_fr; split <;> intro h <;> first | (cases h; done) | (injection h with h; subst h; rfl)
def zr_res : Option Resolved → Option Resolved → Bool
  | none, none => true
  | some (.cls a), some (.cls b) => Nat.beq a b
  | some (.field a i), some (.field b j) => Nat.beq a b && Nat.beq i j
  | some (.method ⟨a, i⟩), some (.method ⟨b, j⟩) => Nat.beq a b && Nat.beq i j
  | some (.string a), some (.string b) => Nat.beq a b
  | _, _ => false
theorem zr_res_eq (a b : Option Resolved) (h : zr_res a b = true) : a = b := by
  unfold zr_res at h
  split at h
  · rfl
  · rw [Nat.eq_of_beq_eq_true h]
  · rw [Bool.and_eq_true] at h
    rw [Nat.eq_of_beq_eq_true h.1, Nat.eq_of_beq_eq_true h.2]
  · rw [Bool.and_eq_true] at h
    rw [Nat.eq_of_beq_eq_true h.1, Nat.eq_of_beq_eq_true h.2]
  · rw [Nat.eq_of_beq_eq_true h]
  · cases h
def zr_cls (a b : Class) : Bool := decide (a.accessFlags = b.accessFlags) && (decide (a.super = b.super) && (decide (a.interfaces.toList = b.interfaces.toList) && (decide (a.instanceTypes.toList = b.instanceTypes.toList) && (decide (a.staticTypes.toList = b.staticTypes.toList) && (zr_list zr_res a.resolved.toList b.resolved.toList && (decide (a.callSites = b.callSites) && (decide (a.invokers = b.invokers) && (decide (a.handedOver = b.handedOver) && (decide (a.initiators = b.initiators) && (decide (a.protectionDomain = b.protectionDomain) && (decide (a.signers = b.signers) && (decide (a.nestHost = b.nestHost) && (decide (a.nestHostError = b.nestHostError) && (decide (a.linked = b.linked) && (decide (a.init = b.init) && (decide (a.statics = b.statics) && decide (a.mirror = b.mirror)))))))))))))))))
theorem zr_cls_eq (a b : Class) (hs : a.Stays b) (h : zr_cls a b = true) : a = b := by
  simp only [zr_cls, Bool.and_eq_true, decide_eq_true_eq] at h
  obtain ⟨h1, h2, h3, h4, h5, h6, h7, h8, h9, h10, h11, h12, h13, h14, h15, h16, h17, h18⟩ := h
  obtain ⟨s1, s2, s3, s4, s5, -, -, s8, s9, -⟩ := hs
  replace h3 : a.interfaces = b.interfaces := Array.toList_inj.mp h3
  replace h4 : a.instanceTypes = b.instanceTypes := Array.toList_inj.mp h4
  replace h5 : a.staticTypes = b.staticTypes := Array.toList_inj.mp h5
  replace h6 : a.resolved = b.resolved := Array.toList_inj.mp (zr_list_eq zr_res_eq _ _ h6)
  cases a; cases b
  simp only at h1 h2 h3 h4 h5 h6 h7 h8 h9 h10 h11 h12 h13 h14 h15 h16 h17 h18 s1 s2 s3 s4 s5 s8 s9
  subst h1 h2 h3 h4 h5 h6 h7 h8 h9 h10 h11 h12 h13 h14 h15 h16 h17 h18 s1 s2 s3 s4 s5 s8 s9
  rfl
theorem zr_clss : ∀ (l r : List Class), zr_list zr_cls l r = true → (∀ (i : Nat) (k : Class), l[i]? = some k → ∃ k', r[i]? = some k' ∧ k.Stays k') → l = r
  | [], [], _, _ => rfl
  | [], _ :: _, h1, _ => by simp [zr_list] at h1
  | _ :: _, [], h1, _ => by simp [zr_list] at h1
  | a :: l, b :: r, h1, hs => by
    unfold zr_list at h1
    split at h1
    · rename_i h2
      obtain ⟨k', e, h3⟩ := hs 0 a rfl
      have e : b = k' := by simpa using e
      subst e
      rw [zr_cls_eq a b h3 h2, zr_clss l r h1 (fun i k hk => by
        obtain ⟨k', e, h4⟩ := hs (i + 1) k (by simpa using hk)
        exact ⟨k', by simpa using e, h4⟩)]
    · cases h1
/-- tables with classes alone -/
def zr_bare : Vm → Option (Array Class)
  | ⟨cs, ⟨[]⟩, ⟨[]⟩, none, none, [], [], [], l0, [], [], [], [], 0, ⟨[]⟩, none, [], false, []⟩ => match decide (l0 = 0) with
    | true => some cs
    | false => none
  | _ => none
theorem zr_bare_eq {v : Vm} {cs : Array Class} (h : zr_bare v = some cs) : v = { classes := cs } := by
  revert h; unfold zr_bare; split
  · split
    · rename_i h1
      have h1 := of_decide_eq_true h1
      intro h
      injection h with h
      subst h1 h
      rfl
    · intro h; cases h
  · intro h; cases h
def zr_vmeq (a b : Vm) : Bool := match zr_bare a, zr_bare b with
  | some x, some y => zr_list zr_cls x.toList y.toList
  | _, _ => false
theorem zr_vmeq_eq (a b : Vm) (h : zr_vmeq a b = true) (hs : ∀ (i : Nat) (k : Class), a.classes[i]? = some k → ∃ k', b.classes[i]? = some k' ∧ k.Stays k') : a = b := by
  unfold zr_vmeq at h
  split at h
  · rename_i x y hx hy
    have ex := zr_bare_eq hx
    have ey := zr_bare_eq hy
    subst ex ey
    have : x = y := Array.toList_inj.mp (zr_clss _ _ h (fun i k hk => by
      obtain ⟨k', e, h3⟩ := hs i k (by rw [← Array.getElem?_toList]; exact hk)
      exact ⟨k', by rw [Array.getElem?_toList]; exact e, h3⟩))
    rw [this]
  · cases h
theorem zr_stays (tb : Tables) (e : Env) : ∀ (n : Nat) (s : State) (i : Nat) (k : Class), s.vm.classes[i]? = some k → ∃ k', (stepsAlone tb e n s).vm.classes[i]? = some k' ∧ k.Stays k'
  | 0, s, i, k, h => ⟨k, h, .refl k⟩
  | n + 1, s, i, k, h => by
    rw [stepsAlone]
    split
    · obtain ⟨k1, h1, h2⟩ := (stepThread_hm (e := e) tb (s := s) (cH := i) (msH := k) ⟨k, h, .refl k⟩).out
      obtain ⟨k2, h3, h4⟩ := zr_stays tb e n _ i k1 h1
      exact ⟨k2, h3, h2.trans h4⟩
    · exact ⟨k, h, .refl k⟩
theorem zr_with {c : Class} {l : List (Option Resolved)} (h : l = c.resolved.toList) : ({ c with resolved := ⟨l⟩ } : Class) = c := by subst h; rfl
