/-! THE PLAN, as mathematics: services 0 to 3, sets of them as numbers below 16; pl: the place of each node (-1 the top, or the number of the node above), c: from which services a node may be taken, h: the fewest hops below a node by its service -/
def zpop (n : Nat) : Nat := n % 2 + n / 2 % 2 + n / 4 % 2 + n / 8 % 2
def zrem (hm S : Nat) : Nat := if hm < 4 then zset false S hm else S
def zF4 (c : Nat) (h : Nat → Nat) (S : Nat) : Nat → Nat
  | 0 => 1000
  | s + 1 => if (S &&& c).testBit s then min (zF4 c h S s) (h s) else zF4 c h S s
def zHU (pl : Nat → Int32) (c : Nat → Nat) (h : Nat → Nat → Nat) (x : Int32) (S : Nat) : Nat → Nat
  | 0 => 0
  | n + 1 => zHU pl c h x S n + if pl n = x then zF4 (c n) (h n) S 4 else 0
def zMin (cost : Nat → Nat) : Nat → Nat
  | 0 => 1000
  | k + 1 => min (zMin cost k) (cost k)
def zA (cn : Nat) (pl : Nat → Int32) (c : Nat → Nat) (h : Nat → Nat → Nat) (x : Int32) (hm : Nat) : Nat := zMin (fun S => zpop (zrem hm S) + zHU pl c h x S cn) 16
def zHf (cn : Nat) (pl : Nat → Int32) (c : Nat → Nat) : Nat → Nat → Nat → Nat
  | 0 => fun _ _ => 0
  | k + 1 => fun n s => zA cn pl c (zHf cn pl c k) (nI n) s
def zH (cn : Nat) (pl : Nat → Int32) (c : Nat → Nat) : Nat → Nat → Nat := zHf cn pl c 12
def zTot (cn : Nat) (pl : Nat → Int32) (c : Nat → Nat) : Nat := zA cn pl c (zH cn pl c) (-1) 4
/-- a node's place is the top, or an earlier node -/
def zTree (cn : Nat) (pl : Nat → Int32) : Prop := ∀ n, n < cn → pl n = -1 ∨ ∃ q, q < n ∧ pl n = nI q
theorem zMin_le_cap (cost : Nat → Nat) : ∀ k, zMin cost k ≤ 1000
  | 0 => Nat.le_refl _
  | k + 1 => Nat.le_trans (Nat.min_le_left _ _) (zMin_le_cap cost k)
theorem zMin_le (cost : Nat → Nat) : ∀ k j, j < k → zMin cost k ≤ cost j
  | 0, j, h => absurd h (Nat.not_lt_zero j)
  | k + 1, j, h => by
    unfold zMin
    rcases Nat.lt_or_ge j k with q | q
    · exact Nat.le_trans (Nat.min_le_left _ _) (zMin_le cost k j q)
    · have : j = k := by omega
      subst this; exact Nat.min_le_right _ _
theorem zMin_ge {cost : Nat → Nat} {v : Nat} (hv : v ≤ 1000) : ∀ k, (∀ j, j < k → v ≤ cost j) → v ≤ zMin cost k
  | 0, _ => hv
  | k + 1, h => Nat.le_min.mpr ⟨zMin_ge hv k (fun j hj => h j (by omega)), h k (by omega)⟩
theorem zMin_at (cost : Nat → Nat) : ∀ k, zMin cost k < 1000 → ∃ j, j < k ∧ zMin cost k = cost j
  | 0, h => absurd h (Nat.lt_irrefl _)
  | k + 1, h => by
    unfold zMin at h ⊢
    rcases Nat.lt_or_ge (zMin cost k) (cost k) with q | q
    · rw [Nat.min_eq_left (Nat.le_of_lt q)] at h ⊢
      obtain ⟨j, h1, h2⟩ := zMin_at cost k h
      exact ⟨j, by omega, h2⟩
    · rw [Nat.min_eq_right q]
      exact ⟨k, by omega, rfl⟩
theorem zMin_congr {f g : Nat → Nat} : ∀ k, (∀ j, j < k → f j = g j) → zMin f k = zMin g k
  | 0, _ => rfl
  | k + 1, h => by unfold zMin; rw [zMin_congr k (fun j hj => h j (by omega)), h k (by omega)]
theorem zMin_zero {cost : Nat → Nat} {k m : Nat} (h : k ≤ m) (h0 : zMin cost k = 0) : zMin cost m = 0 := by
  induction m with
  | zero => have : k = 0 := by omega
            subst this; exact h0
  | succ m ih =>
    rcases Nat.lt_or_ge k (m + 1) with q | q
    · unfold zMin; rw [ih (by omega)]; exact Nat.zero_min _
    · have : k = m + 1 := by omega
      subst this; exact h0
theorem zF4_cap (c : Nat) (h : Nat → Nat) (S : Nat) : ∀ s, zF4 c h S s ≤ 1000
  | 0 => Nat.le_refl _
  | s + 1 => by
    unfold zF4
    split
    · exact Nat.le_trans (Nat.min_le_left _ _) (zF4_cap c h S s)
    · exact zF4_cap c h S s
theorem zF4_le {c S : Nat} {h : Nat → Nat} : ∀ k s, s < k → (S &&& c).testBit s = true → zF4 c h S k ≤ h s
  | 0, s, hs, _ => absurd hs (Nat.not_lt_zero s)
  | k + 1, s, hs, hb => by
    unfold zF4
    rcases Nat.lt_or_ge s k with q | q
    · have ih := zF4_le (h := h) k s q hb
      split
      · exact Nat.le_trans (Nat.min_le_left _ _) ih
      · exact ih
    · have : s = k := by omega
      subst this; rw [if_pos hb]; exact Nat.min_le_right _ _
theorem zF4_ge {c S v : Nat} {h : Nat → Nat} (hv : v ≤ 1000) : ∀ k, (∀ s, s < k → (S &&& c).testBit s = true → v ≤ h s) → v ≤ zF4 c h S k
  | 0, _ => hv
  | k + 1, hh => by
    have ih := zF4_ge (c := c) (S := S) (h := h) hv k (fun s hs => hh s (by omega))
    unfold zF4
    split
    · rename_i hb; exact Nat.le_min.mpr ⟨ih, hh k (by omega) hb⟩
    · exact ih
theorem zF4_at {c S : Nat} {h : Nat → Nat} : ∀ k, zF4 c h S k < 1000 → ∃ s, s < k ∧ (S &&& c).testBit s = true ∧ zF4 c h S k = h s
  | 0, hh => absurd hh (Nat.lt_irrefl _)
  | k + 1, hh => by
    unfold zF4 at hh ⊢
    by_cases hb : (S &&& c).testBit k = true
    · rw [if_pos hb] at hh ⊢
      rcases Nat.lt_or_ge (zF4 c h S k) (h k) with q | q
      · rw [Nat.min_eq_left (Nat.le_of_lt q)] at hh ⊢
        obtain ⟨s, h1, h2, h3⟩ := zF4_at k hh
        exact ⟨s, by omega, h2, h3⟩
      · rw [Nat.min_eq_right q]
        exact ⟨k, by omega, hb, rfl⟩
    · rw [if_neg hb] at hh ⊢
      obtain ⟨s, h1, h2, h3⟩ := zF4_at k hh
      exact ⟨s, by omega, h2, h3⟩
/-- fewer services, more hops: no fewer in all -/
theorem zF4_mono {c c' S : Nat} {h h' : Nat → Nat} (hc : ∀ s, s < 4 → c'.testBit s = true → c.testBit s = true) (hh : ∀ s, s < 4 → c'.testBit s = true → h s ≤ h' s) : zF4 c h S 4 ≤ zF4 c' h' S 4 := by
  refine zF4_ge (zF4_cap _ _ _ _) 4 (fun s hs hb => ?_)
  rw [Nat.testBit_and, Bool.and_eq_true] at hb
  exact Nat.le_trans (zF4_le 4 s hs (by rw [Nat.testBit_and, hb.1, hc s hs hb.2]; rfl)) (hh s hs hb.2)
theorem zF4_congr {c c' S : Nat} {h h' : Nat → Nat} (hc : c = c') (hh : ∀ s, s < 4 → c.testBit s = true → h s = h' s) : zF4 c h S 4 = zF4 c' h' S 4 := by
  subst hc
  exact Nat.le_antisymm (zF4_mono (fun _ _ h => h) (fun s hs hb => Nat.le_of_eq (hh s hs hb))) (zF4_mono (fun _ _ h => h) (fun s hs hb => Nat.le_of_eq (hh s hs hb).symm))
section ZM
variable {cn : Nat} {pl : Nat → Int32} {c c' : Nat → Nat} {h h' : Nat → Nat → Nat} {x : Int32} {S hm : Nat}
theorem zHU_mono (hc : ∀ m, m < cn → pl m = x → ∀ s, s < 4 → (c' m).testBit s = true → (c m).testBit s = true) (hh : ∀ m, m < cn → pl m = x → ∀ s, s < 4 → (c' m).testBit s = true → h m s ≤ h' m s) : ∀ n, n ≤ cn → zHU pl c h x S n ≤ zHU pl c' h' x S n
  | 0, _ => Nat.le_refl _
  | n + 1, hn => by
    have ih := zHU_mono hc hh n (by omega)
    unfold zHU
    split
    · rename_i hp
      have := zF4_mono (S := S) (hc n (by omega) hp) (hh n (by omega) hp)
      omega
    · omega
theorem zHU_congr (hc : ∀ m, m < cn → pl m = x → c m = c' m) (hh : ∀ m, m < cn → pl m = x → ∀ s, s < 4 → (c m).testBit s = true → h m s = h' m s) : zHU pl c h x S cn = zHU pl c' h' x S cn :=
  Nat.le_antisymm (zHU_mono (fun m hm hp s _ hb => by rw [hc m hm hp]; exact hb) (fun m hm hp s hs hb => Nat.le_of_eq (hh m hm hp s hs (by rw [hc m hm hp]; exact hb))) cn (Nat.le_refl _))
    (zHU_mono (fun m hm hp s _ hb => by rw [← hc m hm hp]; exact hb) (fun m hm hp s hs hb => Nat.le_of_eq (hh m hm hp s hs hb).symm) cn (Nat.le_refl _))
theorem zHU_part : ∀ n q, q < n → pl q = x → zF4 (c q) (h q) S 4 ≤ zHU pl c h x S n
  | 0, q, hq, _ => absurd hq (Nat.not_lt_zero q)
  | n + 1, q, hq, hp => by
    unfold zHU
    rcases Nat.lt_or_ge q n with k | k
    · have := zHU_part n q k hp; omega
    · have : q = n := by omega
      subst this; rw [if_pos hp]; omega
theorem zHU_strict (hc : ∀ m, m < cn → pl m = x → ∀ s, s < 4 → (c' m).testBit s = true → (c m).testBit s = true) (hh : ∀ m, m < cn → pl m = x → ∀ s, s < 4 → (c' m).testBit s = true → h m s ≤ h' m s) {q : Nat} (hp : pl q = x) (hs : zF4 (c q) (h q) S 4 < zF4 (c' q) (h' q) S 4) : ∀ n, n ≤ cn → q < n → zHU pl c h x S n < zHU pl c' h' x S n
  | 0, _, hq => absurd hq (Nat.not_lt_zero q)
  | n + 1, hn, hq => by
    unfold zHU
    rcases Nat.lt_or_ge q n with k | k
    · have ih := zHU_strict hc hh hp hs n (by omega) k
      split
      · rename_i hp2
        have := zF4_mono (S := S) (hc n (by omega) hp2) (hh n (by omega) hp2)
        omega
      · omega
    · have : q = n := by omega
      subst this
      have := zHU_mono (S := S) hc hh q (by omega)
      rw [if_pos hp, if_pos hp]; omega
theorem zA_cap : zA cn pl c h x hm ≤ 1000 := zMin_le_cap _ _
theorem zA_mono (hc : ∀ m, m < cn → pl m = x → ∀ s, s < 4 → (c' m).testBit s = true → (c m).testBit s = true) (hh : ∀ m, m < cn → pl m = x → ∀ s, s < 4 → (c' m).testBit s = true → h m s ≤ h' m s) : zA cn pl c h x hm ≤ zA cn pl c' h' x hm := by
  refine zMin_ge zA_cap 16 (fun S hS => Nat.le_trans (zMin_le _ 16 S hS) ?_)
  have := zHU_mono (S := S) hc hh cn (Nat.le_refl _)
  show zpop (zrem hm S) + _ ≤ zpop (zrem hm S) + _
  omega
theorem zA_congr (hc : ∀ m, m < cn → pl m = x → c m = c' m) (hh : ∀ m, m < cn → pl m = x → ∀ s, s < 4 → (c m).testBit s = true → h m s = h' m s) : zA cn pl c h x hm = zA cn pl c' h' x hm :=
  zMin_congr 16 (fun S _ => by show zpop (zrem hm S) + _ = zpop (zrem hm S) + _; rw [zHU_congr hc hh])
/-- one node taken from one service, with more hops below it: strictly more in all -/
theorem zA_strict (hc : ∀ m, m < cn → pl m = x → ∀ s, s < 4 → (c' m).testBit s = true → (c m).testBit s = true) (hh : ∀ m, m < cn → pl m = x → ∀ s, s < 4 → (c' m).testBit s = true → h m s ≤ h' m s) {q t : Nat} (hq : q < cn) (hp : pl q = x) (ht : t < 4) (h1 : ∀ s, s < 4 → ((c' q).testBit s = true ↔ s = t)) (h1' : (c q).testBit t = true) (hlt : h q t < h' q t) (hcap : h' q t ≤ 1000) (hb : zA cn pl c h x hm < 1000) : zA cn pl c h x hm < zA cn pl c' h' x hm := by
  refine zMin_ge (v := zA cn pl c h x hm + 1) hb 16 (fun S hS => ?_)
  show _ ≤ zpop (zrem hm S) + zHU pl c' h' x S cn
  by_cases hb2 : S.testBit t = true
  · have e2 : h' q t ≤ zF4 (c' q) (h' q) S 4 := zF4_ge hcap 4 (fun s hs hb => by
      rw [Nat.testBit_and, Bool.and_eq_true] at hb
      rw [(h1 s hs).mp hb.2]
      exact Nat.le_refl _)
    have e1 : zF4 (c q) (h q) S 4 ≤ h q t := zF4_le 4 t ht (by rw [Nat.testBit_and, hb2, h1']; rfl)
    have e3 := zHU_strict (S := S) hc hh hp (by omega) cn (Nat.le_refl _) hq
    have e4 : zA cn pl c h x hm ≤ zpop (zrem hm S) + zHU pl c h x S cn := zMin_le _ 16 S hS
    omega
  · have e1 : zF4 (c' q) (h' q) S 4 = 1000 := Nat.le_antisymm (zF4_cap _ _ _ _) (zF4_ge (Nat.le_refl _) 4 (fun s hs hb => by
      rw [Nat.testBit_and, Bool.and_eq_true] at hb
      rw [(h1 s hs).mp hb.2] at hb
      exact absurd hb.1 hb2))
    have e2 := zHU_part (c := c') (h := h') (S := S) cn q hq hp
    omega
theorem zTree.lt (hT : zTree cn pl) (hcn : cn ≤ 12) {m n : Nat} (hm : m < cn) (hn : n < cn) (hp : pl m = nI n) : n < m := by
  rcases hT m hm with e | ⟨q, hq, e⟩
  · rw [hp] at e; exact absurd e (nI_m1 (by omega))
  · rw [hp] at e
    have := (nI_eq (by omega) (by omega)).mp e
    omega
/-- the table is its own step -/
theorem zHf_step (hT : zTree cn pl) (hcn : cn ≤ 12) : ∀ k n, n < cn → cn ≤ n + k → ∀ s, zHf cn pl c (k + 1) n s = zHf cn pl c k n s
  | 0, n, h1, h2, _ => absurd h1 (by omega)
  | k + 1, n, h1, h2, s => by
    show zA cn pl c (zHf cn pl c (k + 1)) (nI n) s = zA cn pl c (zHf cn pl c k) (nI n) s
    refine zA_congr (fun _ _ _ => rfl) (fun m hm hp t ht _ => zHf_step hT hcn k m hm ?_ t)
    have := hT.lt hcn hm h1 hp
    omega
theorem zH_fix (hT : zTree cn pl) (hcn : cn ≤ 12) {n : Nat} (hn : n < cn) (s : Nat) : zH cn pl c n s = zA cn pl c (zH cn pl c) (nI n) s := by
  have := zHf_step (c := c) hT hcn 12 n hn (by omega) s
  unfold zH
  rw [← this]
  rfl
/-- a node's hops hang on the later nodes alone -/
theorem zHf_later (hT : zTree cn pl) (hcn : cn ≤ 12) : ∀ k n, n < cn → (∀ m, n < m → m < cn → c m = c' m) → ∀ s, zHf cn pl c k n s = zHf cn pl c' k n s
  | 0, _, _, _, _ => rfl
  | k + 1, n, hn, hc, s => by
    show zA cn pl c (zHf cn pl c k) (nI n) s = zA cn pl c' (zHf cn pl c' k) (nI n) s
    refine zA_congr (fun m hm hp => hc m (hT.lt hcn hm hn hp) hm) (fun m hm hp t ht _ => zHf_later hT hcn k m hm (fun m2 h1 h2 => hc m2 ?_ h2) t)
    have := hT.lt hcn hm hn hp
    omega
theorem zH_later (hT : zTree cn pl) (hcn : cn ≤ 12) {n : Nat} (hn : n < cn) (hc : ∀ m, n < m → m < cn → c m = c' m) (s : Nat) : zH cn pl c n s = zH cn pl c' n s := zHf_later hT hcn 12 n hn hc s
theorem zH_cap (hT : zTree cn pl) (hcn : cn ≤ 12) {n : Nat} (hn : n < cn) (s : Nat) : zH cn pl c n s ≤ 1000 := by rw [zH_fix hT hcn hn]; exact zA_cap
/-- the frontier's sum: nodes from k on whose place is before k -/
def zFr (cn : Nat) (pl : Nat → Int32) (h : Nat → Nat) (k : Nat) : Nat → Nat
  | 0 => 0
  | n + 1 => zFr cn pl h k n + if k ≤ n ∧ (pl n = -1 ∨ ∃ q, q < k ∧ pl n = nI q) then h n else 0
theorem zFr_none (f : Nat → Nat) (k : Nat) : ∀ n, n ≤ k → zFr cn pl f k n = 0
  | 0, _ => rfl
  | n + 1, h => by unfold zFr; rw [zFr_none f k n (by omega), if_neg (fun z => by omega)]
theorem zFr_step (hT : zTree cn pl) (hcn : cn ≤ 12) (k S : Nat) (hk : k < cn) : ∀ n, n ≤ cn → zFr cn pl (fun m => zF4 (c m) (h m) S 4) k n + zHU pl c h (nI k) S n = zFr cn pl (fun m => zF4 (c m) (h m) S 4) (k + 1) n + (if k < n then zF4 (c k) (h k) S 4 else 0)
  | 0, _ => rfl
  | n + 1, hn => by
    have ih := zFr_step hT hcn k S hk n (by omega)
    unfold zFr zHU
    have hinj : ∀ q, q < n → (pl n = nI q) → (pl n = nI k ↔ q = k) := fun q hq e => by
      rw [e]; exact ⟨fun z => (nI_eq (by omega) (by omega)).mp z, fun z => by rw [z]⟩
    rcases Nat.lt_trichotomy n k with hnk | hnk | hnk
    · rw [if_neg (show ¬ (k ≤ n ∧ _) from fun z => by omega), if_neg (show ¬ (k + 1 ≤ n ∧ _) from fun z => by omega), if_neg (show ¬ k < n + 1 by omega)]
      rw [if_neg (show ¬ k < n by omega)] at ih
      rw [if_neg]
      · omega
      · intro e
        rcases hT n (by omega) with e2 | ⟨q, hq, e2⟩
        · rw [e] at e2; exact nI_m1 (by omega) e2
        · have := (hinj q hq e2).mp e; omega
    · subst hnk
      rw [if_neg (show ¬ n < n by omega)] at ih
      rw [if_pos (show n < n + 1 by omega), if_neg (show ¬ (n + 1 ≤ n ∧ _) from fun z => by omega)]
      have hself : ¬ pl n = nI n := fun e => by
        rcases hT n (by omega) with e2 | ⟨q, hq, e2⟩
        · rw [e] at e2; exact nI_m1 (by omega) e2
        · have := (hinj q hq e2).mp e; omega
      rw [if_neg hself, if_pos]
      · omega
      · refine ⟨Nat.le_refl _, ?_⟩
        rcases hT n (by omega) with e2 | ⟨q, hq, e2⟩
        · exact Or.inl e2
        · exact Or.inr ⟨q, hq, e2⟩
    · rw [if_pos (show k < n by omega)] at ih
      rw [if_pos (show k < n + 1 by omega)]
      rcases hT n (by omega) with e2 | ⟨q, hq, e2⟩
      · rw [if_pos (show k ≤ n ∧ _ from ⟨by omega, Or.inl e2⟩), if_pos (show k + 1 ≤ n ∧ _ from ⟨by omega, Or.inl e2⟩), if_neg (fun e => by rw [e] at e2; exact nI_m1 (by omega) e2)]
        omega
      · have hin : ∀ j, j ≤ n → ((∃ q', q' < j ∧ pl n = nI q') ↔ q < j) := fun j hj => by
          constructor
          · rintro ⟨q', h1, h2⟩
            rw [e2] at h2
            have := (nI_eq (by omega) (by omega)).mp h2
            omega
          · intro h1; exact ⟨q, h1, e2⟩
        have hm1 : ¬ pl n = -1 := fun e => by rw [e2] at e; exact nI_m1 (by omega) e
        rcases Nat.lt_trichotomy q k with g | g | g
        · rw [if_pos (show k ≤ n ∧ _ from ⟨by omega, Or.inr ((hin k (by omega)).mpr g)⟩), if_pos (show k + 1 ≤ n ∧ _ from ⟨by omega, Or.inr ((hin (k + 1) (by omega)).mpr (by omega))⟩), if_neg (fun e => by have := (hinj q hq e2).mp e; omega)]
          omega
        · rw [if_neg (show ¬ (k ≤ n ∧ _) from fun z => z.2.elim hm1 (fun z2 => by have := (hin k (by omega)).mp z2; omega)), if_pos (show k + 1 ≤ n ∧ _ from ⟨by omega, Or.inr ((hin (k + 1) (by omega)).mpr (by omega))⟩), if_pos ((hinj q hq e2).mpr g)]
          omega
        · rw [if_neg (show ¬ (k ≤ n ∧ _) from fun z => z.2.elim hm1 (fun z2 => by have := (hin k (by omega)).mp z2; omega)), if_neg (show ¬ (k + 1 ≤ n ∧ _) from fun z => z.2.elim hm1 (fun z2 => by have := (hin (k + 1) (by omega)).mp z2; omega)), if_neg (fun e => by have := (hinj q hq e2).mp e; omega)]
          omega
theorem zpop_le (n : Nat) : zpop n ≤ 4 := by unfold zpop; omega
theorem zA_15 : zA cn pl c h x hm ≤ 4 + zHU pl c h x 15 cn := by
  have h1 : zA cn pl c h x hm ≤ zpop (zrem hm 15) + zHU pl c h x 15 cn := zMin_le _ 16 15 (by omega)
  have := zpop_le (zrem hm 15)
  omega
theorem z_15 : ∀ s, s < 4 → ∀ k, (15 &&& k : Nat).testBit s = k.testBit s := by
  intro s hs k
  rw [Nat.testBit_and]
  have : (15 : Nat).testBit s = true := by
    have : ∀ s, s < 4 → (15 : Nat).testBit s = true := by decide
    exact this s hs
  rw [this]; rfl
theorem zHU_part15 (hT : zTree cn pl) (hcn : cn ≤ 12) : ∀ k, k < cn → zF4 (c k) (h k) 15 4 ≤ zFr cn pl (fun m => zF4 (c m) (h m) 15 4) k cn := by
  intro k hk
  have : ∀ n, k < n → n ≤ cn → zF4 (c k) (h k) 15 4 ≤ zFr cn pl (fun m => zF4 (c m) (h m) 15 4) k n := by
    intro n
    induction n with
    | zero => intro h; exact absurd h (by omega)
    | succ n ih =>
      intro h1 h2
      unfold zFr
      rcases Nat.lt_or_ge k n with g | g
      · have := ih g (by omega); omega
      · have : n = k := by omega
        subst this
        rw [if_pos]
        · omega
        · refine ⟨Nat.le_refl _, ?_⟩
          rcases hT n (by omega) with e2 | ⟨q, hq, e2⟩
          · exact Or.inl e2
          · exact Or.inr ⟨q, hq, e2⟩
  exact this cn hk (Nat.le_refl _)
theorem zFr_le (hT : zTree cn pl) (hcn : cn ≤ 12) (h0 : ∀ m, m < cn → ∃ s, s < 4 ∧ (c m).testBit s = true) : ∀ d k, cn ≤ k + d → zFr cn pl (fun m => zF4 (c m) (zH cn pl c m) 15 4) k cn ≤ 4 * (cn - k)
  | 0, k, hk => by rw [zFr_none _ k cn (by omega)]; omega
  | d + 1, k, hk => by
    rcases Nat.lt_or_ge k cn with hk2 | hk2
    · have ih := zFr_le hT hcn h0 d (k + 1) (by omega)
      have e1 := zFr_step (c := c) (h := zH cn pl c) hT hcn k 15 hk2 cn (Nat.le_refl _)
      rw [if_pos hk2] at e1
      obtain ⟨s, hs, hb⟩ := h0 k hk2
      have e2 : zF4 (c k) (zH cn pl c k) 15 4 ≤ zH cn pl c k s := zF4_le 4 s hs (by rw [z_15 s hs]; exact hb)
      have e3 : zH cn pl c k s ≤ 4 + zHU pl c (zH cn pl c) (nI k) 15 cn := by rw [zH_fix hT hcn hk2]; exact zA_15
      omega
    · rw [zFr_none _ k cn (by omega)]; omega
theorem zH_bound (hT : zTree cn pl) (hcn : cn ≤ 12) (h0 : ∀ m, m < cn → ∃ s, s < 4 ∧ (c m).testBit s = true) {n : Nat} (hn : n < cn) (s : Nat) : zH cn pl c n s ≤ 48 := by
  have e1 := zFr_step (c := c) (h := zH cn pl c) hT hcn n 15 hn cn (Nat.le_refl _)
  rw [if_pos hn] at e1
  have e2 := zHU_part15 (c := c) (h := zH cn pl c) hT hcn n hn
  have e3 := zFr_le hT hcn h0 12 (n + 1) (by omega)
  have e4 : zH cn pl c n s ≤ 4 + zHU pl c (zH cn pl c) (nI n) 15 cn := by rw [zH_fix hT hcn hn]; exact zA_15
  omega
theorem zFr_top (f : Nat → Nat) : ∀ n, zFr cn pl (fun m => zF4 (c m) (h m) 15 4) 0 n = zHU pl c h (-1) 15 n
  | 0 => rfl
  | n + 1 => by
    unfold zFr zHU
    rw [zFr_top f n]
    by_cases e : pl n = -1
    · rw [if_pos ⟨by omega, Or.inl e⟩, if_pos e]
    · rw [if_neg (fun z => z.2.elim e (fun ⟨q, hq, _⟩ => by omega)), if_neg e]
theorem zTot_bound (hT : zTree cn pl) (hcn : cn ≤ 12) (h0 : ∀ m, m < cn → ∃ s, s < 4 ∧ (c m).testBit s = true) : zTot cn pl c ≤ 52 := by
  have e1 : zTot cn pl c ≤ 4 + zHU pl c (zH cn pl c) (-1) 15 cn := zA_15
  have e2 := zFr_top (cn := cn) (pl := pl) (c := c) (h := zH cn pl c) (fun _ => 0) cn
  have e3 := zFr_le hT hcn h0 12 0 (by omega)
  omega
theorem zHf_mono (hc : ∀ m, m < cn → ∀ s, s < 4 → (c' m).testBit s = true → (c m).testBit s = true) : ∀ k n s, zHf cn pl c k n s ≤ zHf cn pl c' k n s
  | 0, _, _ => Nat.le_refl _
  | k + 1, n, s => zA_mono (fun m hm _ => hc m hm) (fun m _ _ t _ _ => zHf_mono hc k m t)
theorem zH_mono (hc : ∀ m, m < cn → ∀ s, s < 4 → (c' m).testBit s = true → (c m).testBit s = true) (n s : Nat) : zH cn pl c n s ≤ zH cn pl c' n s := zHf_mono hc 12 n s
/-- after n nodes: those before n are taken from the services SV, and all is as short as it was -/
def zInv (cn : Nat) (pl : Nat → Int32) (c0 : Nat → Nat) (n : Nat) (C SV : Nat → Nat) : Prop :=
  (∀ m, m < n → SV m < 4 ∧ (c0 m).testBit (SV m) = true ∧ ∀ s, s < 4 → ((C m).testBit s = true ↔ s = SV m)) ∧ (∀ m, n ≤ m → C m = c0 m) ∧ (∀ m, m < n → zH cn pl C m (SV m) = zH cn pl c0 m (SV m)) ∧ zTot cn pl C = zTot cn pl c0
def zHome (pl : Nat → Int32) (SV : Nat → Nat) (n : Nat) : Nat := if pl n = -1 then 4 else SV (pl n).toNatClampNeg
variable {c0 C SV : Nat → Nat} {n : Nat}
theorem zHome_top (e : pl n = -1) : zHome pl SV n = 4 := if_pos e
theorem zHome_at {q : Nat} (hq : q < 2 ^ 31) (e : pl n = nI q) : zHome pl SV n = SV q := by
  unfold zHome
  rw [if_neg (fun z => nI_m1 hq (e ▸ z)), e, nI_clamp hq]
theorem zInv.sub (I : zInv cn pl c0 n C SV) (m s : Nat) (hs : s < 4) (hb : (C m).testBit s = true) : (c0 m).testBit s = true := by
  rcases Nat.lt_or_ge m n with q | q
  · obtain ⟨_, h2, h3⟩ := I.1 m q
    rw [(h3 s hs).mp hb]; exact h2
  · rw [I.2.1 m q] at hb; exact hb
/-- at any place, the first table serves as the present one -/
theorem zInv.table (hT : zTree cn pl) (hcn : cn ≤ 12) (I : zInv cn pl c0 n C SV) (x : Int32) (hm : Nat) : zA cn pl C (zH cn pl c0) x hm = zA cn pl C (zH cn pl C) x hm := by
  refine zA_congr (fun _ _ _ => rfl) (fun m hmc _ s hs hb => ?_)
  rcases Nat.lt_or_ge m n with q | q
  · rw [((I.1 m q).2.2 s hs).mp hb]; exact (I.2.2.1 m q).symm
  · exact zH_later hT hcn hmc (fun m2 h1 _ => (I.2.1 m2 (by omega)).symm) s
theorem zInv.few (hT : zTree cn pl) (hcn : cn ≤ 12) (h0 : ∀ m, m < cn → ∃ s, s < 4 ∧ (c0 m).testBit s = true) (I : zInv cn pl c0 n C SV) (hn : n < cn) : zA cn pl C (zH cn pl c0) (pl n) (zHome pl SV n) < 1000 ∧ (pl n = -1 → zA cn pl C (zH cn pl c0) (pl n) (zHome pl SV n) = zTot cn pl C) ∧ ∀ q, q < n → pl n = nI q → zA cn pl C (zH cn pl c0) (pl n) (zHome pl SV n) = zH cn pl C q (SV q) := by
  have htop : pl n = -1 → zA cn pl C (zH cn pl c0) (pl n) (zHome pl SV n) = zTot cn pl C := fun e => by
    rw [I.table hT hcn, zHome_top e, e]; rfl
  have hat : ∀ q, q < n → pl n = nI q → zA cn pl C (zH cn pl c0) (pl n) (zHome pl SV n) = zH cn pl C q (SV q) := fun q hq e => by
    rw [I.table hT hcn, zHome_at (by omega) e, e, ← zH_fix hT hcn (by omega)]
  refine ⟨?_, htop, hat⟩
  rcases hT n hn with e | ⟨q, hq, e⟩
  · rw [htop e, I.2.2.2]
    have := zTot_bound hT hcn h0
    omega
  · rw [hat q hq e, I.2.2.1 q hq]
    have := zH_bound hT hcn h0 (show q < cn by omega) (SV q)
    omega
theorem z_and1 {a s : Nat} (hs : s < 4) : ∀ t, t < 4 → ((a &&& 2 ^ s).testBit t = true ↔ (t = s ∧ a.testBit s = true)) := by
  intro t ht
  rw [Nat.testBit_and, Nat.testBit_two_pow, Bool.and_eq_true, decide_eq_true_eq]
  constructor
  · rintro ⟨h1, rfl⟩; exact ⟨rfl, h1⟩
  · rintro ⟨rfl, h1⟩; exact ⟨h1, rfl⟩
theorem z_and0 {a s : Nat} (hs : s < 4) : a &&& 2 ^ s ≠ 0 ↔ a.testBit s = true := by
  constructor
  · intro h
    apply Classical.byContradiction
    intro hb
    apply h
    apply Nat.eq_of_testBit_eq
    intro i
    rw [Nat.testBit_and, Nat.testBit_two_pow, Nat.zero_testBit]
    by_cases e : s = i
    · subst e
      rw [Bool.eq_false_iff.mpr hb]; rfl
    · rw [decide_eq_false e, Bool.and_false]
  · intro hb h
    have := (z_and1 (a := a) hs s hs).mpr ⟨rfl, hb⟩
    rw [h, Nat.zero_testBit] at this
    cases this
/-- one service for the node n -/
def zTry (C : Nat → Nat) (n s : Nat) : Nat → Nat := va_up C n (C n &&& 2 ^ s)
theorem zTry_at (s : Nat) : zTry C n s n = C n &&& 2 ^ s := if_pos rfl
theorem zTry_ne {m : Nat} (h : m ≠ n) (s : Nat) : zTry C n s m = C m := if_neg h
theorem zTry_sub {s : Nat} (hs : s < 4) (m t : Nat) (ht : t < 4) (hb : (zTry C n s m).testBit t = true) : (C m).testBit t = true := by
  by_cases e : m = n
  · subst e
    rw [zTry_at] at hb
    obtain ⟨h1, h2⟩ := (z_and1 hs t ht).mp hb
    rw [h1]; exact h2
  · rw [zTry_ne e] at hb; exact hb
/-- a service that leaves the place as short as it was leaves all as short -/
theorem zInv.good (hT : zTree cn pl) (hcn : cn ≤ 12) (I : zInv cn pl c0 n C SV) (hn : n < cn) {s : Nat} (hs : s < 4) (hb : (C n).testBit s = true) (hg : zA cn pl (zTry C n s) (zH cn pl c0) (pl n) (zHome pl SV n) = zA cn pl C (zH cn pl c0) (pl n) (zHome pl SV n)) : zInv cn pl c0 (n + 1) (zTry C n s) (va_up SV n s) := by
  have hlater : ∀ m, n ≤ m → m < cn → ∀ t, zH cn pl (zTry C n s) m t = zH cn pl c0 m t := fun m h1 h2 t =>
    zH_later hT hcn h2 (fun m2 h3 _ => by rw [zTry_ne (by omega)]; exact I.2.1 m2 (by omega)) t
  -- any place whose earlier nodes are as they were
  have place : ∀ (x : Int32) (hm : Nat), (∀ m, m < n → pl m = x → zH cn pl (zTry C n s) m (SV m) = zH cn pl c0 m (SV m)) → zA cn pl (zTry C n s) (zH cn pl (zTry C n s)) x hm = zA cn pl (zTry C n s) (zH cn pl c0) x hm := fun x hm hx => by
    refine zA_congr (fun _ _ _ => rfl) (fun m hmc hp t ht hbt => ?_)
    rcases Nat.lt_or_ge m n with q | q
    · rw [zTry_ne (by omega)] at hbt
      rw [((I.1 m q).2.2 t ht).mp hbt]; exact hx m q hp
    · exact hlater m q hmc t
  have other : ∀ (x : Int32) (hm : Nat), pl n ≠ x → zA cn pl (zTry C n s) (zH cn pl c0) x hm = zA cn pl C (zH cn pl c0) x hm := fun x hm hx =>
    zA_congr (fun m _ hp => zTry_ne (show m ≠ n from fun e => hx (by rw [e] at hp; exact hp)) s) (fun _ _ _ _ _ _ => rfl)
  have down : ∀ d q, q < n → n ≤ q + d → zH cn pl (zTry C n s) q (SV q) = zH cn pl c0 q (SV q) := by
    intro d
    induction d with
    | zero => intro q h1 h2; exact absurd h1 (by omega)
    | succ d ih =>
      intro q h1 h2
      rw [zH_fix hT hcn (by omega), place (nI q) (SV q) (fun m hm hp => ih m hm (by have := hT.lt hcn (by omega) (by omega) hp; omega))]
      by_cases e : pl n = nI q
      · have e2 := hg
        rw [zHome_at (by omega) e, e] at e2
        rw [e2, I.table hT hcn, ← zH_fix hT hcn (by omega)]
        exact I.2.2.1 q h1
      · rw [other _ _ e, I.table hT hcn, ← zH_fix hT hcn (by omega)]
        exact I.2.2.1 q h1
  refine ⟨fun m hm => ?_, fun m hm => ?_, fun m hm => ?_, ?_⟩
  · by_cases e : m = n
    · subst e
      rw [show va_up SV m s m = s from if_pos rfl]
      refine ⟨hs, I.sub m s hs hb, fun t ht => ?_⟩
      rw [zTry_at, z_and1 hs t ht]
      exact ⟨fun z => z.1, fun z => ⟨z, hb⟩⟩
    · rw [show va_up SV n s m = SV m from if_neg e, zTry_ne e]
      exact I.1 m (by omega)
  · rw [zTry_ne (by omega)]; exact I.2.1 m (by omega)
  · by_cases e : m = n
    · subst e; exact hlater m (Nat.le_refl _) hn _
    · rw [show va_up SV n s m = SV m from if_neg e]
      exact down n m (by omega) (by omega)
  · show zA cn pl (zTry C n s) (zH cn pl (zTry C n s)) (-1) 4 = _
    rw [place (-1) 4 (fun m hm _ => down n m hm (by omega))]
    by_cases e : pl n = -1
    · have e2 := hg
      rw [zHome_top e, e] at e2
      rw [e2, I.table hT hcn]
      exact I.2.2.2
    · rw [other _ _ e, I.table hT hcn]
      exact I.2.2.2
/-- one that doesn't makes all longer -/
theorem zInv.bad (hT : zTree cn pl) (hcn : cn ≤ 12) (h0 : ∀ m, m < cn → ∃ s, s < 4 ∧ (c0 m).testBit s = true) (I : zInv cn pl c0 n C SV) (hn : n < cn) {s : Nat} (hs : s < 4) (hg : ¬ zA cn pl (zTry C n s) (zH cn pl c0) (pl n) (zHome pl SV n) = zA cn pl C (zH cn pl c0) (pl n) (zHome pl SV n)) : zTot cn pl C < zTot cn pl (zTry C n s) := by
  have hsub : ∀ m, m < cn → ∀ t, t < 4 → (zTry C n s m).testBit t = true → (C m).testBit t = true := fun m _ t ht hb => zTry_sub hs m t ht hb
  have hsub0 : ∀ m, m < cn → ∀ t, t < 4 → (zTry C n s m).testBit t = true → (c0 m).testBit t = true := fun m hm t ht hb => I.sub m t ht (hsub m hm t ht hb)
  have hTot : zTot cn pl C < 1000 := by rw [I.2.2.2]; have := zTot_bound hT hcn h0; omega
  have hH : ∀ q, q < n → zH cn pl C q (SV q) < 1000 := fun q hq => by rw [I.2.2.1 q hq]; have := zH_bound hT hcn h0 (show q < cn by omega) (SV q); omega
  have chain : ∀ k q, q < k → q < n → zH cn pl C q (SV q) < zH cn pl (zTry C n s) q (SV q) → zTot cn pl C < zTot cn pl (zTry C n s) := by
    intro k
    induction k with
    | zero => intro q h1; exact absurd h1 (by omega)
    | succ k ih =>
      intro q h1 h2 h3
      have one : ∀ t, t < 4 → ((zTry C n s q).testBit t = true ↔ t = SV q) := fun t ht => by rw [zTry_ne (by omega)]; exact (I.1 q h2).2.2 t ht
      have hqc : (C q).testBit (SV q) = true := ((I.1 q h2).2.2 _ (I.1 q h2).1).mpr rfl
      rcases hT q (by omega) with e | ⟨r, hr, e⟩
      · exact zA_strict (fun m hm _ => hsub m hm) (fun m _ _ t _ _ => zH_mono hsub m t) (show q < cn by omega) e (I.1 q h2).1 one hqc h3 (zH_cap hT hcn (by omega) _) hTot
      · have hr2 := hH r (by omega)
        rw [zH_fix hT hcn (by omega)] at hr2
        have := zA_strict (fun m hm _ => hsub m hm) (fun m _ _ t _ _ => zH_mono hsub m t) (show q < cn by omega) e (I.1 q h2).1 one hqc h3 (zH_cap hT hcn (by omega) _) hr2
        rw [← zH_fix hT hcn (by omega), ← zH_fix hT hcn (by omega)] at this
        exact ih r (by omega) (by omega) this
  have h1 : zA cn pl C (zH cn pl c0) (pl n) (zHome pl SV n) ≤ zA cn pl (zTry C n s) (zH cn pl c0) (pl n) (zHome pl SV n) := zA_mono (fun m hm _ => hsub m hm) (fun _ _ _ _ _ _ => Nat.le_refl _)
  have h2 : zA cn pl (zTry C n s) (zH cn pl c0) (pl n) (zHome pl SV n) ≤ zA cn pl (zTry C n s) (zH cn pl (zTry C n s)) (pl n) (zHome pl SV n) := zA_mono (fun _ _ _ _ _ h => h) (fun m _ _ t _ _ => zH_mono hsub0 m t)
  have h3 : zA cn pl C (zH cn pl c0) (pl n) (zHome pl SV n) < zA cn pl (zTry C n s) (zH cn pl (zTry C n s)) (pl n) (zHome pl SV n) := by omega
  obtain ⟨_, f2, f3⟩ := I.few hT hcn h0 hn
  rcases hT n hn with e | ⟨q, hq, e⟩
  · rw [f2 e, zHome_top e, e] at h3
    exact h3
  · rw [f3 q hq e, zHome_at (by omega) e, e, ← zH_fix hT hcn (by omega)] at h3
    exact chain (q + 1) q (by omega) hq h3
/-- no service: nothing fits -/
theorem zA_none {x : Int32} {q : Nat} (hq : q < cn) (hp : pl q = x) (h0 : ∀ s, s < 4 → ¬ (c q).testBit s = true) : 1000 ≤ zA cn pl c h x hm :=
  zMin_ge (Nat.le_refl _) 16 (fun S _ => by
    have e1 : 1000 ≤ zF4 (c q) (h q) S 4 := zF4_ge (Nat.le_refl _) 4 (fun s hs hb => by
      rw [Nat.testBit_and, Bool.and_eq_true] at hb
      exact absurd hb.2 (h0 s hs))
    have e2 := zHU_part (c := c) (h := h) (S := S) cn q hq hp
    show 1000 ≤ zpop (zrem hm S) + zHU pl c h x S cn
    omega)
/-- THE TWO TESTS ARE ONE: as short at its place, and as short in all -/
theorem zInv.test (hT : zTree cn pl) (hcn : cn ≤ 12) (h0 : ∀ m, m < cn → ∃ s, s < 4 ∧ (c0 m).testBit s = true) (I : zInv cn pl c0 n C SV) (hn : n < cn) {s : Nat} (hs : s < 4) : (zA cn pl (zTry C n s) (zH cn pl c0) (pl n) (zHome pl SV n) = zA cn pl C (zH cn pl c0) (pl n) (zHome pl SV n)) ↔ (C n &&& 2 ^ s ≠ 0 ∧ zTot cn pl (zTry C n s) = zTot cn pl c0) := by
  rw [z_and0 hs]
  constructor
  · intro hg
    have hb : (C n).testBit s = true := by
      apply Classical.byContradiction
      intro hb
      have h1 : 1000 ≤ zA cn pl (zTry C n s) (zH cn pl c0) (pl n) (zHome pl SV n) := zA_none hn rfl (fun t ht hbt => by
        rw [zTry_at] at hbt
        exact hb ((z_and1 hs t ht).mp hbt).2)
      have := (I.few hT hcn h0 hn).1
      omega
    exact ⟨hb, (I.good hT hcn hn hs hb hg).2.2.2⟩
  · rintro ⟨hb, ht⟩
    apply Classical.byContradiction
    intro hg
    have := I.bad hT hcn h0 hn hs hg
    have := I.2.2.2
    omega
theorem zInv.some (hT : zTree cn pl) (hcn : cn ≤ 12) (h0 : ∀ m, m < cn → ∃ s, s < 4 ∧ (c0 m).testBit s = true) (I : zInv cn pl c0 n C SV) (hn : n < cn) : ∃ s, s < 4 ∧ zA cn pl (zTry C n s) (zH cn pl c0) (pl n) (zHome pl SV n) = zA cn pl C (zH cn pl c0) (pl n) (zHome pl SV n) := by
  have hlt := (I.few hT hcn h0 hn).1
  obtain ⟨S, hS, e⟩ := zMin_at _ 16 hlt
  have e0 : zA cn pl C (zH cn pl c0) (pl n) (zHome pl SV n) = zpop (zrem (zHome pl SV n) S) + zHU pl C (zH cn pl c0) (pl n) S cn := e
  have hF : zF4 (C n) (zH cn pl c0 n) S 4 < 1000 := by
    have := zHU_part (pl := pl) (x := pl n) (c := C) (h := zH cn pl c0) (S := S) cn n hn rfl
    omega
  obtain ⟨s, hs, hb, hv⟩ := zF4_at 4 hF
  refine ⟨s, hs, Nat.le_antisymm ?_ (zA_mono (fun m _ _ t ht hbt => zTry_sub hs m t ht hbt) (fun _ _ _ _ _ _ => Nat.le_refl _))⟩
  rw [Nat.testBit_and, Bool.and_eq_true] at hb
  have h1 : zA cn pl (zTry C n s) (zH cn pl c0) (pl n) (zHome pl SV n) ≤ zpop (zrem (zHome pl SV n) S) + zHU pl (zTry C n s) (zH cn pl c0) (pl n) S cn := zMin_le _ 16 S hS
  have hn1 : zF4 (zTry C n s n) (zH cn pl c0 n) S 4 ≤ zF4 (C n) (zH cn pl c0 n) S 4 := by
    rw [hv]
    refine zF4_le 4 s hs ?_
    rw [Nat.testBit_and, hb.1, zTry_at, (z_and1 hs s hs).mpr ⟨rfl, hb.2⟩]; rfl
  have h2 : ∀ k, zHU pl (zTry C n s) (zH cn pl c0) (pl n) S k ≤ zHU pl C (zH cn pl c0) (pl n) S k := by
    intro k
    induction k with
    | zero => exact Nat.le_refl _
    | succ k ih =>
      unfold zHU
      by_cases e : k = n
      · subst e; split <;> omega
      · rw [zTry_ne e]; split <;> omega
  have := h2 cn
  omega
end ZM
def zPick (P : Nat → Bool) : Nat := if P 0 then 0 else if P 1 then 1 else if P 2 then 2 else 3
theorem zPick_lt (P : Nat → Bool) : zPick P < 4 := by
  unfold zPick
  split
  · omega
  · split
    · omega
    · split <;> omega
theorem zPick_good {P : Nat → Bool} (h : ∃ s, s < 4 ∧ P s = true) : P (zPick P) = true := by
  obtain ⟨s, hs, hb⟩ := h
  unfold zPick
  split
  · assumption
  · split
    · assumption
    · split
      · assumption
      · rcases (show s = 0 ∨ s = 1 ∨ s = 2 ∨ s = 3 by omega) with rfl | rfl | rfl | rfl <;> first | assumption | contradiction
theorem zPick_first {P : Nat → Bool} {s : Nat} (h : s < zPick P) : ¬ P s = true := by
  unfold zPick at h
  split at h
  · omega
  · split at h
    · have : s = 0 := by omega
      subst this; assumption
    · split at h
      · rcases (show s = 0 ∨ s = 1 by omega) with rfl | rfl <;> assumption
      · rcases (show s = 0 ∨ s = 1 ∨ s = 2 by omega) with rfl | rfl | rfl <;> assumption
theorem zPick_eq {P : Nat → Bool} {s : Nat} (hs : s < 4) (hb : P s = true) (hf : ∀ t, t < s → ¬ P t = true) : zPick P = s := by
  rcases Nat.lt_trichotomy (zPick P) s with q | q | q
  · exact absurd (zPick_good ⟨s, hs, hb⟩) (hf _ q)
  · exact q
  · exact absurd hb (zPick_first q)
/-- the plan, node by node -/
def zGood (cn : Nat) (pl : Nat → Int32) (c0 C SV : Nat → Nat) (n s : Nat) : Bool := decide (zA cn pl (zTry C n s) (zH cn pl c0) (pl n) (zHome pl SV n) = zA cn pl C (zH cn pl c0) (pl n) (zHome pl SV n))
def zSeq (cn : Nat) (pl : Nat → Int32) (c0 : Nat → Nat) : Nat → (Nat → Nat) × (Nat → Nat)
  | 0 => (c0, fun _ => 0)
  | n + 1 => (zTry (zSeq cn pl c0 n).1 n (zPick (zGood cn pl c0 (zSeq cn pl c0 n).1 (zSeq cn pl c0 n).2 n)), va_up (zSeq cn pl c0 n).2 n (zPick (zGood cn pl c0 (zSeq cn pl c0 n).1 (zSeq cn pl c0 n).2 n)))
def zSV (cn : Nat) (pl : Nat → Int32) (c0 : Nat → Nat) (n : Nat) : Nat := zPick (zGood cn pl c0 (zSeq cn pl c0 n).1 (zSeq cn pl c0 n).2 n)
theorem zSV_lt (cn : Nat) (pl : Nat → Int32) (c0 : Nat → Nat) (n : Nat) : zSV cn pl c0 n < 4 := zPick_lt _
theorem zSeq_sv (cn : Nat) (pl : Nat → Int32) (c0 : Nat → Nat) : ∀ n m, m < n → (zSeq cn pl c0 n).2 m = zSV cn pl c0 m
  | 0, m, h => absurd h (by omega)
  | n + 1, m, h => by
    show va_up (zSeq cn pl c0 n).2 n (zSV cn pl c0 n) m = _
    unfold va_up
    split
    · rename_i e; rw [e]
    · exact zSeq_sv cn pl c0 n m (by omega)
theorem zSeq_inv {cn : Nat} {pl : Nat → Int32} {c0 : Nat → Nat} (hT : zTree cn pl) (hcn : cn ≤ 12) (h0 : ∀ m, m < cn → ∃ s, s < 4 ∧ (c0 m).testBit s = true) : ∀ n, n ≤ cn → zInv cn pl c0 n (zSeq cn pl c0 n).1 (zSeq cn pl c0 n).2
  | 0, _ => ⟨fun m h => absurd h (by omega), fun _ _ => rfl, fun m h => absurd h (by omega), rfl⟩
  | n + 1, hn => by
    have I := zSeq_inv hT hcn h0 n (by omega)
    have hg : zGood cn pl c0 (zSeq cn pl c0 n).1 (zSeq cn pl c0 n).2 n (zSV cn pl c0 n) = true := zPick_good (by
      obtain ⟨s, hs, e⟩ := I.some hT hcn h0 (by omega)
      exact ⟨s, hs, decide_eq_true e⟩)
    have hg2 := of_decide_eq_true hg
    have hb := (z_and0 (zSV_lt cn pl c0 n)).mp ((I.test hT hcn h0 (by omega) (zSV_lt cn pl c0 n)).mp hg2).1
    exact I.good hT hcn (by omega) (zSV_lt cn pl c0 n) hb hg2
