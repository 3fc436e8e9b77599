/-! WHAT HOLDS BETWEEN THE CALLS -/
def zInvG (fc ow : Nat → Nat) (fl : Nat) (ld lm : Nat → Int32) (vl : Nat → Nat → Int32) : Prop :=
  (∀ t, t < 4 → fc t ≤ 8) ∧ (∀ z, z < 32 → ow z < 16) ∧ fl < 16 ∧ (∀ t f, t < 4 → f < fc t → lm (t * 8 + f) = ld (t * 8 + f) ∧ (ld (t * 8 + f) = -1 ∨ inN 4 (ld (t * 8 + f)))) ∧ zVok vl ld ∧ (∀ t f, t < 4 → fc t ≤ f → f < 8 → ∀ k, k < 20 → vl (t * 8 + f) k = -1)
def zInvQ (fc sl : Nat → Nat) (qt nn : Nat) (ld ab : Nat → Int32) : Prop :=
  nn ≤ 12 ∧ qt < 4 ∧ zQok nn ab sl ld ∧ (∀ n, n < nn → sl n % 8 < fc (sl n / 8)) ∧ (∀ n, n < nn → ab n = -1 → sl n / 8 = qt) ∧ (∀ n r, n < nn → r < nn → ab n = nI r → ld (sl r) = nI (sl n / 8)) ∧ (∀ x, zcnt (fun j => decide (ab j = x)) nn ≤ 4)
theorem zset_lt9 {b : Bool} {o v : Nat} (ho : o < 16) (hv : v < 4) : zset b o v < 16 := by
  unfold zset
  split
  · exact Nat.or_lt_two_pow (n := 4) ho (Nat.pow_lt_pow_right (by decide) hv)
  · exact Nat.lt_of_le_of_lt Nat.and_le_left ho
section INV
variable {fc ow sl : Nat → Nat} {qt nn fl : Nat} {ld ab lm : Nat → Int32} {vl : Nat → Nat → Int32}
theorem zInvG.addField (G : zInvG fc ow fl ld lm vl) {t : Nat} {lo : Int32} (ht : t < 4) (hf : fc t < 8) (hlo : lo = -1 ∨ inN 4 lo) : zInvG (va_up fc t (fc t + 1)) ow fl (upd ld (t * 8 + fc t) lo) (upd lm (t * 8 + fc t) lo) vl := by
  obtain ⟨h1, h2, h3, h4, h5, h6⟩ := G
  refine ⟨fun t2 ht2 => ?_, h2, h3, fun t2 f ht2 hf2 => ?_, fun z hz k hk => ?_, fun t2 f ht2 hf2 hf8 k hk => ?_⟩
  · unfold va_up; split
    · omega
    · exact h1 t2 ht2
  · unfold upd
    by_cases e : t2 * 8 + f = t * 8 + fc t
    · rw [if_pos e, if_pos e]; exact ⟨rfl, hlo⟩
    · rw [if_neg e, if_neg e]
      refine h4 t2 f ht2 ?_
      unfold va_up at hf2
      split at hf2
      · rename_i e2; subst e2; omega
      · exact hf2
  · unfold upd
    by_cases e : z = t * 8 + fc t
    · exact Or.inl (by rw [e]; exact h6 t (fc t) ht (Nat.le_refl _) hf k hk)
    · rw [if_neg e]; exact h5 z hz k hk
  · unfold va_up at hf2
    split at hf2
    · rename_i e2; subst e2; exact h6 t2 f ht2 (by omega) hf8 k hk
    · exact h6 t2 f ht2 hf2 hf8 k hk
theorem zInvQ.addField (Q : zInvQ fc sl qt nn ld ab) {t : Nat} {lo : Int32} (ht : t < 4) (hf : fc t < 8) : zInvQ (va_up fc t (fc t + 1)) sl qt nn (upd ld (t * 8 + fc t) lo) ab := by
  obtain ⟨h1, h2, h3, h4, h5, h6, h7⟩ := Q
  have hne : ∀ n, n < nn → upd ld (t * 8 + fc t) lo (sl n) = ld (sl n) := fun n hn => by
    unfold upd
    rw [if_neg]
    intro e
    have h8 := h4 n hn
    have h9 : sl n / 8 = t := by omega
    rw [h9] at h8
    omega
  refine ⟨h1, h2, fun n hn => ⟨(h3 n hn).1, (h3 n hn).2.imp id fun ⟨r, g1, g2, g3⟩ => ⟨r, g1, g2, by rw [hne r (by omega)]; exact g3⟩⟩, fun n hn => ?_, h5, fun n r hn hr e => by rw [hne r hr]; exact h6 n r hn hr e, h7⟩
  have := h4 n hn
  unfold va_up
  split
  · rename_i e; rw [e] at this; omega
  · exact this
theorem zInvG.own (G : zInvG fc ow fl ld lm vl) {s v : Nat} {b : Bool} (hs : s < 32) (hv : v < 4) : zInvG fc (va_up ow s (zset b (ow s) v)) fl ld lm vl := by
  obtain ⟨h1, h2, h3, h4, h5, h6⟩ := G
  refine ⟨h1, fun z hz => ?_, h3, h4, h5, h6⟩
  unfold va_up
  split
  · exact zset_lt9 (h2 s hs) hv
  · exact h2 z hz
theorem zInvG.set (G : zInvG fc ow fl ld lm vl) {t f k : Nat} {x : Int32} (ht : t < 4) (hf : f < fc t) (hk : k < 20) (hx : x = -1 ∨ inN (if ld (t * 8 + f) = -1 then 100 else 20) x) : zInvG fc ow fl ld lm (zup2 vl (t * 8 + f) k x) := by
  obtain ⟨h1, h2, h3, h4, h5, h6⟩ := G
  refine ⟨h1, h2, h3, h4, fun z hz j hj => ?_, fun t2 f2 ht2 hf2 hf8 j hj => ?_⟩
  · unfold zup2
    split
    · rename_i e
      rw [e.1]
      rcases hx with e2 | e2
      · exact Or.inl e2
      · obtain ⟨v, hv, e3⟩ := inN_ex e2
        exact Or.inr ⟨v, hv, e3⟩
    · exact h5 z hz j hj
  · unfold zup2
    rw [if_neg (fun e => by have e1 := h1 t ht; have e2 : t2 = t := (by omega); subst e2; omega)]
    exact h6 t2 f2 ht2 hf2 hf8 j hj
theorem zInvG.fail (G : zInvG fc ow fl ld lm vl) {v : Nat} {b : Bool} (hv : v < 4) : zInvG fc ow (zset b fl v) ld lm vl := ⟨G.1, G.2.1, zset_lt9 G.2.2.1 hv, G.2.2.2⟩
theorem zInvQ.begin {t : Nat} (ht : t < 4) : zInvQ fc sl t 0 ld ab := ⟨by omega, ht, fun n hn => absurd hn (by omega), fun n hn => absurd hn (by omega), fun n hn => absurd hn (by omega), fun n r hn => absurd hn (by omega), fun x => Nat.zero_le _⟩
theorem zInvQ.node (G : zInvG fc ow fl ld lm vl) (Q : zInvQ fc sl qt nn ld ab) {t f : Nat} {x : Int32} (ht : t < 4) (hf : f < fc t) (h12 : nn < 12) (hc : zcnt (fun j => decide (ab j = x)) nn < 4) (hp : (x = -1 ∧ t = qt) ∨ ∃ r, r < nn ∧ x = nI r ∧ ld (sl r) = nI t) : zInvQ fc (va_up sl nn (t * 8 + f)) qt (nn + 1) ld (upd ab nn x) := by
  obtain ⟨h1, h2, h3, h4, h5, h6, h7⟩ := Q
  have hf8 := G.1 t ht
  have sN : va_up sl nn (t * 8 + f) nn = t * 8 + f := if_pos rfl
  have sO : ∀ n, n < nn → va_up sl nn (t * 8 + f) n = sl n := fun n hn => if_neg (by omega)
  have aN : upd ab nn x nn = x := if_pos rfl
  have aO : ∀ n, n < nn → upd ab nn x n = ab n := fun n hn => if_neg (by omega)
  have hz : ∀ y, ∀ k, k ≤ nn → zcnt (fun j => decide (upd ab nn x j = y)) k = zcnt (fun j => decide (ab j = y)) k := fun y k hk => zcnt_congr k fun j hj => by rw [aO j (by omega)]
  refine ⟨by omega, h2, fun n hn => ?_, fun n hn => ?_, fun n hn e => ?_, fun n r hn hr e => ?_, fun y => ?_⟩
  · by_cases e : n = nn
    · subst e
      rw [sN, aN]
      refine ⟨by omega, hp.imp (fun z => z.1) (fun ⟨r, g1, g2, g3⟩ => ⟨r, g1, g2, by rw [sO r g1, g3]; exact nI_m1 (by omega)⟩)⟩
    · rw [sO n (by omega), aO n (by omega)]
      exact ⟨(h3 n (by omega)).1, (h3 n (by omega)).2.imp id fun ⟨r, g1, g2, g3⟩ => ⟨r, g1, g2, by rw [sO r (by omega)]; exact g3⟩⟩
  · by_cases e : n = nn
    · subst e; rw [sN, show (t * 8 + f) / 8 = t by omega]; omega
    · rw [sO n (by omega)]; exact h4 n (by omega)
  · by_cases e2 : n = nn
    · subst e2
      rw [aN] at e
      rw [sN]
      rcases hp with ⟨_, g⟩ | ⟨r, g1, g2, _⟩
      · omega
      · exact absurd (g2.symm.trans e) (nI_m1 (by omega))
    · rw [aO n (by omega)] at e; rw [sO n (by omega)]; exact h5 n (by omega) e
  · have hr2 : r < nn := by
      by_cases e2 : n = nn
      · subst e2
        rw [aN] at e
        rcases hp with ⟨g, _⟩ | ⟨r2, g1, g2, _⟩
        · exact absurd (e.symm.trans g) (nI_m1 (by omega))
        · have := (nI_eq (show r < 2 ^ 31 by omega) (show r2 < 2 ^ 31 by omega)).mp (e.symm.trans g2); omega
      · rw [aO n (by omega)] at e
        rcases (h3 n (by omega)).2 with g | ⟨r2, g1, g2, _⟩
        · exact absurd (e.symm.trans g) (nI_m1 (by omega))
        · have := (nI_eq (show r < 2 ^ 31 by omega) (show r2 < 2 ^ 31 by omega)).mp (e.symm.trans g2); omega
    rw [sO r hr2]
    by_cases e2 : n = nn
    · subst e2
      rw [aN] at e
      rw [sN, show (t * 8 + f) / 8 = t by omega]
      rcases hp with ⟨g, _⟩ | ⟨r2, g1, g2, g3⟩
      · exact absurd (e.symm.trans g) (nI_m1 (by omega))
      · have : r = r2 := (nI_eq (show r < 2 ^ 31 by omega) (show r2 < 2 ^ 31 by omega)).mp (e.symm.trans g2)
        rw [this]; exact g3
    · rw [aO n (by omega)] at e; rw [sO n (by omega)]; exact h6 n r (by omega) hr2 e
  · unfold zcnt
    rw [hz y nn (Nat.le_refl _)]
    have := h7 y
    by_cases e : x = y
    · rw [if_pos (decide_eq_true (aN.trans e)), ← e]; omega
    · rw [if_neg (fun z => e (aN.symm.trans (of_decide_eq_true z)))]; exact this
end INV
