/-! SETS OF SERVICES AND OF KEYS, WHAT IS HARMED, THE LEAST -/
theorem nI_or (a b : Nat) : nI a ||| nI b = nI (a ||| b) := by
  apply Int32.toBitVec_inj.1
  show BitVec.ofNat 32 a ||| BitVec.ofNat 32 b = BitVec.ofNat 32 (a ||| b)
  apply BitVec.eq_of_getLsbD_eq
  intro i hi
  simp [hi]
theorem nI_and (a b : Nat) : nI a &&& nI b = nI (a &&& b) := by
  apply Int32.toBitVec_inj.1
  show BitVec.ofNat 32 a &&& BitVec.ofNat 32 b = BitVec.ofNat 32 (a &&& b)
  apply BitVec.eq_of_getLsbD_eq
  intro i hi
  simp [hi]
def zOr (sv : Nat → Nat) : Nat → Nat
  | 0 => 0
  | n + 1 => zOr sv n ||| 2 ^ sv n
theorem zOr_lt {sv : Nat → Nat} : ∀ n, (∀ m, m < n → sv m < 4) → zOr sv n < 16
  | 0, _ => show 0 < 16 by decide
  | n + 1, h => Nat.or_lt_two_pow (n := 4) (zOr_lt n fun m hm => h m (by omega)) (Nat.pow_lt_pow_right (by decide) (h n (by omega)))
theorem zOr_congr {sv sv' : Nat → Nat} : ∀ n, (∀ m, m < n → sv m = sv' m) → zOr sv n = zOr sv' n
  | 0, _ => rfl
  | n + 1, h => by unfold zOr; rw [zOr_congr n fun m hm => h m (by omega), h n (by omega)]
theorem zcnt_congr {f g : Nat → Bool} : ∀ n, (∀ m, m < n → f m = g m) → zcnt f n = zcnt g n
  | 0, _ => rfl
  | n + 1, h => by unfold zcnt; rw [zcnt_congr n fun m hm => h m (by omega), h n (by omega)]
/-- the set of the keys told at a node, from the key first up to the key before k -/
def zKs (t : Nat → Int32) (first : Nat) : Nat → Nat
  | 0 => 0
  | k + 1 => if first ≤ k then zKs t first k ||| (if t k = -1 then 0 else 2 ^ (t k).toNatClampNeg) else 0
theorem zKs_lt {t : Nat → Int32} {first : Nat} (h : ∀ k, k < 20 → t k = -1 ∨ ∃ v, v < 20 ∧ t k = nI v) : ∀ k, k ≤ 20 → zKs t first k < 1048576
  | 0, _ => show 0 < 1048576 by decide
  | k + 1, hk => by
    unfold zKs
    split
    · refine Nat.or_lt_two_pow (n := 20) (zKs_lt h k (by omega)) ?_
      rcases h k (by omega) with e | ⟨v, hv, e⟩
      · rw [if_pos e]; decide
      · rw [if_neg (e ▸ nI_m1 (by omega)), e, nI_clamp (by omega)]; exact Nat.pow_lt_pow_right (by decide) hv
    · decide
theorem zKs_none (t : Nat → Int32) (first : Nat) : ∀ k, k ≤ first → zKs t first k = 0
  | 0, _ => rfl
  | k + 1, hk => if_neg (by omega)
def zbits (K : Nat) : Nat → Nat
  | 0 => 0
  | n + 1 => zbits K n + K / 2 ^ n % 2
/-- the lowest told value and its key -/
def zLs (t : Nat → Int32) (d : Int32) : Nat → Int32 × Int32
  | 0 => (-1, d)
  | k + 1 => if ¬ t k = -1 ∧ ((zLs t d k).1 = -1 ∨ (t k).toInt < (zLs t d k).2.toInt) then (nI k, t k) else zLs t d k
theorem zLs_eq (t : Nat → Int32) (d d' : Int32) : ∀ k, k ≤ 20 → (zLs t d k).1 = (zLs t d' k).1 ∧ (¬ (zLs t d k).1 = -1 → (zLs t d k).2 = (zLs t d' k).2)
  | 0, _ => ⟨rfl, fun h => absurd rfl h⟩
  | k + 1, hk => by
    have ih := zLs_eq t d d' k (by omega)
    unfold zLs
    by_cases h : (zLs t d k).1 = -1
    · have h' : (zLs t d' k).1 = -1 := ih.1.symm.trans h
      by_cases ht : t k = -1
      · rw [if_neg (fun z => z.1 ht), if_neg (fun z => z.1 ht)]; exact ih
      · rw [if_pos ⟨ht, Or.inl h⟩, if_pos ⟨ht, Or.inl h'⟩]; exact ⟨rfl, fun _ => rfl⟩
    · rw [← ih.1, ← ih.2 h]
      split
      · exact ⟨rfl, fun _ => rfl⟩
      · exact ih
def zDif (nn : Nat) (A A2 : Bool) (t t2 : Nat → Int32) : Bool := decide (A ≠ A2 ∨ ∃ k, k < nn ∧ t k ≠ t2 k)
theorem zDif_eq {nn : Nat} {A A2 A' A2' : Bool} {t t2 u u2 : Nat → Int32} (h1 : A = A') (h2 : A2 = A2') (ht : ∀ k, k < nn → t k = u k) (ht2 : ∀ k, k < nn → t2 k = u2 k) : decide (A ≠ A2 ∨ ∃ k, k < nn ∧ t k ≠ t2 k) = zDif nn A' A2' u u2 := by
  subst h1; subst h2
  exact decide_eq_decide.mpr ⟨fun h => h.imp id fun ⟨k, h3, h4⟩ => ⟨k, h3, by rw [← ht k h3, ← ht2 k h3]; exact h4⟩, fun h => h.imp id fun ⟨k, h3, h4⟩ => ⟨k, h3, by rw [ht k h3, ht2 k h3]; exact h4⟩⟩
/-- a set of keys counted by the machine's own way -/
theorem z_ld (x m : Nat) {s t : Nat} (hs : s < 16) (ht : t < 16) : (16 * x + s) &&& (16 * m + t) = 16 * (x &&& m) + (s &&& t) := by
  have h1 : ((16 * x + s) &&& (16 * m + t)) / 2 ^ 4 = x &&& m := by rw [Nat.and_div_two_pow]; congr 1 <;> omega
  have h2 : ((16 * x + s) &&& (16 * m + t)) % 2 ^ 4 = s &&& t := by rw [Nat.and_mod_two_pow]; congr 1 <;> omega
  omega
theorem z_ush {k j : Nat} (hk : k < 2 ^ 31) (hj : j < 32) : ((nI k).toUInt32 >>> ((nI j).toUInt32 &&& Int32.toUInt32 31)).toInt32 = nI (k / 2 ^ j) := by
  have hc : ∀ j : Fin 32, ((UInt32.ofNat j.val &&& Int32.toUInt32 31).toBitVec % 32).toNat = j.val := by decide +kernel
  have hc' := hc ⟨j, hj⟩
  apply Int32.toBitVec_inj.1
  show (BitVec.ofNat 32 k) >>> ((UInt32.ofNat j &&& Int32.toUInt32 31).toBitVec % 32).toNat = BitVec.ofNat 32 (k / 2 ^ j)
  rw [show ((UInt32.ofNat j &&& Int32.toUInt32 31).toBitVec % 32).toNat = j from hc']
  apply BitVec.eq_of_toNat_eq
  have : k / 2 ^ j ≤ k := Nat.div_le_self _ _
  rw [BitVec.toNat_ushiftRight, BitVec.toNat_ofNat, BitVec.toNat_ofNat, Nat.shiftRight_eq_div_pow, Nat.mod_eq_of_lt (by omega), Nat.mod_eq_of_lt (by omega)]
def zS1 (m k : Nat) : Nat := k - (k / 2 &&& m)
def zS2 (M a : Nat) : Nat := (a &&& M) + (a / 4 &&& M)
theorem z_n1 : ∀ n, n < 16 → ∀ b, b < 2 → (n / 2 + 8 * b) &&& 5 = (n / 2) &&& 5 := by decide
theorem z_n2 : ∀ n, n < 16 → ∀ b, b < 4 → ((n - ((n / 2) &&& 5)) / 4 + 4 * b) &&& 3 = (n - ((n / 2) &&& 5)) / 4 := by decide
theorem z_n3 : ∀ n, n < 16 → ((n - ((n / 2) &&& 5)) &&& 3) + (n - ((n / 2) &&& 5)) / 4 = zpop n := by decide
theorem z_n4 : ∀ n, n < 16 → (n / 2) &&& 5 ≤ n := by decide
theorem zS1_step {x n m : Nat} (hn : n < 16) : zS1 (16 * m + 5) (16 * x + n) = 16 * zS1 m x + (n - (n / 2 &&& 5)) := by
  unfold zS1
  rw [show (16 * x + n) / 2 = 16 * (x / 2) + (n / 2 + 8 * (x % 2)) by omega, z_ld _ _ (by omega) (by decide), z_n1 n hn _ (by omega)]
  have h1 : x / 2 &&& m ≤ x / 2 := Nat.and_le_left
  have h2 := z_n4 n hn
  omega
theorem zS2_step {x n M : Nat} (hn : n < 16) : zS2 (16 * M + 3) (16 * x + (n - (n / 2 &&& 5))) = 16 * zS2 M x + zpop n := by
  unfold zS2
  rw [show (16 * x + (n - (n / 2 &&& 5))) / 4 = 16 * (x / 4) + ((n - (n / 2 &&& 5)) / 4 + 4 * (x % 4)) by omega, z_ld _ _ (by omega) (by decide), z_ld _ _ (by omega) (by decide), z_n2 n hn _ (by omega)]
  have h2 := z_n3 n hn
  omega
theorem zS_step {x n m M : Nat} (hn : n < 16) : zS2 (16 * M + 3) (zS1 (16 * m + 5) (16 * x + n)) = 16 * zS2 M (zS1 m x) + zpop n := by rw [zS1_step hn, zS2_step hn]
theorem zbits_step {x n : Nat} (hn : n < 16) : ∀ j, zbits (16 * x + n) (4 + j) = zpop n + zbits x j
  | 0 => by simp only [zbits, zpop]; omega
  | j + 1 => by
    show zbits (16 * x + n) (4 + j) + (16 * x + n) / 2 ^ (4 + j) % 2 = zpop n + (zbits x j + x / 2 ^ j % 2)
    rw [zbits_step hn j, Nat.pow_add, ← Nat.div_div_eq_div_mul, show (16 * x + n) / 2 ^ 4 = x by omega]
    omega
theorem z_five (k : Nat) (hk : k < 1048576) : ∃ n0 n1 n2 n3 n4, n0 < 16 ∧ n1 < 16 ∧ n2 < 16 ∧ n3 < 16 ∧ n4 < 16 ∧ k = 16 * (16 * (16 * (16 * (16 * 0 + n4) + n3) + n2) + n1) + n0 :=
  ⟨k % 16, k / 16 % 16, k / 256 % 16, k / 4096 % 16, k / 65536, by omega, by omega, by omega, by omega, by omega, by omega⟩
theorem z_sw3 {w0 w1 w2 w3 w4 : Nat} (l0 : w0 ≤ 4) (l1 : w1 ≤ 4) (l2 : w2 ≤ 4) (l3 : w3 ≤ 4) (l4 : w4 ≤ 4) : (16 * (16 * (16 * (16 * (16 * 0 + w4) + (w3 + w4)) + (w2 + w3)) + (w1 + w2)) + (w0 + w1)) &&& 252645135 = 65536 * w4 + 256 * (w2 + w3) + (w0 + w1) := by
  have m15 : ∀ x, x < 16 → x &&& 15 = x := by decide
  have m0 : ∀ x, x < 16 → x &&& 0 = 0 := by decide
  rw [show (252645135 : Nat) = 16 * (16 * (16 * (16 * (16 * 240 + 15) + 0) + 15) + 0) + 15 by decide, z_ld _ _ (by omega) (by decide), z_ld _ _ (by omega) (by decide), z_ld _ _ (by omega) (by decide), z_ld _ _ (by omega) (by decide), z_ld _ _ (by omega) (by decide), Nat.zero_and, m15 _ (by omega), m15 _ (by omega), m15 _ (by omega), m0 _ (by omega), m0 _ (by omega)]
  omega
def zS3 (b : Nat) : Nat := (b + b / 16) &&& 252645135
def zS4 (c : Nat) : Nat := (c + c / 256) + (c + c / 256) / 65536 &&& 63
theorem z_sw {k : Nat} (hk : k < 1048576) : zS2 858993459 (zS1 1431655765 k) < 2 ^ 20 ∧ zS3 (zS2 858993459 (zS1 1431655765 k)) < 2 ^ 20 ∧ zS4 (zS3 (zS2 858993459 (zS1 1431655765 k))) = zbits k 20 := by
  obtain ⟨n0, n1, n2, n3, n4, h0, h1, h2, h3, h4, rfl⟩ := z_five k hk
  have e1 : zS2 858993459 (zS1 1431655765 (16 * (16 * (16 * (16 * (16 * 0 + n4) + n3) + n2) + n1) + n0)) = 16 * (16 * (16 * (16 * (16 * 0 + zpop n4) + zpop n3) + zpop n2) + zpop n1) + zpop n0 := by
    rw [show (858993459 : Nat) = 16 * (16 * (16 * (16 * (16 * 819 + 3) + 3) + 3) + 3) + 3 by decide, show (1431655765 : Nat) = 16 * (16 * (16 * (16 * (16 * 1365 + 5) + 5) + 5) + 5) + 5 by decide, zS_step h0, zS_step h1, zS_step h2, zS_step h3, zS_step h4]
    rfl
  have e2 : zbits (16 * (16 * (16 * (16 * (16 * 0 + n4) + n3) + n2) + n1) + n0) (4 + (4 + (4 + (4 + (4 + 0))))) = zpop n0 + (zpop n1 + (zpop n2 + (zpop n3 + (zpop n4 + 0)))) := by
    rw [zbits_step h0, zbits_step h1, zbits_step h2, zbits_step h3, zbits_step h4]; rfl
  have l0 := zpop_le n0; have l1 := zpop_le n1; have l2 := zpop_le n2; have l3 := zpop_le n3; have l4 := zpop_le n4
  rw [e1, show (20 : Nat) = 4 + (4 + (4 + (4 + (4 + 0)))) from rfl, e2]
  clear e1 e2 hk
  generalize zpop n0 = w0 at *
  generalize zpop n1 = w1 at *
  generalize zpop n2 = w2 at *
  generalize zpop n3 = w3 at *
  generalize zpop n4 = w4 at *
  have e7 : zS3 (16 * (16 * (16 * (16 * (16 * 0 + w4) + w3) + w2) + w1) + w0) = 65536 * w4 + 256 * (w2 + w3) + (w0 + w1) := by
    unfold zS3
    rw [← z_sw3 l0 l1 l2 l3 l4]
    congr 1
    omega
  rw [e7]
  refine ⟨by omega, by omega, ?_⟩
  unfold zS4
  rw [show ∀ x : Nat, x &&& 63 = x % 64 from fun x => Nat.and_two_pow_sub_one_eq_mod x 6, show (65536 * w4 + 256 * (w2 + w3) + (w0 + w1)) / 256 = 256 * w4 + (w2 + w3) by omega, show (65536 * w4 + 256 * (w2 + w3) + (w0 + w1) + (256 * w4 + (w2 + w3))) / 65536 = w4 by omega]
  omega
