/-! THE ANSWERS, as mathematics -/
def zVl (vl : Nat → Nat → Int32) (t : Nat) (x : Int32) : Int32 := if x = -1 then -1 else vl t x.toNatClampNeg
def aTab (ab : Nat → Int32) (sl sv : Nat → Nat) (vl : Nat → Nat → Int32) (fl key : Nat) : Nat → Nat → Int32
  | 0 => fun _ => -1
  | n + 1 => va_up (aTab ab sl sv vl fl key n) n (if fl.testBit (sv n) then -1 else zVl vl (sl n) (if ab n = -1 then nI key else aTab ab sl sv vl fl key n (ab n).toNatClampNeg))
/-- a node's value, and the key of the entity in which it stands -/
def aRV (ab : Nat → Int32) (sl sv : Nat → Nat) (vl : Nat → Nat → Int32) (fl key n : Nat) : Int32 := aTab ab sl sv vl fl key (n + 1) n
def aEN (ab : Nat → Int32) (sl sv : Nat → Nat) (vl : Nat → Nat → Int32) (fl key n : Nat) : Int32 := if ab n = -1 then nI key else aRV ab sl sv vl fl key (ab n).toNatClampNeg
/-- who is missing for what is right below: the last node first -/
def aCl (nn : Nat) (ab : Nat → Int32) (sl : Nat → Nat) (rq : Nat → Bool) (m0 : Nat → Bool) : Nat → (Nat → Bool) × Bool
  | 0 => (m0, false)
  | d + 1 => if (aCl nn ab sl rq m0 d).1 (nn - 1 - d) && rq (sl (nn - 1 - d)) then (if ab (nn - 1 - d) = -1 then ((aCl nn ab sl rq m0 d).1, true) else (va_up (aCl nn ab sl rq m0 d).1 (ab (nn - 1 - d)).toNatClampNeg true, (aCl nn ab sl rq m0 d).2)) else aCl nn ab sl rq m0 d
/-- all below one that is missing -/
def aFl (ab : Nat → Int32) (al : Bool) (m1 : Nat → Bool) : Nat → Nat → Bool
  | 0 => m1
  | n + 1 => va_up (aFl ab al m1 n) n (aFl ab al m1 n n || al || (!decide (ab n = -1) && aFl ab al m1 n (ab n).toNatClampNeg))
def aM0 (ab : Nat → Int32) (sl sv : Nat → Nat) (vl : Nat → Nat → Int32) (fl key n : Nat) : Bool := decide (aRV ab sl sv vl fl key n = -1)
def aALL (nn : Nat) (ab : Nat → Int32) (sl : Nat → Nat) (rq : Nat → Bool) (sv : Nat → Nat) (vl : Nat → Nat → Int32) (fl key : Nat) : Bool := (aCl nn ab sl rq (aM0 ab sl sv vl fl key) nn).2
def aMIS (nn : Nat) (ab : Nat → Int32) (sl : Nat → Nat) (rq : Nat → Bool) (sv : Nat → Nat) (vl : Nat → Nat → Int32) (fl key n : Nat) : Bool := aFl ab (aALL nn ab sl rq sv vl fl key) (aCl nn ab sl rq (aM0 ab sl sv vl fl key) nn).1 nn n
def aTOLD (nn : Nat) (ab : Nat → Int32) (sl : Nat → Nat) (rq : Nat → Bool) (sv : Nat → Nat) (vl : Nat → Nat → Int32) (fl key n : Nat) : Int32 := if aMIS nn ab sl rq sv vl fl key n then -1 else aRV ab sl sv vl fl key n
/-- the query's nodes stand at the top or below an earlier one that leads to a type; the values keep their ranges -/
def zQok (nn : Nat) (ab : Nat → Int32) (sl : Nat → Nat) (ld : Nat → Int32) : Prop := ∀ n, n < nn → sl n < 32 ∧ (ab n = -1 ∨ ∃ r, r < n ∧ ab n = nI r ∧ ¬ ld (sl r) = -1)
def zVok (vl : Nat → Nat → Int32) (ld : Nat → Int32) : Prop := ∀ t, t < 32 → ∀ k, k < 20 → vl t k = -1 ∨ ∃ v, v < (if ld t = -1 then 100 else 20) ∧ vl t k = nI v
section AN
variable {nn : Nat} {ab : Nat → Int32} {sl sv : Nat → Nat} {vl : Nat → Nat → Int32} {ld : Nat → Int32} {rq : Nat → Bool} {fl key : Nat}
theorem zQok.tree (h : zQok nn ab sl ld) : zTree nn ab := fun n hn => (h n hn).2.elim Or.inl (fun ⟨r, h1, h2, _⟩ => Or.inr ⟨r, h1, h2⟩)
theorem aTab_lt : ∀ k m, m < k → aTab ab sl sv vl fl key k m = aRV ab sl sv vl fl key m
  | 0, m, h => absurd h (by omega)
  | k + 1, m, h => by
    by_cases e : m = k
    · subst e; rfl
    · show va_up _ k _ m = _
      unfold va_up
      rw [if_neg e]
      exact aTab_lt k m (by omega)
theorem aRV_step {n : Nat} (hn : n < 2 ^ 31) (h : ab n = -1 ∨ ∃ r, r < n ∧ ab n = nI r) : aRV ab sl sv vl fl key n = if fl.testBit (sv n) then -1 else zVl vl (sl n) (aEN ab sl sv vl fl key n) := by
  show va_up _ n _ n = _
  unfold va_up aEN
  rw [if_pos rfl]
  rcases h with e | ⟨r, hr, e⟩
  · rw [if_pos e, if_pos e]
  · rw [if_neg (fun z => nI_m1 (show r < 2 ^ 31 by omega) (e ▸ z)), if_neg (fun z => nI_m1 (show r < 2 ^ 31 by omega) (e ▸ z)), e, nI_clamp (by omega), aTab_lt n r hr]
theorem aEN_top {n : Nat} (e : ab n = -1) : aEN ab sl sv vl fl key n = nI key := if_pos e
theorem aEN_at {n r : Nat} (hr : r < 2 ^ 31) (e : ab n = nI r) : aEN ab sl sv vl fl key n = aRV ab sl sv vl fl key r := by
  unfold aEN
  rw [if_neg (fun z => nI_m1 hr (e ▸ z)), e, nI_clamp hr]
theorem aRng (hQ : zQok nn ab sl ld) (hV : zVok vl ld) (hnn : nn ≤ 12) (hkey : key < 20) : ∀ k n, n < k → n < nn → (aEN ab sl sv vl fl key n = -1 ∨ ∃ v, v < 20 ∧ aEN ab sl sv vl fl key n = nI v) ∧ (aRV ab sl sv vl fl key n = -1 ∨ ∃ v, v < (if ld (sl n) = -1 then 100 else 20) ∧ aRV ab sl sv vl fl key n = nI v)
  | 0, n, h, _ => absurd h (by omega)
  | k + 1, n, h, hn => by
    obtain ⟨h1, h2⟩ := hQ n hn
    have he : aEN ab sl sv vl fl key n = -1 ∨ ∃ v, v < 20 ∧ aEN ab sl sv vl fl key n = nI v := by
      rcases h2 with e | ⟨r, hr, e, hl⟩
      · exact Or.inr ⟨key, hkey, aEN_top e⟩
      · rw [aEN_at (by omega) e]
        have := (aRng hQ hV hnn hkey k r (by omega) (by omega)).2
        rw [if_neg hl] at this
        exact this
    refine ⟨he, ?_⟩
    rw [aRV_step (by omega) (h2.elim Or.inl (fun ⟨r, a, b, _⟩ => Or.inr ⟨r, a, b⟩))]
    by_cases hb : fl.testBit (sv n) = true
    · rw [if_pos hb]; exact Or.inl rfl
    · rw [if_neg hb]
      rcases he with e | ⟨v, hv, e⟩
      · rw [e]; exact Or.inl rfl
      · rw [e]
        unfold zVl
        rw [if_neg (nI_m1 (by omega)), nI_clamp (by omega)]
        exact hV (sl n) h1 v hv
end AN
theorem c_X1_valueOf_o {l : Launch} {D : va_G} {cy : zCy} {w : va_W} {i g a1 a2 a3 a4 a5 : Nat} {fa : Int32} (h : w[i]? = some (g, .inr (1, [.ref a1, .ref a2, .ref a3, .ref a4, .ref a5, .int fa]))) {j : Nat} {vl : Nat → Nat → Int32} (ha : w[j]? = some (a5, .inl (cy.1, 640, .inl (fun z => vl (z / 20) (z % 20))))) {t : Nat} {x : Int32} (ht : t < 32) (hx : x = -1 ∨ ∃ v, v < 20 ∧ x = nI v) : zR l yX1_valueOf wsX1_valueOf rmX1_valueOf D cy w [.ref g, .int (nI t), .int x] (zVl vl t x) := by
  rcases hx with rfl | ⟨v, hv, rfl⟩
  · exact c_X1_valueOf_m1 h ht
  · have := c_X1_valueOf (l := l) (D := D) h ha ht hv
    unfold zVl
    rw [if_neg (nI_m1 (by omega)), nI_clamp (by omega)]
    exact this
set_option maxRecDepth 20000 in
theorem lk135_wsX0_readValues : Cond.fieldLink RX0 15 "QueryGateway$Answer" "query" "LQueryGateway$Query;" ∈ wsX0_readValues := by decide +kernel
set_option maxRecDepth 20000 in
theorem in_wsX0_readValues_X0 : ∀ w ∈ wsX00, w ∈ wsX0_readValues := by decide +kernel
set_option maxRecDepth 20000 in
theorem lk137_wsX0_readValues : Cond.fieldLink RX0 19 "QueryGateway$Answer" "plan" "LQueryGateway$Plan;" ∈ wsX0_readValues := by decide +kernel
set_option maxRecDepth 20000 in
theorem lk138_wsX0_readValues : Cond.initialized RX4 ∈ wsX0_readValues := by decide +kernel
set_option maxRecDepth 20000 in
theorem lk139_wsX0_readValues : Cond.static yX4_bit ∈ wsX0_readValues := by decide +kernel
set_option maxRecDepth 20000 in
theorem lk140_wsX0_readValues : Cond.fieldLink RX0 23 "QueryGateway$Answer" "entities" "[I" ∈ wsX0_readValues := by decide +kernel
set_option maxRecDepth 20000 in
theorem lk141_wsX0_readValues : Cond.fieldLink RX0 27 "QueryGateway$Answer" "values" "[I" ∈ wsX0_readValues := by decide +kernel
set_option maxRecDepth 20000 in
theorem lk142_wsX0_readValues : Cond.fieldLink RX0 9 "QueryGateway$Answer" "graph" "LQueryGateway$Graph;" ∈ wsX0_readValues := by decide +kernel
set_option maxRecDepth 20000 in
theorem lk143_wsX0_readValues : Cond.fieldLink RX0 30 "QueryGateway$Answer" "missing" "[Z" ∈ wsX0_readValues := by decide +kernel
abbrev rmX0_readValues : Room := { frames := 2, cells := 0, slots := 0, locals := 42 }
set_option maxHeartbeats 4000000 in
set_option maxRecDepth 100000 in
theorem c_X0_readValues {l : Launch} {D : va_G} {cy : zCy} {A g q P e1 e2 e3 a b p1 p2 p3 p4 a1 a2 a3 a4 a5 nn : Nat} {am ty cnt ln kn th fa : Int32} {enA vaA miA ab svA ld : Nat → Int32} {sl sv : Nat → Nat} {vl : Nat → Nat → Int32} {fl key : Nat} (hn : nn ≤ 12) (hQ : zQok nn ab sl ld) (hV : zVok vl ld) (hsv : ∀ n, n < nn → svA n = nI (sv n) ∧ sv n < 4) (hfl : fl < 16) (hkey : key < 20) : zV ((Nat → Int32) × (Nat → Int32) × (Nat → Int32)) l yX0_readValues wsX0_readValues rmX0_readValues D cy [(A, .inr (0, [.ref g, .ref q, .ref P, .ref e1, .ref e2, .ref e3, .int am])), (e1, .inl (cy.1, 12, .inl enA)), (e2, .inl (cy.1, 12, .inl vaA)), (e3, .inl (cy.2.1, 12, .inl miA)), (q, .inr (3, [.ref a, .ref b, .int ty, .int (nI nn)])), (a, .inl (cy.1, 12, .inl ab)), (b, .inl (cy.1, 12, .inl (fun z => nI (sl z)))), (P, .inr (2, [.ref g, .ref q, .ref p1, .ref p2, .ref p3, .ref p4, .int cnt, .int ln, .int kn, .int th])), (p4, .inl (cy.1, 12, .inl svA)), (g, .inr (1, [.ref a1, .ref a2, .ref a3, .ref a4, .ref a5, .int fa])), (a5, .inl (cy.1, 640, .inl (fun z => vl (z / 20) (z % 20))))] [.ref A, .int (nI key), .int (nI fl)] (fun u => (∀ k, k < nn → u.1 k = aEN ab sl sv vl fl key k ∧ u.2.1 k = aRV ab sl sv vl fl key k ∧ u.2.2 k = bI (decide (aRV ab sl sv vl fl key k = -1)))) (fun u => [(A, .inr (0, [.ref g, .ref q, .ref P, .ref e1, .ref e2, .ref e3, .int am])), (e1, .inl (cy.1, 12, .inl u.1)), (e2, .inl (cy.1, 12, .inl u.2.1)), (e3, .inl (cy.2.1, 12, .inl u.2.2)), (q, .inr (3, [.ref a, .ref b, .int ty, .int (nI nn)])), (a, .inl (cy.1, 12, .inl ab)), (b, .inl (cy.1, 12, .inl (fun z => nI (sl z)))), (P, .inr (2, [.ref g, .ref q, .ref p1, .ref p2, .ref p3, .ref p4, .int cnt, .int ln, .int kn, .int th])), (p4, .inl (cy.1, 12, .inl svA)), (g, .inr (1, [.ref a1, .ref a2, .ref a3, .ref a4, .ref a5, .int fa])), (a5, .inl (cy.1, 640, .inl (fun z => vl (z / 20) (z % 20))))]) := by
  refine zV.of (cc := cX0_readValues) (maxL := 7) (ret := none) (by decide) rfl rfl ?_
  intro p e s m below meth c ls C hP hK hD hl
  obtain ⟨hx, hb, hr, hml, hts, hown, hlocks⟩ := C
  have hS : va_S (zIn [(A, .inr (0, [.ref g, .ref q, .ref P, .ref e1, .ref e2, .ref e3, .int am])), (e1, .inl (cy.1, 12, .inl enA)), (e2, .inl (cy.1, 12, .inl vaA)), (e3, .inl (cy.2.1, 12, .inl miA)), (q, .inr (3, [.ref a, .ref b, .int ty, .int (nI nn)])), (a, .inl (cy.1, 12, .inl ab)), (b, .inl (cy.1, 12, .inl (fun z => nI (sl z)))), (P, .inr (2, [.ref g, .ref q, .ref p1, .ref p2, .ref p3, .ref p4, .int cnt, .int ln, .int kn, .int th])), (p4, .inl (cy.1, 12, .inl svA)), (g, .inr (1, [.ref a1, .ref a2, .ref a3, .ref a4, .ref a5, .int fa])), (a5, .inl (cy.1, 640, .inl (fun z => vl (z / 20) (z % 20))))]) s.heap s.heap [] := va_S.rf
  have hl : lv_has ls 7 [(0, .ref A), (1, .int (nI key)), (2, .int (nI fl))] := hl
  refine lv_iconst (v := nI 0) hx hb dX0_readValues_0 (by decide) ?_
  refine lv_istore_n (lv' := [(3, .int (nI 0)), (0, .ref A), (1, .int (nI key)), (2, .int (nI fl))]) hx hb dX0_readValues_1 rfl hl (by decide) rfl (fun ls hl => ?_)
  have lo : ∀ (fuel : Nat) (n : Nat) (u1 u2 u3 : Nat → Int32), nn + 1 ≤ n + fuel → n ≤ nn → (∀ k, k < n → u1 k = aEN ab sl sv vl fl key k ∧ u2 k = aRV ab sl sv vl fl key k ∧ u3 k = bI (decide (aRV ab sl sv vl fl key k = -1))) → ∀ (H : Heap) (locs : List Loc) (ls : Array Slot), va_P D vwCl [(A, .inr (0, [.ref g, .ref q, .ref P, .ref e1, .ref e2, .ref e3, .int am])), (e1, .inl (cy.1, 12, .inl u1)), (e2, .inl (cy.1, 12, .inl u2)), (e3, .inl (cy.2.1, 12, .inl u3)), (q, .inr (3, [.ref a, .ref b, .int ty, .int (nI nn)])), (a, .inl (cy.1, 12, .inl ab)), (b, .inl (cy.1, 12, .inl (fun z => nI (sl z)))), (P, .inr (2, [.ref g, .ref q, .ref p1, .ref p2, .ref p3, .ref p4, .int cnt, .int ln, .int kn, .int th])), (p4, .inl (cy.1, 12, .inl svA)), (g, .inr (1, [.ref a1, .ref a2, .ref a3, .ref a4, .ref a5, .int fa])), (a5, .inl (cy.1, 640, .inl (fun z => vl (z / 20) (z % 20))))] H → va_D (zIn [(A, .inr (0, [.ref g, .ref q, .ref P, .ref e1, .ref e2, .ref e3, .int am])), (e1, .inl (cy.1, 12, .inl enA)), (e2, .inl (cy.1, 12, .inl vaA)), (e3, .inl (cy.2.1, 12, .inl miA)), (q, .inr (3, [.ref a, .ref b, .int ty, .int (nI nn)])), (a, .inl (cy.1, 12, .inl ab)), (b, .inl (cy.1, 12, .inl (fun z => nI (sl z)))), (P, .inr (2, [.ref g, .ref q, .ref p1, .ref p2, .ref p3, .ref p4, .int cnt, .int ln, .int kn, .int th])), (p4, .inl (cy.1, 12, .inl svA)), (g, .inr (1, [.ref a1, .ref a2, .ref a3, .ref a4, .ref a5, .int fa])), (a5, .inl (cy.1, 640, .inl (fun z => vl (z / 20) (z % 20))))]) [(A, .inr (0, [.ref g, .ref q, .ref P, .ref e1, .ref e2, .ref e3, .int am])), (e1, .inl (cy.1, 12, .inl u1)), (e2, .inl (cy.1, 12, .inl u2)), (e3, .inl (cy.2.1, 12, .inl u3)), (q, .inr (3, [.ref a, .ref b, .int ty, .int (nI nn)])), (a, .inl (cy.1, 12, .inl ab)), (b, .inl (cy.1, 12, .inl (fun z => nI (sl z)))), (P, .inr (2, [.ref g, .ref q, .ref p1, .ref p2, .ref p3, .ref p4, .int cnt, .int ln, .int kn, .int th])), (p4, .inl (cy.1, 12, .inl svA)), (g, .inr (1, [.ref a1, .ref a2, .ref a3, .ref a4, .ref a5, .int fa])), (a5, .inl (cy.1, 640, .inl (fun z => vl (z / 20) (z % 20))))] → va_S (zIn [(A, .inr (0, [.ref g, .ref q, .ref P, .ref e1, .ref e2, .ref e3, .int am])), (e1, .inl (cy.1, 12, .inl enA)), (e2, .inl (cy.1, 12, .inl vaA)), (e3, .inl (cy.2.1, 12, .inl miA)), (q, .inr (3, [.ref a, .ref b, .int ty, .int (nI nn)])), (a, .inl (cy.1, 12, .inl ab)), (b, .inl (cy.1, 12, .inl (fun z => nI (sl z)))), (P, .inr (2, [.ref g, .ref q, .ref p1, .ref p2, .ref p3, .ref p4, .int cnt, .int ln, .int kn, .int th])), (p4, .inl (cy.1, 12, .inl svA)), (g, .inr (1, [.ref a1, .ref a2, .ref a3, .ref a4, .ref a5, .int fa])), (a5, .inl (cy.1, 640, .inl (fun z => vl (z / 20) (z % 20))))]) s.heap H locs → lv_has ls 7 [(0, .ref A), (1, .int (nI key)), (2, .int (nI fl)), (3, .int (nI n))] → W p l e rmX0_readValues s m [.ref A, .int (nI key), .int (nI fl)].toArray below meth c H locs 0 0 (zVQ ((Nat → Int32) × (Nat → Int32) × (Nat → Int32)) D below [.ref A, .int (nI key), .int (nI fl)].toArray s [(A, .inr (0, [.ref g, .ref q, .ref P, .ref e1, .ref e2, .ref e3, .int am])), (e1, .inl (cy.1, 12, .inl enA)), (e2, .inl (cy.1, 12, .inl vaA)), (e3, .inl (cy.2.1, 12, .inl miA)), (q, .inr (3, [.ref a, .ref b, .int ty, .int (nI nn)])), (a, .inl (cy.1, 12, .inl ab)), (b, .inl (cy.1, 12, .inl (fun z => nI (sl z)))), (P, .inr (2, [.ref g, .ref q, .ref p1, .ref p2, .ref p3, .ref p4, .int cnt, .int ln, .int kn, .int th])), (p4, .inl (cy.1, 12, .inl svA)), (g, .inr (1, [.ref a1, .ref a2, .ref a3, .ref a4, .ref a5, .int fa])), (a5, .inl (cy.1, 640, .inl (fun z => vl (z / 20) (z % 20))))] (fun u => (∀ k, k < nn → u.1 k = aEN ab sl sv vl fl key k ∧ u.2.1 k = aRV ab sl sv vl fl key k ∧ u.2.2 k = bI (decide (aRV ab sl sv vl fl key k = -1)))) (fun u => [(A, .inr (0, [.ref g, .ref q, .ref P, .ref e1, .ref e2, .ref e3, .int am])), (e1, .inl (cy.1, 12, .inl u.1)), (e2, .inl (cy.1, 12, .inl u.2.1)), (e3, .inl (cy.2.1, 12, .inl u.2.2)), (q, .inr (3, [.ref a, .ref b, .int ty, .int (nI nn)])), (a, .inl (cy.1, 12, .inl ab)), (b, .inl (cy.1, 12, .inl (fun z => nI (sl z)))), (P, .inr (2, [.ref g, .ref q, .ref p1, .ref p2, .ref p3, .ref p4, .int cnt, .int ln, .int kn, .int th])), (p4, .inl (cy.1, 12, .inl svA)), (g, .inr (1, [.ref a1, .ref a2, .ref a3, .ref a4, .ref a5, .int fa])), (a5, .inl (cy.1, 640, .inl (fun z => vl (z / 20) (z % 20))))])) (F0 m 2 ls []) := by
    intro fuel
    induction fuel with
    | zero => intro n u1 u2 u3 hfu hi hcp; exact absurd hfu (by omega)
    | succ fuel ih_lo =>
      intro n u1 u2 u3 hfu hi hcp H locs ls hP hD hS hl
      refine lv_iload_n hx hb dX0_readValues_2 rfl (lv_at hl 3 rfl) ?_
      refine lv_aload_n hx hb dX0_readValues_3 rfl (lv_at hl 0 rfl) ?_
      refine va_get (D := D) (ci := 0) (v := .ref q) (C := RX0) (T := TX0) (N := 7) hx hb hts in_wsX0_readValues_X0 hown hK.1 hP 0 rfl rfl 1 (by decide) (hts _ lk135_wsX0_readValues) (fun _ h9 => h9) rfl dX0_readValues_4 ?_
      refine z_callV (b := q) (As := []) (rest := [.int (nI n)]) ⟨hx, hb, hml, hown, hts⟩ hK hP hS (c_X3_size (i := 4) rfl) (cwV 0 hts gX0_readValues_X3_size rfl rfl rfl k_yX3_size ⟨Nat.le_of_ble_eq_true rfl, Nat.le_of_ble_eq_true rfl⟩) 4 3 rfl rfl rfl rfl hl.1 rfl rfl dX0_readValues_7 ⟨Nat.le_of_ble_eq_true rfl, Nat.le_of_ble_eq_true rfl⟩ (fun H locs hP hS => ?_)
      refine lv_icmp_ge (tgt := 144) hx hb dX0_readValues_10 (by decide) (fun cb1 => ?_) (fun cb1 => ?_)
      · have cb1 : nn ≤ n := zn_ge_t (a := n) (b := nn) (by omega) (by omega) cb1
        exact z_vret (u1, u2, u3) hx hb hr hlocks hS dX0_readValues_144 hP (fun k hk => hcp k (by omega))
      · have cb1 : ¬ (nn ≤ n) := zn_ge_f (a := n) (b := nn) (by omega) (by omega) cb1
        refine lv_iload_n hx hb dX0_readValues_13 rfl (lv_at hl 3 rfl) ?_
        refine lv_bipush (v := nI 12) hx hb dX0_readValues_14 (by decide) ?_
        refine lv_icmp_ge (tgt := 144) hx hb dX0_readValues_16 (by decide) (fun cb2 => ?_) (fun cb2 => ?_)
        · have cb2 : 12 ≤ n := zn_ge_t (a := n) (b := 12) (by omega) (by omega) cb2
          exact absurd cb2 (by omega)
        · have cb2 : ¬ (12 ≤ n) := zn_ge_f (a := n) (b := 12) (by omega) (by omega) cb2
          obtain ⟨hsv1, hsv4⟩ := hsv n (by omega)
          have hrng := (aRng (sv := sv) (fl := fl) hQ hV hn hkey (n + 1) n (by omega) (by omega)).1
          have hstep := aRV_step (sl := sl) (sv := sv) (vl := vl) (fl := fl) (key := key) (show n < 2 ^ 31 by omega) (hQ.tree n (by omega))
          rcases (hQ n (by omega)).2 with hpl | ⟨r, hrn, hpl, hld⟩
          · skip
            refine lv_aload_n hx hb dX0_readValues_19 rfl (lv_at hl 0 rfl) ?_
            refine va_get (D := D) (ci := 0) (v := .ref q) (C := RX0) (T := TX0) (N := 7) hx hb hts in_wsX0_readValues_X0 hown hK.1 hP 0 rfl rfl 1 (by decide) (hts _ lk135_wsX0_readValues) (fun _ h9 => h9) rfl dX0_readValues_20 ?_
            refine lv_iload_n hx hb dX0_readValues_23 rfl (lv_at hl 3 rfl) ?_
            refine z_callV (b := q) (As := [.int (nI n)]) (rest := []) ⟨hx, hb, hml, hown, hts⟩ hK hP hS (c_X3_aboveOf (i := 4) (j := 5) rfl rfl hn (z := n) (by omega)) (cwV 1 hts gX0_readValues_X3_aboveOf rfl rfl rfl k_yX3_aboveOf ⟨Nat.le_of_ble_eq_true rfl, Nat.le_of_ble_eq_true rfl⟩) 4 3 rfl rfl rfl rfl hl.1 rfl rfl dX0_readValues_24 ⟨Nat.le_of_ble_eq_true rfl, Nat.le_of_ble_eq_true rfl⟩ (fun H locs hP hS => ?_)
            refine z_top (y := (-1 : Int32)) hpl ?_
            refine lv_istore (lv' := [(4, .int ((-1 : Int32))), (0, .ref A), (1, .int (nI key)), (2, .int (nI fl)), (3, .int (nI n))]) hx hb dX0_readValues_27 hl (by decide) rfl (fun ls hl => ?_)
            refine lv_aload_n hx hb dX0_readValues_29 rfl (lv_at hl 1 rfl) ?_
            refine va_get (D := D) (ci := 0) (v := .ref q) (C := RX0) (T := TX0) (N := 7) hx hb hts in_wsX0_readValues_X0 hown hK.1 hP 0 rfl rfl 1 (by decide) (hts _ lk135_wsX0_readValues) (fun _ h9 => h9) rfl dX0_readValues_30 ?_
            refine lv_iload hx hb dX0_readValues_33 (lv_at hl 0 rfl) ?_
            refine z_callV (b := q) (As := [.int ((-1 : Int32))]) (rest := []) ⟨hx, hb, hml, hown, hts⟩ hK hP hS (c_X3_has_m1 (i := 4) rfl hn) (cwV 1 hts gX0_readValues_X3_has rfl rfl rfl k_yX3_has ⟨Nat.le_of_ble_eq_true rfl, Nat.le_of_ble_eq_true rfl⟩) 4 3 rfl rfl rfl rfl hl.1 rfl rfl dX0_readValues_35 ⟨Nat.le_of_ble_eq_true rfl, Nat.le_of_ble_eq_true rfl⟩ (fun H locs hP hS => ?_)
            refine lv_if_eq (tgt := 51) hx hb dX0_readValues_38 (by decide) (fun cb3 => ?_) (fun cb3 => ?_)
            · have cb3 : 0 = 0 := zn_eq_t (a := 0) (b := 0) (by omega) (by omega) cb3
              refine lv_iload_n hx hb dX0_readValues_51 rfl (lv_at hl 2 rfl) ?_
              refine lv_istore (lv' := [(5, .int (nI key)), (4, .int ((-1 : Int32))), (0, .ref A), (1, .int (nI key)), (2, .int (nI fl)), (3, .int (nI n))]) hx hb dX0_readValues_52 hl (by decide) rfl (fun ls hl => ?_)
              have hent : aEN ab sl sv vl fl key n = nI key := aEN_top hpl
              refine lv_iload_n hx hb dX0_readValues_54 rfl (lv_at hl 4 rfl) ?_
              refine lv_aload_n hx hb dX0_readValues_55 rfl (lv_at hl 2 rfl) ?_
              refine va_get (D := D) (ci := 0) (v := .ref P) (C := RX0) (T := TX0) (N := 7) hx hb hts in_wsX0_readValues_X0 hown hK.1 hP 0 rfl rfl 2 (by decide) (hts _ lk137_wsX0_readValues) (fun _ h9 => h9) rfl dX0_readValues_56 ?_
              refine lv_iload_n hx hb dX0_readValues_59 rfl (lv_at hl 5 rfl) ?_
              refine z_callV (b := P) (As := [.int (nI n)]) (rest := [.int (nI fl)]) ⟨hx, hb, hml, hown, hts⟩ hK hP hS (c_X2_serviceOf (i := 7) (i4 := 8) (iq := 4) rfl rfl rfl hn (k := n) (by omega)) (cwV 1 hts gX0_readValues_X2_serviceOf rfl rfl rfl k_yX2_serviceOf ⟨Nat.le_of_ble_eq_true rfl, Nat.le_of_ble_eq_true rfl⟩) 7 2 rfl rfl rfl rfl hl.1 rfl rfl dX0_readValues_60 ⟨Nat.le_of_ble_eq_true rfl, Nat.le_of_ble_eq_true rfl⟩ (fun H locs hP hS => ?_)
              refine z_top (y := nI (sv n)) hsv1 ?_
              refine z_callSN (As := [.int (nI (sv n))]) (rest := [.int (nI fl)]) ⟨hx, hb, hml, hown, hts⟩ hK hP hS (c_X4_bit (k := sv n) (by omega)) ⟨va_cnB 1 hts gX0_readValues_X4_bit_n74 rfl rfl rfl hK.2.2.2.2.2.2.2 (hts _ lk138_wsX0_readValues) k_yX4_bit ⟨Nat.le_of_ble_eq_true rfl, Nat.le_of_ble_eq_true rfl⟩, hts _ lk139_wsX0_readValues, trivial⟩ rfl hl.1 rfl rfl dX0_readValues_63 ⟨Nat.le_of_ble_eq_true rfl, Nat.le_of_ble_eq_true rfl⟩ (fun H locs hP hS => ?_)
              refine lv_iand hx hb dX0_readValues_66 ?_
              refine z_top (y := (nI fl &&& nI (2 ^ sv n))) rfl ?_
              refine lv_if_eq (tgt := 74) hx hb dX0_readValues_67 (by decide) (fun cb4 => ?_) (fun cb4 => ?_)
              · skip
                have hbt := z_bitF _ hfl _ hsv4 cb4
                refine lv_iconst (v := nI 0) hx hb dX0_readValues_74 (by decide) ?_
                refine lv_istore (lv' := [(6, .int (nI 0)), (5, .int (nI key)), (4, .int ((-1 : Int32))), (0, .ref A), (1, .int (nI key)), (2, .int (nI fl)), (3, .int (nI n))]) hx hb dX0_readValues_75 hl (by decide) rfl (fun ls hl => ?_)
                refine lv_aload_n hx hb dX0_readValues_77 rfl (lv_at hl 3 rfl) ?_
                refine va_get (D := D) (ci := 0) (v := .ref e1) (C := RX0) (T := TX0) (N := 7) hx hb hts in_wsX0_readValues_X0 hown hK.1 hP 0 rfl rfl 3 (by decide) (hts _ lk140_wsX0_readValues) (fun _ h9 => h9) rfl dX0_readValues_78 ?_
                refine lv_iload_n hx hb dX0_readValues_81 rfl (lv_at hl 6 rfl) ?_
                refine lv_iload hx hb dX0_readValues_82 (lv_at hl 1 rfl) ?_
                refine z_iast (g := upd u1 n (nI key)) hx hb hK.1 hP hD hS 1 0 rfl rfl (k := n) (by omega) (by decide) (fun _ _ => rfl) dX0_readValues_84 (fun H locs hP hD hS => ?_)
                have hP : va_P D vwCl [(A, .inr (0, [.ref g, .ref q, .ref P, .ref e1, .ref e2, .ref e3, .int am])), (e1, .inl (cy.1, 12, .inl (upd u1 n (nI key)))), (e2, .inl (cy.1, 12, .inl u2)), (e3, .inl (cy.2.1, 12, .inl u3)), (q, .inr (3, [.ref a, .ref b, .int ty, .int (nI nn)])), (a, .inl (cy.1, 12, .inl ab)), (b, .inl (cy.1, 12, .inl (fun z => nI (sl z)))), (P, .inr (2, [.ref g, .ref q, .ref p1, .ref p2, .ref p3, .ref p4, .int cnt, .int ln, .int kn, .int th])), (p4, .inl (cy.1, 12, .inl svA)), (g, .inr (1, [.ref a1, .ref a2, .ref a3, .ref a4, .ref a5, .int fa])), (a5, .inl (cy.1, 640, .inl (fun z => vl (z / 20) (z % 20))))] H := hP
                have hD : va_D (zIn [(A, .inr (0, [.ref g, .ref q, .ref P, .ref e1, .ref e2, .ref e3, .int am])), (e1, .inl (cy.1, 12, .inl enA)), (e2, .inl (cy.1, 12, .inl vaA)), (e3, .inl (cy.2.1, 12, .inl miA)), (q, .inr (3, [.ref a, .ref b, .int ty, .int (nI nn)])), (a, .inl (cy.1, 12, .inl ab)), (b, .inl (cy.1, 12, .inl (fun z => nI (sl z)))), (P, .inr (2, [.ref g, .ref q, .ref p1, .ref p2, .ref p3, .ref p4, .int cnt, .int ln, .int kn, .int th])), (p4, .inl (cy.1, 12, .inl svA)), (g, .inr (1, [.ref a1, .ref a2, .ref a3, .ref a4, .ref a5, .int fa])), (a5, .inl (cy.1, 640, .inl (fun z => vl (z / 20) (z % 20))))]) [(A, .inr (0, [.ref g, .ref q, .ref P, .ref e1, .ref e2, .ref e3, .int am])), (e1, .inl (cy.1, 12, .inl (upd u1 n (nI key)))), (e2, .inl (cy.1, 12, .inl u2)), (e3, .inl (cy.2.1, 12, .inl u3)), (q, .inr (3, [.ref a, .ref b, .int ty, .int (nI nn)])), (a, .inl (cy.1, 12, .inl ab)), (b, .inl (cy.1, 12, .inl (fun z => nI (sl z)))), (P, .inr (2, [.ref g, .ref q, .ref p1, .ref p2, .ref p3, .ref p4, .int cnt, .int ln, .int kn, .int th])), (p4, .inl (cy.1, 12, .inl svA)), (g, .inr (1, [.ref a1, .ref a2, .ref a3, .ref a4, .ref a5, .int fa])), (a5, .inl (cy.1, 640, .inl (fun z => vl (z / 20) (z % 20))))] := hD
                refine lv_aload_n hx hb dX0_readValues_85 rfl (lv_at hl 3 rfl) ?_
                refine va_get (D := D) (ci := 0) (v := .ref e2) (C := RX0) (T := TX0) (N := 7) hx hb hts in_wsX0_readValues_X0 hown hK.1 hP 0 rfl rfl 4 (by decide) (hts _ lk141_wsX0_readValues) (fun _ h9 => h9) rfl dX0_readValues_86 ?_
                refine lv_iload_n hx hb dX0_readValues_89 rfl (lv_at hl 6 rfl) ?_
                refine lv_iload hx hb dX0_readValues_90 (lv_at hl 0 rfl) ?_
                refine lv_if_eq (tgt := 99) hx hb dX0_readValues_92 (by decide) (fun cb5 => ?_) (fun cb5 => ?_)
                · have cb5 : 0 = 0 := zn_eq_t (a := 0) (b := 0) (by omega) (by omega) cb5
                  refine lv_aload_n hx hb dX0_readValues_99 rfl (lv_at hl 3 rfl) ?_
                  refine va_get (D := D) (ci := 0) (v := .ref g) (C := RX0) (T := TX0) (N := 7) hx hb hts in_wsX0_readValues_X0 hown hK.1 hP 0 rfl rfl 0 (by decide) (hts _ lk142_wsX0_readValues) (fun _ h9 => h9) rfl dX0_readValues_100 ?_
                  refine lv_aload_n hx hb dX0_readValues_103 rfl (lv_at hl 3 rfl) ?_
                  refine va_get (D := D) (ci := 0) (v := .ref q) (C := RX0) (T := TX0) (N := 7) hx hb hts in_wsX0_readValues_X0 hown hK.1 hP 0 rfl rfl 1 (by decide) (hts _ lk135_wsX0_readValues) (fun _ h9 => h9) rfl dX0_readValues_104 ?_
                  refine lv_iload_n hx hb dX0_readValues_107 rfl (lv_at hl 6 rfl) ?_
                  refine z_callV (b := q) (As := [.int (nI n)]) (rest := [.ref g, .int (nI n), .ref e2]) ⟨hx, hb, hml, hown, hts⟩ hK hP hS (c_X3_slotAt (i := 4) (j := 6) rfl rfl hn (z := n) (by omega)) (cwV 1 hts gX0_readValues_X3_slotAt rfl rfl rfl k_yX3_slotAt ⟨Nat.le_of_ble_eq_true rfl, Nat.le_of_ble_eq_true rfl⟩) 4 3 rfl rfl rfl rfl hl.1 rfl rfl dX0_readValues_108 ⟨Nat.le_of_ble_eq_true rfl, Nat.le_of_ble_eq_true rfl⟩ (fun H locs hP hS => ?_)
                  refine lv_iload hx hb dX0_readValues_111 (lv_at hl 1 rfl) ?_
                  refine z_callV (b := g) (As := [.int (nI (sl n)), .int (nI key)]) (rest := [.int (nI n), .ref e2]) ⟨hx, hb, hml, hown, hts⟩ hK hP hS (c_X1_valueOf_o (i := 9) (j := 10) rfl rfl (t := sl n) (x := nI key) (hQ n (by omega)).1 (hent ▸ hrng)) (cwV 2 hts gX0_readValues_X1_valueOf rfl rfl rfl k_yX1_valueOf ⟨Nat.le_of_ble_eq_true rfl, Nat.le_of_ble_eq_true rfl⟩) 9 1 rfl rfl rfl rfl hl.1 rfl rfl dX0_readValues_113 ⟨Nat.le_of_ble_eq_true rfl, Nat.le_of_ble_eq_true rfl⟩ (fun H locs hP hS => ?_)
                  have hval : aRV ab sl sv vl fl key n = (zVl vl (sl n) (nI key)) := by rw [hstep, hbt, hent]; rfl
                  refine z_iast (g := upd u2 n ((zVl vl (sl n) (nI key)))) hx hb hK.1 hP hD hS 2 0 rfl rfl (k := n) (by omega) (by decide) (fun _ _ => rfl) dX0_readValues_116 (fun H locs hP hD hS => ?_)
                  have hP : va_P D vwCl [(A, .inr (0, [.ref g, .ref q, .ref P, .ref e1, .ref e2, .ref e3, .int am])), (e1, .inl (cy.1, 12, .inl (upd u1 n (nI key)))), (e2, .inl (cy.1, 12, .inl (upd u2 n ((zVl vl (sl n) (nI key)))))), (e3, .inl (cy.2.1, 12, .inl u3)), (q, .inr (3, [.ref a, .ref b, .int ty, .int (nI nn)])), (a, .inl (cy.1, 12, .inl ab)), (b, .inl (cy.1, 12, .inl (fun z => nI (sl z)))), (P, .inr (2, [.ref g, .ref q, .ref p1, .ref p2, .ref p3, .ref p4, .int cnt, .int ln, .int kn, .int th])), (p4, .inl (cy.1, 12, .inl svA)), (g, .inr (1, [.ref a1, .ref a2, .ref a3, .ref a4, .ref a5, .int fa])), (a5, .inl (cy.1, 640, .inl (fun z => vl (z / 20) (z % 20))))] H := hP
                  have hD : va_D (zIn [(A, .inr (0, [.ref g, .ref q, .ref P, .ref e1, .ref e2, .ref e3, .int am])), (e1, .inl (cy.1, 12, .inl enA)), (e2, .inl (cy.1, 12, .inl vaA)), (e3, .inl (cy.2.1, 12, .inl miA)), (q, .inr (3, [.ref a, .ref b, .int ty, .int (nI nn)])), (a, .inl (cy.1, 12, .inl ab)), (b, .inl (cy.1, 12, .inl (fun z => nI (sl z)))), (P, .inr (2, [.ref g, .ref q, .ref p1, .ref p2, .ref p3, .ref p4, .int cnt, .int ln, .int kn, .int th])), (p4, .inl (cy.1, 12, .inl svA)), (g, .inr (1, [.ref a1, .ref a2, .ref a3, .ref a4, .ref a5, .int fa])), (a5, .inl (cy.1, 640, .inl (fun z => vl (z / 20) (z % 20))))]) [(A, .inr (0, [.ref g, .ref q, .ref P, .ref e1, .ref e2, .ref e3, .int am])), (e1, .inl (cy.1, 12, .inl (upd u1 n (nI key)))), (e2, .inl (cy.1, 12, .inl (upd u2 n ((zVl vl (sl n) (nI key)))))), (e3, .inl (cy.2.1, 12, .inl u3)), (q, .inr (3, [.ref a, .ref b, .int ty, .int (nI nn)])), (a, .inl (cy.1, 12, .inl ab)), (b, .inl (cy.1, 12, .inl (fun z => nI (sl z)))), (P, .inr (2, [.ref g, .ref q, .ref p1, .ref p2, .ref p3, .ref p4, .int cnt, .int ln, .int kn, .int th])), (p4, .inl (cy.1, 12, .inl svA)), (g, .inr (1, [.ref a1, .ref a2, .ref a3, .ref a4, .ref a5, .int fa])), (a5, .inl (cy.1, 640, .inl (fun z => vl (z / 20) (z % 20))))] := hD
                  refine lv_aload_n hx hb dX0_readValues_117 rfl (lv_at hl 3 rfl) ?_
                  refine va_get (D := D) (ci := 0) (v := .ref e3) (C := RX0) (T := TX0) (N := 7) hx hb hts in_wsX0_readValues_X0 hown hK.1 hP 0 rfl rfl 5 (by decide) (hts _ lk143_wsX0_readValues) (fun _ h9 => h9) rfl dX0_readValues_118 ?_
                  refine lv_iload_n hx hb dX0_readValues_121 rfl (lv_at hl 6 rfl) ?_
                  refine lv_aload_n hx hb dX0_readValues_122 rfl (lv_at hl 3 rfl) ?_
                  refine va_get (D := D) (ci := 0) (v := .ref e2) (C := RX0) (T := TX0) (N := 7) hx hb hts in_wsX0_readValues_X0 hown hK.1 hP 0 rfl rfl 4 (by decide) (hts _ lk141_wsX0_readValues) (fun _ h9 => h9) rfl dX0_readValues_123 ?_
                  refine lv_iload_n hx hb dX0_readValues_126 rfl (lv_at hl 6 rfl) ?_
                  refine z_iald (v := (zVl vl (sl n) (nI key))) hx hb hK.1 hP 2 0 rfl rfl (k := n) (by omega) (by decide) (by show upd u2 n _ n = _; unfold upd; rw [if_pos rfl]) dX0_readValues_127 ?_
                  refine lv_iconst (v := (-1 : Int32)) hx hb dX0_readValues_128 (by decide) ?_
                  refine lv_icmp_ne (tgt := 136) hx hb dX0_readValues_129 (by decide) (fun cb6 => ?_) (fun cb6 => ?_)
                  · skip
                    refine lv_iconst (v := nI 0) hx hb dX0_readValues_136 (by decide) ?_
                    refine z_zast (g := upd u3 n (nI 0)) hx hb hK.1 hP hD hS 3 1 rfl rfl (k := n) (by omega) (by decide) (by decide) (fun _ _ => rfl) dX0_readValues_137 (fun H locs hP hD hS => ?_)
                    have hP : va_P D vwCl [(A, .inr (0, [.ref g, .ref q, .ref P, .ref e1, .ref e2, .ref e3, .int am])), (e1, .inl (cy.1, 12, .inl (upd u1 n (nI key)))), (e2, .inl (cy.1, 12, .inl (upd u2 n ((zVl vl (sl n) (nI key)))))), (e3, .inl (cy.2.1, 12, .inl (upd u3 n (nI 0)))), (q, .inr (3, [.ref a, .ref b, .int ty, .int (nI nn)])), (a, .inl (cy.1, 12, .inl ab)), (b, .inl (cy.1, 12, .inl (fun z => nI (sl z)))), (P, .inr (2, [.ref g, .ref q, .ref p1, .ref p2, .ref p3, .ref p4, .int cnt, .int ln, .int kn, .int th])), (p4, .inl (cy.1, 12, .inl svA)), (g, .inr (1, [.ref a1, .ref a2, .ref a3, .ref a4, .ref a5, .int fa])), (a5, .inl (cy.1, 640, .inl (fun z => vl (z / 20) (z % 20))))] H := hP
                    have hD : va_D (zIn [(A, .inr (0, [.ref g, .ref q, .ref P, .ref e1, .ref e2, .ref e3, .int am])), (e1, .inl (cy.1, 12, .inl enA)), (e2, .inl (cy.1, 12, .inl vaA)), (e3, .inl (cy.2.1, 12, .inl miA)), (q, .inr (3, [.ref a, .ref b, .int ty, .int (nI nn)])), (a, .inl (cy.1, 12, .inl ab)), (b, .inl (cy.1, 12, .inl (fun z => nI (sl z)))), (P, .inr (2, [.ref g, .ref q, .ref p1, .ref p2, .ref p3, .ref p4, .int cnt, .int ln, .int kn, .int th])), (p4, .inl (cy.1, 12, .inl svA)), (g, .inr (1, [.ref a1, .ref a2, .ref a3, .ref a4, .ref a5, .int fa])), (a5, .inl (cy.1, 640, .inl (fun z => vl (z / 20) (z % 20))))]) [(A, .inr (0, [.ref g, .ref q, .ref P, .ref e1, .ref e2, .ref e3, .int am])), (e1, .inl (cy.1, 12, .inl (upd u1 n (nI key)))), (e2, .inl (cy.1, 12, .inl (upd u2 n ((zVl vl (sl n) (nI key)))))), (e3, .inl (cy.2.1, 12, .inl (upd u3 n (nI 0)))), (q, .inr (3, [.ref a, .ref b, .int ty, .int (nI nn)])), (a, .inl (cy.1, 12, .inl ab)), (b, .inl (cy.1, 12, .inl (fun z => nI (sl z)))), (P, .inr (2, [.ref g, .ref q, .ref p1, .ref p2, .ref p3, .ref p4, .int cnt, .int ln, .int kn, .int th])), (p4, .inl (cy.1, 12, .inl svA)), (g, .inr (1, [.ref a1, .ref a2, .ref a3, .ref a4, .ref a5, .int fa])), (a5, .inl (cy.1, 640, .inl (fun z => vl (z / 20) (z % 20))))] := hD
                    refine lv_iinc (v := nI (n + 1)) (lv' := [(3, .int (nI (n + 1))), (6, .int (nI 0)), (5, .int (nI key)), (4, .int ((-1 : Int32))), (0, .ref A), (1, .int (nI key)), (2, .int (nI fl))]) hx hb dX0_readValues_138 hl (k := 6) rfl (z_inc _) (by decide) rfl (fun ls hl => ?_)
                    refine lv_goto (tgt := 2) hx hb dX0_readValues_141 (by decide) ?_
                    exact ih_lo (n + 1) (upd u1 n (nI key)) (upd u2 n (zVl vl (sl n) (nI key))) (upd u3 n (nI 0)) (by omega) (by omega) (lt_s (fun k hk => by unfold upd; rw [if_neg (by omega), if_neg (by omega), if_neg (by omega)]; exact hcp k hk) (by unfold upd; rw [if_pos rfl, if_pos rfl, if_pos rfl]; exact ⟨hent.symm, hval.symm, by rw [hval]; exact (bI_no cb6)⟩)) _ _ _ hP hD hS (lv_sub hl [4, 5, 6, 0] rfl)
                  · skip
                    refine lv_iconst (v := nI 1) hx hb dX0_readValues_132 (by decide) ?_
                    refine lv_goto (tgt := 137) hx hb dX0_readValues_133 (by decide) ?_
                    refine z_zast (g := upd u3 n (nI 1)) hx hb hK.1 hP hD hS 3 1 rfl rfl (k := n) (by omega) (by decide) (by decide) (fun _ _ => rfl) dX0_readValues_137 (fun H locs hP hD hS => ?_)
                    have hP : va_P D vwCl [(A, .inr (0, [.ref g, .ref q, .ref P, .ref e1, .ref e2, .ref e3, .int am])), (e1, .inl (cy.1, 12, .inl (upd u1 n (nI key)))), (e2, .inl (cy.1, 12, .inl (upd u2 n ((zVl vl (sl n) (nI key)))))), (e3, .inl (cy.2.1, 12, .inl (upd u3 n (nI 1)))), (q, .inr (3, [.ref a, .ref b, .int ty, .int (nI nn)])), (a, .inl (cy.1, 12, .inl ab)), (b, .inl (cy.1, 12, .inl (fun z => nI (sl z)))), (P, .inr (2, [.ref g, .ref q, .ref p1, .ref p2, .ref p3, .ref p4, .int cnt, .int ln, .int kn, .int th])), (p4, .inl (cy.1, 12, .inl svA)), (g, .inr (1, [.ref a1, .ref a2, .ref a3, .ref a4, .ref a5, .int fa])), (a5, .inl (cy.1, 640, .inl (fun z => vl (z / 20) (z % 20))))] H := hP
                    have hD : va_D (zIn [(A, .inr (0, [.ref g, .ref q, .ref P, .ref e1, .ref e2, .ref e3, .int am])), (e1, .inl (cy.1, 12, .inl enA)), (e2, .inl (cy.1, 12, .inl vaA)), (e3, .inl (cy.2.1, 12, .inl miA)), (q, .inr (3, [.ref a, .ref b, .int ty, .int (nI nn)])), (a, .inl (cy.1, 12, .inl ab)), (b, .inl (cy.1, 12, .inl (fun z => nI (sl z)))), (P, .inr (2, [.ref g, .ref q, .ref p1, .ref p2, .ref p3, .ref p4, .int cnt, .int ln, .int kn, .int th])), (p4, .inl (cy.1, 12, .inl svA)), (g, .inr (1, [.ref a1, .ref a2, .ref a3, .ref a4, .ref a5, .int fa])), (a5, .inl (cy.1, 640, .inl (fun z => vl (z / 20) (z % 20))))]) [(A, .inr (0, [.ref g, .ref q, .ref P, .ref e1, .ref e2, .ref e3, .int am])), (e1, .inl (cy.1, 12, .inl (upd u1 n (nI key)))), (e2, .inl (cy.1, 12, .inl (upd u2 n ((zVl vl (sl n) (nI key)))))), (e3, .inl (cy.2.1, 12, .inl (upd u3 n (nI 1)))), (q, .inr (3, [.ref a, .ref b, .int ty, .int (nI nn)])), (a, .inl (cy.1, 12, .inl ab)), (b, .inl (cy.1, 12, .inl (fun z => nI (sl z)))), (P, .inr (2, [.ref g, .ref q, .ref p1, .ref p2, .ref p3, .ref p4, .int cnt, .int ln, .int kn, .int th])), (p4, .inl (cy.1, 12, .inl svA)), (g, .inr (1, [.ref a1, .ref a2, .ref a3, .ref a4, .ref a5, .int fa])), (a5, .inl (cy.1, 640, .inl (fun z => vl (z / 20) (z % 20))))] := hD
                    refine lv_iinc (v := nI (n + 1)) (lv' := [(3, .int (nI (n + 1))), (6, .int (nI 0)), (5, .int (nI key)), (4, .int ((-1 : Int32))), (0, .ref A), (1, .int (nI key)), (2, .int (nI fl))]) hx hb dX0_readValues_138 hl (k := 6) rfl (z_inc _) (by decide) rfl (fun ls hl => ?_)
                    refine lv_goto (tgt := 2) hx hb dX0_readValues_141 (by decide) ?_
                    exact ih_lo (n + 1) (upd u1 n (nI key)) (upd u2 n (zVl vl (sl n) (nI key))) (upd u3 n (nI 1)) (by omega) (by omega) (lt_s (fun k hk => by unfold upd; rw [if_neg (by omega), if_neg (by omega), if_neg (by omega)]; exact hcp k hk) (by unfold upd; rw [if_pos rfl, if_pos rfl, if_pos rfl]; exact ⟨hent.symm, hval.symm, by rw [hval]; exact (bI_yes cb6)⟩)) _ _ _ hP hD hS (lv_sub hl [4, 5, 6, 0] rfl)
                · have cb5 : ¬ (0 = 0) := zn_eq_f (a := 0) (b := 0) (by omega) (by omega) cb5
                  exact absurd cb5 (by decide)
              · skip
                have hbt := z_bitT _ hfl _ hsv4 cb4
                refine lv_iconst (v := nI 1) hx hb dX0_readValues_70 (by decide) ?_
                refine lv_goto (tgt := 75) hx hb dX0_readValues_71 (by decide) ?_
                refine lv_istore (lv' := [(6, .int (nI 1)), (5, .int (nI key)), (4, .int ((-1 : Int32))), (0, .ref A), (1, .int (nI key)), (2, .int (nI fl)), (3, .int (nI n))]) hx hb dX0_readValues_75 hl (by decide) rfl (fun ls hl => ?_)
                refine lv_aload_n hx hb dX0_readValues_77 rfl (lv_at hl 3 rfl) ?_
                refine va_get (D := D) (ci := 0) (v := .ref e1) (C := RX0) (T := TX0) (N := 7) hx hb hts in_wsX0_readValues_X0 hown hK.1 hP 0 rfl rfl 3 (by decide) (hts _ lk140_wsX0_readValues) (fun _ h9 => h9) rfl dX0_readValues_78 ?_
                refine lv_iload_n hx hb dX0_readValues_81 rfl (lv_at hl 6 rfl) ?_
                refine lv_iload hx hb dX0_readValues_82 (lv_at hl 1 rfl) ?_
                refine z_iast (g := upd u1 n (nI key)) hx hb hK.1 hP hD hS 1 0 rfl rfl (k := n) (by omega) (by decide) (fun _ _ => rfl) dX0_readValues_84 (fun H locs hP hD hS => ?_)
                have hP : va_P D vwCl [(A, .inr (0, [.ref g, .ref q, .ref P, .ref e1, .ref e2, .ref e3, .int am])), (e1, .inl (cy.1, 12, .inl (upd u1 n (nI key)))), (e2, .inl (cy.1, 12, .inl u2)), (e3, .inl (cy.2.1, 12, .inl u3)), (q, .inr (3, [.ref a, .ref b, .int ty, .int (nI nn)])), (a, .inl (cy.1, 12, .inl ab)), (b, .inl (cy.1, 12, .inl (fun z => nI (sl z)))), (P, .inr (2, [.ref g, .ref q, .ref p1, .ref p2, .ref p3, .ref p4, .int cnt, .int ln, .int kn, .int th])), (p4, .inl (cy.1, 12, .inl svA)), (g, .inr (1, [.ref a1, .ref a2, .ref a3, .ref a4, .ref a5, .int fa])), (a5, .inl (cy.1, 640, .inl (fun z => vl (z / 20) (z % 20))))] H := hP
                have hD : va_D (zIn [(A, .inr (0, [.ref g, .ref q, .ref P, .ref e1, .ref e2, .ref e3, .int am])), (e1, .inl (cy.1, 12, .inl enA)), (e2, .inl (cy.1, 12, .inl vaA)), (e3, .inl (cy.2.1, 12, .inl miA)), (q, .inr (3, [.ref a, .ref b, .int ty, .int (nI nn)])), (a, .inl (cy.1, 12, .inl ab)), (b, .inl (cy.1, 12, .inl (fun z => nI (sl z)))), (P, .inr (2, [.ref g, .ref q, .ref p1, .ref p2, .ref p3, .ref p4, .int cnt, .int ln, .int kn, .int th])), (p4, .inl (cy.1, 12, .inl svA)), (g, .inr (1, [.ref a1, .ref a2, .ref a3, .ref a4, .ref a5, .int fa])), (a5, .inl (cy.1, 640, .inl (fun z => vl (z / 20) (z % 20))))]) [(A, .inr (0, [.ref g, .ref q, .ref P, .ref e1, .ref e2, .ref e3, .int am])), (e1, .inl (cy.1, 12, .inl (upd u1 n (nI key)))), (e2, .inl (cy.1, 12, .inl u2)), (e3, .inl (cy.2.1, 12, .inl u3)), (q, .inr (3, [.ref a, .ref b, .int ty, .int (nI nn)])), (a, .inl (cy.1, 12, .inl ab)), (b, .inl (cy.1, 12, .inl (fun z => nI (sl z)))), (P, .inr (2, [.ref g, .ref q, .ref p1, .ref p2, .ref p3, .ref p4, .int cnt, .int ln, .int kn, .int th])), (p4, .inl (cy.1, 12, .inl svA)), (g, .inr (1, [.ref a1, .ref a2, .ref a3, .ref a4, .ref a5, .int fa])), (a5, .inl (cy.1, 640, .inl (fun z => vl (z / 20) (z % 20))))] := hD
                refine lv_aload_n hx hb dX0_readValues_85 rfl (lv_at hl 3 rfl) ?_
                refine va_get (D := D) (ci := 0) (v := .ref e2) (C := RX0) (T := TX0) (N := 7) hx hb hts in_wsX0_readValues_X0 hown hK.1 hP 0 rfl rfl 4 (by decide) (hts _ lk141_wsX0_readValues) (fun _ h9 => h9) rfl dX0_readValues_86 ?_
                refine lv_iload_n hx hb dX0_readValues_89 rfl (lv_at hl 6 rfl) ?_
                refine lv_iload hx hb dX0_readValues_90 (lv_at hl 0 rfl) ?_
                refine lv_if_eq (tgt := 99) hx hb dX0_readValues_92 (by decide) (fun cb7 => ?_) (fun cb7 => ?_)
                · have cb7 : 1 = 0 := zn_eq_t (a := 1) (b := 0) (by omega) (by omega) cb7
                  exact absurd cb7 (by decide)
                · have cb7 : ¬ (1 = 0) := zn_eq_f (a := 1) (b := 0) (by omega) (by omega) cb7
                  refine lv_iconst (v := (-1 : Int32)) hx hb dX0_readValues_95 (by decide) ?_
                  refine lv_goto (tgt := 116) hx hb dX0_readValues_96 (by decide) ?_
                  have hval : aRV ab sl sv vl fl key n = -1 := by rw [hstep, hbt]; rfl
                  refine z_iast (g := upd u2 n ((-1 : Int32))) hx hb hK.1 hP hD hS 2 0 rfl rfl (k := n) (by omega) (by decide) (fun _ _ => rfl) dX0_readValues_116 (fun H locs hP hD hS => ?_)
                  have hP : va_P D vwCl [(A, .inr (0, [.ref g, .ref q, .ref P, .ref e1, .ref e2, .ref e3, .int am])), (e1, .inl (cy.1, 12, .inl (upd u1 n (nI key)))), (e2, .inl (cy.1, 12, .inl (upd u2 n ((-1 : Int32))))), (e3, .inl (cy.2.1, 12, .inl u3)), (q, .inr (3, [.ref a, .ref b, .int ty, .int (nI nn)])), (a, .inl (cy.1, 12, .inl ab)), (b, .inl (cy.1, 12, .inl (fun z => nI (sl z)))), (P, .inr (2, [.ref g, .ref q, .ref p1, .ref p2, .ref p3, .ref p4, .int cnt, .int ln, .int kn, .int th])), (p4, .inl (cy.1, 12, .inl svA)), (g, .inr (1, [.ref a1, .ref a2, .ref a3, .ref a4, .ref a5, .int fa])), (a5, .inl (cy.1, 640, .inl (fun z => vl (z / 20) (z % 20))))] H := hP
                  have hD : va_D (zIn [(A, .inr (0, [.ref g, .ref q, .ref P, .ref e1, .ref e2, .ref e3, .int am])), (e1, .inl (cy.1, 12, .inl enA)), (e2, .inl (cy.1, 12, .inl vaA)), (e3, .inl (cy.2.1, 12, .inl miA)), (q, .inr (3, [.ref a, .ref b, .int ty, .int (nI nn)])), (a, .inl (cy.1, 12, .inl ab)), (b, .inl (cy.1, 12, .inl (fun z => nI (sl z)))), (P, .inr (2, [.ref g, .ref q, .ref p1, .ref p2, .ref p3, .ref p4, .int cnt, .int ln, .int kn, .int th])), (p4, .inl (cy.1, 12, .inl svA)), (g, .inr (1, [.ref a1, .ref a2, .ref a3, .ref a4, .ref a5, .int fa])), (a5, .inl (cy.1, 640, .inl (fun z => vl (z / 20) (z % 20))))]) [(A, .inr (0, [.ref g, .ref q, .ref P, .ref e1, .ref e2, .ref e3, .int am])), (e1, .inl (cy.1, 12, .inl (upd u1 n (nI key)))), (e2, .inl (cy.1, 12, .inl (upd u2 n ((-1 : Int32))))), (e3, .inl (cy.2.1, 12, .inl u3)), (q, .inr (3, [.ref a, .ref b, .int ty, .int (nI nn)])), (a, .inl (cy.1, 12, .inl ab)), (b, .inl (cy.1, 12, .inl (fun z => nI (sl z)))), (P, .inr (2, [.ref g, .ref q, .ref p1, .ref p2, .ref p3, .ref p4, .int cnt, .int ln, .int kn, .int th])), (p4, .inl (cy.1, 12, .inl svA)), (g, .inr (1, [.ref a1, .ref a2, .ref a3, .ref a4, .ref a5, .int fa])), (a5, .inl (cy.1, 640, .inl (fun z => vl (z / 20) (z % 20))))] := hD
                  refine lv_aload_n hx hb dX0_readValues_117 rfl (lv_at hl 3 rfl) ?_
                  refine va_get (D := D) (ci := 0) (v := .ref e3) (C := RX0) (T := TX0) (N := 7) hx hb hts in_wsX0_readValues_X0 hown hK.1 hP 0 rfl rfl 5 (by decide) (hts _ lk143_wsX0_readValues) (fun _ h9 => h9) rfl dX0_readValues_118 ?_
                  refine lv_iload_n hx hb dX0_readValues_121 rfl (lv_at hl 6 rfl) ?_
                  refine lv_aload_n hx hb dX0_readValues_122 rfl (lv_at hl 3 rfl) ?_
                  refine va_get (D := D) (ci := 0) (v := .ref e2) (C := RX0) (T := TX0) (N := 7) hx hb hts in_wsX0_readValues_X0 hown hK.1 hP 0 rfl rfl 4 (by decide) (hts _ lk141_wsX0_readValues) (fun _ h9 => h9) rfl dX0_readValues_123 ?_
                  refine lv_iload_n hx hb dX0_readValues_126 rfl (lv_at hl 6 rfl) ?_
                  refine z_iald (v := (-1 : Int32)) hx hb hK.1 hP 2 0 rfl rfl (k := n) (by omega) (by decide) (by show upd u2 n _ n = _; unfold upd; rw [if_pos rfl]) dX0_readValues_127 ?_
                  refine lv_iconst (v := (-1 : Int32)) hx hb dX0_readValues_128 (by decide) ?_
                  refine lv_icmp_ne (tgt := 136) hx hb dX0_readValues_129 (by decide) (fun cb8 => ?_) (fun cb8 => ?_)
                  · skip
                    exact absurd rfl cb8
                  · skip
                    refine lv_iconst (v := nI 1) hx hb dX0_readValues_132 (by decide) ?_
                    refine lv_goto (tgt := 137) hx hb dX0_readValues_133 (by decide) ?_
                    refine z_zast (g := upd u3 n (nI 1)) hx hb hK.1 hP hD hS 3 1 rfl rfl (k := n) (by omega) (by decide) (by decide) (fun _ _ => rfl) dX0_readValues_137 (fun H locs hP hD hS => ?_)
                    have hP : va_P D vwCl [(A, .inr (0, [.ref g, .ref q, .ref P, .ref e1, .ref e2, .ref e3, .int am])), (e1, .inl (cy.1, 12, .inl (upd u1 n (nI key)))), (e2, .inl (cy.1, 12, .inl (upd u2 n ((-1 : Int32))))), (e3, .inl (cy.2.1, 12, .inl (upd u3 n (nI 1)))), (q, .inr (3, [.ref a, .ref b, .int ty, .int (nI nn)])), (a, .inl (cy.1, 12, .inl ab)), (b, .inl (cy.1, 12, .inl (fun z => nI (sl z)))), (P, .inr (2, [.ref g, .ref q, .ref p1, .ref p2, .ref p3, .ref p4, .int cnt, .int ln, .int kn, .int th])), (p4, .inl (cy.1, 12, .inl svA)), (g, .inr (1, [.ref a1, .ref a2, .ref a3, .ref a4, .ref a5, .int fa])), (a5, .inl (cy.1, 640, .inl (fun z => vl (z / 20) (z % 20))))] H := hP
                    have hD : va_D (zIn [(A, .inr (0, [.ref g, .ref q, .ref P, .ref e1, .ref e2, .ref e3, .int am])), (e1, .inl (cy.1, 12, .inl enA)), (e2, .inl (cy.1, 12, .inl vaA)), (e3, .inl (cy.2.1, 12, .inl miA)), (q, .inr (3, [.ref a, .ref b, .int ty, .int (nI nn)])), (a, .inl (cy.1, 12, .inl ab)), (b, .inl (cy.1, 12, .inl (fun z => nI (sl z)))), (P, .inr (2, [.ref g, .ref q, .ref p1, .ref p2, .ref p3, .ref p4, .int cnt, .int ln, .int kn, .int th])), (p4, .inl (cy.1, 12, .inl svA)), (g, .inr (1, [.ref a1, .ref a2, .ref a3, .ref a4, .ref a5, .int fa])), (a5, .inl (cy.1, 640, .inl (fun z => vl (z / 20) (z % 20))))]) [(A, .inr (0, [.ref g, .ref q, .ref P, .ref e1, .ref e2, .ref e3, .int am])), (e1, .inl (cy.1, 12, .inl (upd u1 n (nI key)))), (e2, .inl (cy.1, 12, .inl (upd u2 n ((-1 : Int32))))), (e3, .inl (cy.2.1, 12, .inl (upd u3 n (nI 1)))), (q, .inr (3, [.ref a, .ref b, .int ty, .int (nI nn)])), (a, .inl (cy.1, 12, .inl ab)), (b, .inl (cy.1, 12, .inl (fun z => nI (sl z)))), (P, .inr (2, [.ref g, .ref q, .ref p1, .ref p2, .ref p3, .ref p4, .int cnt, .int ln, .int kn, .int th])), (p4, .inl (cy.1, 12, .inl svA)), (g, .inr (1, [.ref a1, .ref a2, .ref a3, .ref a4, .ref a5, .int fa])), (a5, .inl (cy.1, 640, .inl (fun z => vl (z / 20) (z % 20))))] := hD
                    refine lv_iinc (v := nI (n + 1)) (lv' := [(3, .int (nI (n + 1))), (6, .int (nI 1)), (5, .int (nI key)), (4, .int ((-1 : Int32))), (0, .ref A), (1, .int (nI key)), (2, .int (nI fl))]) hx hb dX0_readValues_138 hl (k := 6) rfl (z_inc _) (by decide) rfl (fun ls hl => ?_)
                    refine lv_goto (tgt := 2) hx hb dX0_readValues_141 (by decide) ?_
                    exact ih_lo (n + 1) (upd u1 n (nI key)) (upd u2 n (-1 : Int32)) (upd u3 n (nI 1)) (by omega) (by omega) (lt_s (fun k hk => by unfold upd; rw [if_neg (by omega), if_neg (by omega), if_neg (by omega)]; exact hcp k hk) (by unfold upd; rw [if_pos rfl, if_pos rfl, if_pos rfl]; exact ⟨hent.symm, hval.symm, by rw [hval]; exact (bI_yes rfl)⟩)) _ _ _ hP hD hS (lv_sub hl [4, 5, 6, 0] rfl)
            · have cb3 : ¬ (0 = 0) := zn_eq_f (a := 0) (b := 0) (by omega) (by omega) cb3
              exact absurd cb3 (by decide)
          · skip
            refine lv_aload_n hx hb dX0_readValues_19 rfl (lv_at hl 0 rfl) ?_
            refine va_get (D := D) (ci := 0) (v := .ref q) (C := RX0) (T := TX0) (N := 7) hx hb hts in_wsX0_readValues_X0 hown hK.1 hP 0 rfl rfl 1 (by decide) (hts _ lk135_wsX0_readValues) (fun _ h9 => h9) rfl dX0_readValues_20 ?_
            refine lv_iload_n hx hb dX0_readValues_23 rfl (lv_at hl 3 rfl) ?_
            refine z_callV (b := q) (As := [.int (nI n)]) (rest := []) ⟨hx, hb, hml, hown, hts⟩ hK hP hS (c_X3_aboveOf (i := 4) (j := 5) rfl rfl hn (z := n) (by omega)) (cwV 1 hts gX0_readValues_X3_aboveOf rfl rfl rfl k_yX3_aboveOf ⟨Nat.le_of_ble_eq_true rfl, Nat.le_of_ble_eq_true rfl⟩) 4 3 rfl rfl rfl rfl hl.1 rfl rfl dX0_readValues_24 ⟨Nat.le_of_ble_eq_true rfl, Nat.le_of_ble_eq_true rfl⟩ (fun H locs hP hS => ?_)
            refine z_top (y := nI r) hpl ?_
            refine lv_istore (lv' := [(4, .int (nI r)), (0, .ref A), (1, .int (nI key)), (2, .int (nI fl)), (3, .int (nI n))]) hx hb dX0_readValues_27 hl (by decide) rfl (fun ls hl => ?_)
            refine lv_aload_n hx hb dX0_readValues_29 rfl (lv_at hl 1 rfl) ?_
            refine va_get (D := D) (ci := 0) (v := .ref q) (C := RX0) (T := TX0) (N := 7) hx hb hts in_wsX0_readValues_X0 hown hK.1 hP 0 rfl rfl 1 (by decide) (hts _ lk135_wsX0_readValues) (fun _ h9 => h9) rfl dX0_readValues_30 ?_
            refine lv_iload hx hb dX0_readValues_33 (lv_at hl 0 rfl) ?_
            refine z_callV (b := q) (As := [.int (nI r)]) (rest := []) ⟨hx, hb, hml, hown, hts⟩ hK hP hS (c_X3_has_in (i := 4) rfl hn (k := r) (by omega)) (cwV 1 hts gX0_readValues_X3_has rfl rfl rfl k_yX3_has ⟨Nat.le_of_ble_eq_true rfl, Nat.le_of_ble_eq_true rfl⟩) 4 3 rfl rfl rfl rfl hl.1 rfl rfl dX0_readValues_35 ⟨Nat.le_of_ble_eq_true rfl, Nat.le_of_ble_eq_true rfl⟩ (fun H locs hP hS => ?_)
            refine lv_if_eq (tgt := 51) hx hb dX0_readValues_38 (by decide) (fun cb9 => ?_) (fun cb9 => ?_)
            · have cb9 : 1 = 0 := zn_eq_t (a := 1) (b := 0) (by omega) (by omega) cb9
              exact absurd cb9 (by decide)
            · have cb9 : ¬ (1 = 0) := zn_eq_f (a := 1) (b := 0) (by omega) (by omega) cb9
              refine lv_aload_n hx hb dX0_readValues_41 rfl (lv_at hl 1 rfl) ?_
              refine va_get (D := D) (ci := 0) (v := .ref e2) (C := RX0) (T := TX0) (N := 7) hx hb hts in_wsX0_readValues_X0 hown hK.1 hP 0 rfl rfl 4 (by decide) (hts _ lk141_wsX0_readValues) (fun _ h9 => h9) rfl dX0_readValues_42 ?_
              refine lv_iload hx hb dX0_readValues_45 (lv_at hl 0 rfl) ?_
              refine z_iald (v := (aRV ab sl sv vl fl key r)) hx hb hK.1 hP 2 0 rfl rfl (k := r) (by omega) (by decide) (hcp r hrn).2.1 dX0_readValues_47 ?_
              refine lv_goto (tgt := 52) hx hb dX0_readValues_48 (by decide) ?_
              refine lv_istore (lv' := [(5, .int ((aRV ab sl sv vl fl key r))), (4, .int (nI r)), (0, .ref A), (1, .int (nI key)), (2, .int (nI fl)), (3, .int (nI n))]) hx hb dX0_readValues_52 hl (by decide) rfl (fun ls hl => ?_)
              have hent : aEN ab sl sv vl fl key n = aRV ab sl sv vl fl key r := aEN_at (by omega) hpl
              refine lv_iload_n hx hb dX0_readValues_54 rfl (lv_at hl 4 rfl) ?_
              refine lv_aload_n hx hb dX0_readValues_55 rfl (lv_at hl 2 rfl) ?_
              refine va_get (D := D) (ci := 0) (v := .ref P) (C := RX0) (T := TX0) (N := 7) hx hb hts in_wsX0_readValues_X0 hown hK.1 hP 0 rfl rfl 2 (by decide) (hts _ lk137_wsX0_readValues) (fun _ h9 => h9) rfl dX0_readValues_56 ?_
              refine lv_iload_n hx hb dX0_readValues_59 rfl (lv_at hl 5 rfl) ?_
              refine z_callV (b := P) (As := [.int (nI n)]) (rest := [.int (nI fl)]) ⟨hx, hb, hml, hown, hts⟩ hK hP hS (c_X2_serviceOf (i := 7) (i4 := 8) (iq := 4) rfl rfl rfl hn (k := n) (by omega)) (cwV 1 hts gX0_readValues_X2_serviceOf rfl rfl rfl k_yX2_serviceOf ⟨Nat.le_of_ble_eq_true rfl, Nat.le_of_ble_eq_true rfl⟩) 7 2 rfl rfl rfl rfl hl.1 rfl rfl dX0_readValues_60 ⟨Nat.le_of_ble_eq_true rfl, Nat.le_of_ble_eq_true rfl⟩ (fun H locs hP hS => ?_)
              refine z_top (y := nI (sv n)) hsv1 ?_
              refine z_callSN (As := [.int (nI (sv n))]) (rest := [.int (nI fl)]) ⟨hx, hb, hml, hown, hts⟩ hK hP hS (c_X4_bit (k := sv n) (by omega)) ⟨va_cnB 1 hts gX0_readValues_X4_bit_n74 rfl rfl rfl hK.2.2.2.2.2.2.2 (hts _ lk138_wsX0_readValues) k_yX4_bit ⟨Nat.le_of_ble_eq_true rfl, Nat.le_of_ble_eq_true rfl⟩, hts _ lk139_wsX0_readValues, trivial⟩ rfl hl.1 rfl rfl dX0_readValues_63 ⟨Nat.le_of_ble_eq_true rfl, Nat.le_of_ble_eq_true rfl⟩ (fun H locs hP hS => ?_)
              refine lv_iand hx hb dX0_readValues_66 ?_
              refine z_top (y := (nI fl &&& nI (2 ^ sv n))) rfl ?_
              refine lv_if_eq (tgt := 74) hx hb dX0_readValues_67 (by decide) (fun cb10 => ?_) (fun cb10 => ?_)
              · skip
                have hbt := z_bitF _ hfl _ hsv4 cb10
                refine lv_iconst (v := nI 0) hx hb dX0_readValues_74 (by decide) ?_
                refine lv_istore (lv' := [(6, .int (nI 0)), (5, .int ((aRV ab sl sv vl fl key r))), (4, .int (nI r)), (0, .ref A), (1, .int (nI key)), (2, .int (nI fl)), (3, .int (nI n))]) hx hb dX0_readValues_75 hl (by decide) rfl (fun ls hl => ?_)
                refine lv_aload_n hx hb dX0_readValues_77 rfl (lv_at hl 3 rfl) ?_
                refine va_get (D := D) (ci := 0) (v := .ref e1) (C := RX0) (T := TX0) (N := 7) hx hb hts in_wsX0_readValues_X0 hown hK.1 hP 0 rfl rfl 3 (by decide) (hts _ lk140_wsX0_readValues) (fun _ h9 => h9) rfl dX0_readValues_78 ?_
                refine lv_iload_n hx hb dX0_readValues_81 rfl (lv_at hl 6 rfl) ?_
                refine lv_iload hx hb dX0_readValues_82 (lv_at hl 1 rfl) ?_
                refine z_iast (g := upd u1 n ((aRV ab sl sv vl fl key r))) hx hb hK.1 hP hD hS 1 0 rfl rfl (k := n) (by omega) (by decide) (fun _ _ => rfl) dX0_readValues_84 (fun H locs hP hD hS => ?_)
                have hP : va_P D vwCl [(A, .inr (0, [.ref g, .ref q, .ref P, .ref e1, .ref e2, .ref e3, .int am])), (e1, .inl (cy.1, 12, .inl (upd u1 n ((aRV ab sl sv vl fl key r))))), (e2, .inl (cy.1, 12, .inl u2)), (e3, .inl (cy.2.1, 12, .inl u3)), (q, .inr (3, [.ref a, .ref b, .int ty, .int (nI nn)])), (a, .inl (cy.1, 12, .inl ab)), (b, .inl (cy.1, 12, .inl (fun z => nI (sl z)))), (P, .inr (2, [.ref g, .ref q, .ref p1, .ref p2, .ref p3, .ref p4, .int cnt, .int ln, .int kn, .int th])), (p4, .inl (cy.1, 12, .inl svA)), (g, .inr (1, [.ref a1, .ref a2, .ref a3, .ref a4, .ref a5, .int fa])), (a5, .inl (cy.1, 640, .inl (fun z => vl (z / 20) (z % 20))))] H := hP
                have hD : va_D (zIn [(A, .inr (0, [.ref g, .ref q, .ref P, .ref e1, .ref e2, .ref e3, .int am])), (e1, .inl (cy.1, 12, .inl enA)), (e2, .inl (cy.1, 12, .inl vaA)), (e3, .inl (cy.2.1, 12, .inl miA)), (q, .inr (3, [.ref a, .ref b, .int ty, .int (nI nn)])), (a, .inl (cy.1, 12, .inl ab)), (b, .inl (cy.1, 12, .inl (fun z => nI (sl z)))), (P, .inr (2, [.ref g, .ref q, .ref p1, .ref p2, .ref p3, .ref p4, .int cnt, .int ln, .int kn, .int th])), (p4, .inl (cy.1, 12, .inl svA)), (g, .inr (1, [.ref a1, .ref a2, .ref a3, .ref a4, .ref a5, .int fa])), (a5, .inl (cy.1, 640, .inl (fun z => vl (z / 20) (z % 20))))]) [(A, .inr (0, [.ref g, .ref q, .ref P, .ref e1, .ref e2, .ref e3, .int am])), (e1, .inl (cy.1, 12, .inl (upd u1 n ((aRV ab sl sv vl fl key r))))), (e2, .inl (cy.1, 12, .inl u2)), (e3, .inl (cy.2.1, 12, .inl u3)), (q, .inr (3, [.ref a, .ref b, .int ty, .int (nI nn)])), (a, .inl (cy.1, 12, .inl ab)), (b, .inl (cy.1, 12, .inl (fun z => nI (sl z)))), (P, .inr (2, [.ref g, .ref q, .ref p1, .ref p2, .ref p3, .ref p4, .int cnt, .int ln, .int kn, .int th])), (p4, .inl (cy.1, 12, .inl svA)), (g, .inr (1, [.ref a1, .ref a2, .ref a3, .ref a4, .ref a5, .int fa])), (a5, .inl (cy.1, 640, .inl (fun z => vl (z / 20) (z % 20))))] := hD
                refine lv_aload_n hx hb dX0_readValues_85 rfl (lv_at hl 3 rfl) ?_
                refine va_get (D := D) (ci := 0) (v := .ref e2) (C := RX0) (T := TX0) (N := 7) hx hb hts in_wsX0_readValues_X0 hown hK.1 hP 0 rfl rfl 4 (by decide) (hts _ lk141_wsX0_readValues) (fun _ h9 => h9) rfl dX0_readValues_86 ?_
                refine lv_iload_n hx hb dX0_readValues_89 rfl (lv_at hl 6 rfl) ?_
                refine lv_iload hx hb dX0_readValues_90 (lv_at hl 0 rfl) ?_
                refine lv_if_eq (tgt := 99) hx hb dX0_readValues_92 (by decide) (fun cb11 => ?_) (fun cb11 => ?_)
                · have cb11 : 0 = 0 := zn_eq_t (a := 0) (b := 0) (by omega) (by omega) cb11
                  refine lv_aload_n hx hb dX0_readValues_99 rfl (lv_at hl 3 rfl) ?_
                  refine va_get (D := D) (ci := 0) (v := .ref g) (C := RX0) (T := TX0) (N := 7) hx hb hts in_wsX0_readValues_X0 hown hK.1 hP 0 rfl rfl 0 (by decide) (hts _ lk142_wsX0_readValues) (fun _ h9 => h9) rfl dX0_readValues_100 ?_
                  refine lv_aload_n hx hb dX0_readValues_103 rfl (lv_at hl 3 rfl) ?_
                  refine va_get (D := D) (ci := 0) (v := .ref q) (C := RX0) (T := TX0) (N := 7) hx hb hts in_wsX0_readValues_X0 hown hK.1 hP 0 rfl rfl 1 (by decide) (hts _ lk135_wsX0_readValues) (fun _ h9 => h9) rfl dX0_readValues_104 ?_
                  refine lv_iload_n hx hb dX0_readValues_107 rfl (lv_at hl 6 rfl) ?_
                  refine z_callV (b := q) (As := [.int (nI n)]) (rest := [.ref g, .int (nI n), .ref e2]) ⟨hx, hb, hml, hown, hts⟩ hK hP hS (c_X3_slotAt (i := 4) (j := 6) rfl rfl hn (z := n) (by omega)) (cwV 1 hts gX0_readValues_X3_slotAt rfl rfl rfl k_yX3_slotAt ⟨Nat.le_of_ble_eq_true rfl, Nat.le_of_ble_eq_true rfl⟩) 4 3 rfl rfl rfl rfl hl.1 rfl rfl dX0_readValues_108 ⟨Nat.le_of_ble_eq_true rfl, Nat.le_of_ble_eq_true rfl⟩ (fun H locs hP hS => ?_)
                  refine lv_iload hx hb dX0_readValues_111 (lv_at hl 1 rfl) ?_
                  refine z_callV (b := g) (As := [.int (nI (sl n)), .int ((aRV ab sl sv vl fl key r))]) (rest := [.int (nI n), .ref e2]) ⟨hx, hb, hml, hown, hts⟩ hK hP hS (c_X1_valueOf_o (i := 9) (j := 10) rfl rfl (t := sl n) (x := (aRV ab sl sv vl fl key r)) (hQ n (by omega)).1 (hent ▸ hrng)) (cwV 2 hts gX0_readValues_X1_valueOf rfl rfl rfl k_yX1_valueOf ⟨Nat.le_of_ble_eq_true rfl, Nat.le_of_ble_eq_true rfl⟩) 9 1 rfl rfl rfl rfl hl.1 rfl rfl dX0_readValues_113 ⟨Nat.le_of_ble_eq_true rfl, Nat.le_of_ble_eq_true rfl⟩ (fun H locs hP hS => ?_)
                  have hval : aRV ab sl sv vl fl key n = (zVl vl (sl n) (aRV ab sl sv vl fl key r)) := by rw [hstep, hbt, hent]; rfl
                  refine z_iast (g := upd u2 n ((zVl vl (sl n) ((aRV ab sl sv vl fl key r))))) hx hb hK.1 hP hD hS 2 0 rfl rfl (k := n) (by omega) (by decide) (fun _ _ => rfl) dX0_readValues_116 (fun H locs hP hD hS => ?_)
                  have hP : va_P D vwCl [(A, .inr (0, [.ref g, .ref q, .ref P, .ref e1, .ref e2, .ref e3, .int am])), (e1, .inl (cy.1, 12, .inl (upd u1 n ((aRV ab sl sv vl fl key r))))), (e2, .inl (cy.1, 12, .inl (upd u2 n ((zVl vl (sl n) ((aRV ab sl sv vl fl key r))))))), (e3, .inl (cy.2.1, 12, .inl u3)), (q, .inr (3, [.ref a, .ref b, .int ty, .int (nI nn)])), (a, .inl (cy.1, 12, .inl ab)), (b, .inl (cy.1, 12, .inl (fun z => nI (sl z)))), (P, .inr (2, [.ref g, .ref q, .ref p1, .ref p2, .ref p3, .ref p4, .int cnt, .int ln, .int kn, .int th])), (p4, .inl (cy.1, 12, .inl svA)), (g, .inr (1, [.ref a1, .ref a2, .ref a3, .ref a4, .ref a5, .int fa])), (a5, .inl (cy.1, 640, .inl (fun z => vl (z / 20) (z % 20))))] H := hP
                  have hD : va_D (zIn [(A, .inr (0, [.ref g, .ref q, .ref P, .ref e1, .ref e2, .ref e3, .int am])), (e1, .inl (cy.1, 12, .inl enA)), (e2, .inl (cy.1, 12, .inl vaA)), (e3, .inl (cy.2.1, 12, .inl miA)), (q, .inr (3, [.ref a, .ref b, .int ty, .int (nI nn)])), (a, .inl (cy.1, 12, .inl ab)), (b, .inl (cy.1, 12, .inl (fun z => nI (sl z)))), (P, .inr (2, [.ref g, .ref q, .ref p1, .ref p2, .ref p3, .ref p4, .int cnt, .int ln, .int kn, .int th])), (p4, .inl (cy.1, 12, .inl svA)), (g, .inr (1, [.ref a1, .ref a2, .ref a3, .ref a4, .ref a5, .int fa])), (a5, .inl (cy.1, 640, .inl (fun z => vl (z / 20) (z % 20))))]) [(A, .inr (0, [.ref g, .ref q, .ref P, .ref e1, .ref e2, .ref e3, .int am])), (e1, .inl (cy.1, 12, .inl (upd u1 n ((aRV ab sl sv vl fl key r))))), (e2, .inl (cy.1, 12, .inl (upd u2 n ((zVl vl (sl n) ((aRV ab sl sv vl fl key r))))))), (e3, .inl (cy.2.1, 12, .inl u3)), (q, .inr (3, [.ref a, .ref b, .int ty, .int (nI nn)])), (a, .inl (cy.1, 12, .inl ab)), (b, .inl (cy.1, 12, .inl (fun z => nI (sl z)))), (P, .inr (2, [.ref g, .ref q, .ref p1, .ref p2, .ref p3, .ref p4, .int cnt, .int ln, .int kn, .int th])), (p4, .inl (cy.1, 12, .inl svA)), (g, .inr (1, [.ref a1, .ref a2, .ref a3, .ref a4, .ref a5, .int fa])), (a5, .inl (cy.1, 640, .inl (fun z => vl (z / 20) (z % 20))))] := hD
                  refine lv_aload_n hx hb dX0_readValues_117 rfl (lv_at hl 3 rfl) ?_
                  refine va_get (D := D) (ci := 0) (v := .ref e3) (C := RX0) (T := TX0) (N := 7) hx hb hts in_wsX0_readValues_X0 hown hK.1 hP 0 rfl rfl 5 (by decide) (hts _ lk143_wsX0_readValues) (fun _ h9 => h9) rfl dX0_readValues_118 ?_
                  refine lv_iload_n hx hb dX0_readValues_121 rfl (lv_at hl 6 rfl) ?_
                  refine lv_aload_n hx hb dX0_readValues_122 rfl (lv_at hl 3 rfl) ?_
                  refine va_get (D := D) (ci := 0) (v := .ref e2) (C := RX0) (T := TX0) (N := 7) hx hb hts in_wsX0_readValues_X0 hown hK.1 hP 0 rfl rfl 4 (by decide) (hts _ lk141_wsX0_readValues) (fun _ h9 => h9) rfl dX0_readValues_123 ?_
                  refine lv_iload_n hx hb dX0_readValues_126 rfl (lv_at hl 6 rfl) ?_
                  refine z_iald (v := (zVl vl (sl n) (aRV ab sl sv vl fl key r))) hx hb hK.1 hP 2 0 rfl rfl (k := n) (by omega) (by decide) (by show upd u2 n _ n = _; unfold upd; rw [if_pos rfl]) dX0_readValues_127 ?_
                  refine lv_iconst (v := (-1 : Int32)) hx hb dX0_readValues_128 (by decide) ?_
                  refine lv_icmp_ne (tgt := 136) hx hb dX0_readValues_129 (by decide) (fun cb12 => ?_) (fun cb12 => ?_)
                  · skip
                    refine lv_iconst (v := nI 0) hx hb dX0_readValues_136 (by decide) ?_
                    refine z_zast (g := upd u3 n (nI 0)) hx hb hK.1 hP hD hS 3 1 rfl rfl (k := n) (by omega) (by decide) (by decide) (fun _ _ => rfl) dX0_readValues_137 (fun H locs hP hD hS => ?_)
                    have hP : va_P D vwCl [(A, .inr (0, [.ref g, .ref q, .ref P, .ref e1, .ref e2, .ref e3, .int am])), (e1, .inl (cy.1, 12, .inl (upd u1 n ((aRV ab sl sv vl fl key r))))), (e2, .inl (cy.1, 12, .inl (upd u2 n ((zVl vl (sl n) ((aRV ab sl sv vl fl key r))))))), (e3, .inl (cy.2.1, 12, .inl (upd u3 n (nI 0)))), (q, .inr (3, [.ref a, .ref b, .int ty, .int (nI nn)])), (a, .inl (cy.1, 12, .inl ab)), (b, .inl (cy.1, 12, .inl (fun z => nI (sl z)))), (P, .inr (2, [.ref g, .ref q, .ref p1, .ref p2, .ref p3, .ref p4, .int cnt, .int ln, .int kn, .int th])), (p4, .inl (cy.1, 12, .inl svA)), (g, .inr (1, [.ref a1, .ref a2, .ref a3, .ref a4, .ref a5, .int fa])), (a5, .inl (cy.1, 640, .inl (fun z => vl (z / 20) (z % 20))))] H := hP
                    have hD : va_D (zIn [(A, .inr (0, [.ref g, .ref q, .ref P, .ref e1, .ref e2, .ref e3, .int am])), (e1, .inl (cy.1, 12, .inl enA)), (e2, .inl (cy.1, 12, .inl vaA)), (e3, .inl (cy.2.1, 12, .inl miA)), (q, .inr (3, [.ref a, .ref b, .int ty, .int (nI nn)])), (a, .inl (cy.1, 12, .inl ab)), (b, .inl (cy.1, 12, .inl (fun z => nI (sl z)))), (P, .inr (2, [.ref g, .ref q, .ref p1, .ref p2, .ref p3, .ref p4, .int cnt, .int ln, .int kn, .int th])), (p4, .inl (cy.1, 12, .inl svA)), (g, .inr (1, [.ref a1, .ref a2, .ref a3, .ref a4, .ref a5, .int fa])), (a5, .inl (cy.1, 640, .inl (fun z => vl (z / 20) (z % 20))))]) [(A, .inr (0, [.ref g, .ref q, .ref P, .ref e1, .ref e2, .ref e3, .int am])), (e1, .inl (cy.1, 12, .inl (upd u1 n ((aRV ab sl sv vl fl key r))))), (e2, .inl (cy.1, 12, .inl (upd u2 n ((zVl vl (sl n) ((aRV ab sl sv vl fl key r))))))), (e3, .inl (cy.2.1, 12, .inl (upd u3 n (nI 0)))), (q, .inr (3, [.ref a, .ref b, .int ty, .int (nI nn)])), (a, .inl (cy.1, 12, .inl ab)), (b, .inl (cy.1, 12, .inl (fun z => nI (sl z)))), (P, .inr (2, [.ref g, .ref q, .ref p1, .ref p2, .ref p3, .ref p4, .int cnt, .int ln, .int kn, .int th])), (p4, .inl (cy.1, 12, .inl svA)), (g, .inr (1, [.ref a1, .ref a2, .ref a3, .ref a4, .ref a5, .int fa])), (a5, .inl (cy.1, 640, .inl (fun z => vl (z / 20) (z % 20))))] := hD
                    refine lv_iinc (v := nI (n + 1)) (lv' := [(3, .int (nI (n + 1))), (6, .int (nI 0)), (5, .int ((aRV ab sl sv vl fl key r))), (4, .int (nI r)), (0, .ref A), (1, .int (nI key)), (2, .int (nI fl))]) hx hb dX0_readValues_138 hl (k := 6) rfl (z_inc _) (by decide) rfl (fun ls hl => ?_)
                    refine lv_goto (tgt := 2) hx hb dX0_readValues_141 (by decide) ?_
                    exact ih_lo (n + 1) (upd u1 n (aRV ab sl sv vl fl key r)) (upd u2 n (zVl vl (sl n) (aRV ab sl sv vl fl key r))) (upd u3 n (nI 0)) (by omega) (by omega) (lt_s (fun k hk => by unfold upd; rw [if_neg (by omega), if_neg (by omega), if_neg (by omega)]; exact hcp k hk) (by unfold upd; rw [if_pos rfl, if_pos rfl, if_pos rfl]; exact ⟨hent.symm, hval.symm, by rw [hval]; exact (bI_no cb12)⟩)) _ _ _ hP hD hS (lv_sub hl [4, 5, 6, 0] rfl)
                  · skip
                    refine lv_iconst (v := nI 1) hx hb dX0_readValues_132 (by decide) ?_
                    refine lv_goto (tgt := 137) hx hb dX0_readValues_133 (by decide) ?_
                    refine z_zast (g := upd u3 n (nI 1)) hx hb hK.1 hP hD hS 3 1 rfl rfl (k := n) (by omega) (by decide) (by decide) (fun _ _ => rfl) dX0_readValues_137 (fun H locs hP hD hS => ?_)
                    have hP : va_P D vwCl [(A, .inr (0, [.ref g, .ref q, .ref P, .ref e1, .ref e2, .ref e3, .int am])), (e1, .inl (cy.1, 12, .inl (upd u1 n ((aRV ab sl sv vl fl key r))))), (e2, .inl (cy.1, 12, .inl (upd u2 n ((zVl vl (sl n) ((aRV ab sl sv vl fl key r))))))), (e3, .inl (cy.2.1, 12, .inl (upd u3 n (nI 1)))), (q, .inr (3, [.ref a, .ref b, .int ty, .int (nI nn)])), (a, .inl (cy.1, 12, .inl ab)), (b, .inl (cy.1, 12, .inl (fun z => nI (sl z)))), (P, .inr (2, [.ref g, .ref q, .ref p1, .ref p2, .ref p3, .ref p4, .int cnt, .int ln, .int kn, .int th])), (p4, .inl (cy.1, 12, .inl svA)), (g, .inr (1, [.ref a1, .ref a2, .ref a3, .ref a4, .ref a5, .int fa])), (a5, .inl (cy.1, 640, .inl (fun z => vl (z / 20) (z % 20))))] H := hP
                    have hD : va_D (zIn [(A, .inr (0, [.ref g, .ref q, .ref P, .ref e1, .ref e2, .ref e3, .int am])), (e1, .inl (cy.1, 12, .inl enA)), (e2, .inl (cy.1, 12, .inl vaA)), (e3, .inl (cy.2.1, 12, .inl miA)), (q, .inr (3, [.ref a, .ref b, .int ty, .int (nI nn)])), (a, .inl (cy.1, 12, .inl ab)), (b, .inl (cy.1, 12, .inl (fun z => nI (sl z)))), (P, .inr (2, [.ref g, .ref q, .ref p1, .ref p2, .ref p3, .ref p4, .int cnt, .int ln, .int kn, .int th])), (p4, .inl (cy.1, 12, .inl svA)), (g, .inr (1, [.ref a1, .ref a2, .ref a3, .ref a4, .ref a5, .int fa])), (a5, .inl (cy.1, 640, .inl (fun z => vl (z / 20) (z % 20))))]) [(A, .inr (0, [.ref g, .ref q, .ref P, .ref e1, .ref e2, .ref e3, .int am])), (e1, .inl (cy.1, 12, .inl (upd u1 n ((aRV ab sl sv vl fl key r))))), (e2, .inl (cy.1, 12, .inl (upd u2 n ((zVl vl (sl n) ((aRV ab sl sv vl fl key r))))))), (e3, .inl (cy.2.1, 12, .inl (upd u3 n (nI 1)))), (q, .inr (3, [.ref a, .ref b, .int ty, .int (nI nn)])), (a, .inl (cy.1, 12, .inl ab)), (b, .inl (cy.1, 12, .inl (fun z => nI (sl z)))), (P, .inr (2, [.ref g, .ref q, .ref p1, .ref p2, .ref p3, .ref p4, .int cnt, .int ln, .int kn, .int th])), (p4, .inl (cy.1, 12, .inl svA)), (g, .inr (1, [.ref a1, .ref a2, .ref a3, .ref a4, .ref a5, .int fa])), (a5, .inl (cy.1, 640, .inl (fun z => vl (z / 20) (z % 20))))] := hD
                    refine lv_iinc (v := nI (n + 1)) (lv' := [(3, .int (nI (n + 1))), (6, .int (nI 0)), (5, .int ((aRV ab sl sv vl fl key r))), (4, .int (nI r)), (0, .ref A), (1, .int (nI key)), (2, .int (nI fl))]) hx hb dX0_readValues_138 hl (k := 6) rfl (z_inc _) (by decide) rfl (fun ls hl => ?_)
                    refine lv_goto (tgt := 2) hx hb dX0_readValues_141 (by decide) ?_
                    exact ih_lo (n + 1) (upd u1 n (aRV ab sl sv vl fl key r)) (upd u2 n (zVl vl (sl n) (aRV ab sl sv vl fl key r))) (upd u3 n (nI 1)) (by omega) (by omega) (lt_s (fun k hk => by unfold upd; rw [if_neg (by omega), if_neg (by omega), if_neg (by omega)]; exact hcp k hk) (by unfold upd; rw [if_pos rfl, if_pos rfl, if_pos rfl]; exact ⟨hent.symm, hval.symm, by rw [hval]; exact (bI_yes cb12)⟩)) _ _ _ hP hD hS (lv_sub hl [4, 5, 6, 0] rfl)
                · have cb11 : ¬ (0 = 0) := zn_eq_f (a := 0) (b := 0) (by omega) (by omega) cb11
                  exact absurd cb11 (by decide)
              · skip
                have hbt := z_bitT _ hfl _ hsv4 cb10
                refine lv_iconst (v := nI 1) hx hb dX0_readValues_70 (by decide) ?_
                refine lv_goto (tgt := 75) hx hb dX0_readValues_71 (by decide) ?_
                refine lv_istore (lv' := [(6, .int (nI 1)), (5, .int ((aRV ab sl sv vl fl key r))), (4, .int (nI r)), (0, .ref A), (1, .int (nI key)), (2, .int (nI fl)), (3, .int (nI n))]) hx hb dX0_readValues_75 hl (by decide) rfl (fun ls hl => ?_)
                refine lv_aload_n hx hb dX0_readValues_77 rfl (lv_at hl 3 rfl) ?_
                refine va_get (D := D) (ci := 0) (v := .ref e1) (C := RX0) (T := TX0) (N := 7) hx hb hts in_wsX0_readValues_X0 hown hK.1 hP 0 rfl rfl 3 (by decide) (hts _ lk140_wsX0_readValues) (fun _ h9 => h9) rfl dX0_readValues_78 ?_
                refine lv_iload_n hx hb dX0_readValues_81 rfl (lv_at hl 6 rfl) ?_
                refine lv_iload hx hb dX0_readValues_82 (lv_at hl 1 rfl) ?_
                refine z_iast (g := upd u1 n ((aRV ab sl sv vl fl key r))) hx hb hK.1 hP hD hS 1 0 rfl rfl (k := n) (by omega) (by decide) (fun _ _ => rfl) dX0_readValues_84 (fun H locs hP hD hS => ?_)
                have hP : va_P D vwCl [(A, .inr (0, [.ref g, .ref q, .ref P, .ref e1, .ref e2, .ref e3, .int am])), (e1, .inl (cy.1, 12, .inl (upd u1 n ((aRV ab sl sv vl fl key r))))), (e2, .inl (cy.1, 12, .inl u2)), (e3, .inl (cy.2.1, 12, .inl u3)), (q, .inr (3, [.ref a, .ref b, .int ty, .int (nI nn)])), (a, .inl (cy.1, 12, .inl ab)), (b, .inl (cy.1, 12, .inl (fun z => nI (sl z)))), (P, .inr (2, [.ref g, .ref q, .ref p1, .ref p2, .ref p3, .ref p4, .int cnt, .int ln, .int kn, .int th])), (p4, .inl (cy.1, 12, .inl svA)), (g, .inr (1, [.ref a1, .ref a2, .ref a3, .ref a4, .ref a5, .int fa])), (a5, .inl (cy.1, 640, .inl (fun z => vl (z / 20) (z % 20))))] H := hP
                have hD : va_D (zIn [(A, .inr (0, [.ref g, .ref q, .ref P, .ref e1, .ref e2, .ref e3, .int am])), (e1, .inl (cy.1, 12, .inl enA)), (e2, .inl (cy.1, 12, .inl vaA)), (e3, .inl (cy.2.1, 12, .inl miA)), (q, .inr (3, [.ref a, .ref b, .int ty, .int (nI nn)])), (a, .inl (cy.1, 12, .inl ab)), (b, .inl (cy.1, 12, .inl (fun z => nI (sl z)))), (P, .inr (2, [.ref g, .ref q, .ref p1, .ref p2, .ref p3, .ref p4, .int cnt, .int ln, .int kn, .int th])), (p4, .inl (cy.1, 12, .inl svA)), (g, .inr (1, [.ref a1, .ref a2, .ref a3, .ref a4, .ref a5, .int fa])), (a5, .inl (cy.1, 640, .inl (fun z => vl (z / 20) (z % 20))))]) [(A, .inr (0, [.ref g, .ref q, .ref P, .ref e1, .ref e2, .ref e3, .int am])), (e1, .inl (cy.1, 12, .inl (upd u1 n ((aRV ab sl sv vl fl key r))))), (e2, .inl (cy.1, 12, .inl u2)), (e3, .inl (cy.2.1, 12, .inl u3)), (q, .inr (3, [.ref a, .ref b, .int ty, .int (nI nn)])), (a, .inl (cy.1, 12, .inl ab)), (b, .inl (cy.1, 12, .inl (fun z => nI (sl z)))), (P, .inr (2, [.ref g, .ref q, .ref p1, .ref p2, .ref p3, .ref p4, .int cnt, .int ln, .int kn, .int th])), (p4, .inl (cy.1, 12, .inl svA)), (g, .inr (1, [.ref a1, .ref a2, .ref a3, .ref a4, .ref a5, .int fa])), (a5, .inl (cy.1, 640, .inl (fun z => vl (z / 20) (z % 20))))] := hD
                refine lv_aload_n hx hb dX0_readValues_85 rfl (lv_at hl 3 rfl) ?_
                refine va_get (D := D) (ci := 0) (v := .ref e2) (C := RX0) (T := TX0) (N := 7) hx hb hts in_wsX0_readValues_X0 hown hK.1 hP 0 rfl rfl 4 (by decide) (hts _ lk141_wsX0_readValues) (fun _ h9 => h9) rfl dX0_readValues_86 ?_
                refine lv_iload_n hx hb dX0_readValues_89 rfl (lv_at hl 6 rfl) ?_
                refine lv_iload hx hb dX0_readValues_90 (lv_at hl 0 rfl) ?_
                refine lv_if_eq (tgt := 99) hx hb dX0_readValues_92 (by decide) (fun cb13 => ?_) (fun cb13 => ?_)
                · have cb13 : 1 = 0 := zn_eq_t (a := 1) (b := 0) (by omega) (by omega) cb13
                  exact absurd cb13 (by decide)
                · have cb13 : ¬ (1 = 0) := zn_eq_f (a := 1) (b := 0) (by omega) (by omega) cb13
                  refine lv_iconst (v := (-1 : Int32)) hx hb dX0_readValues_95 (by decide) ?_
                  refine lv_goto (tgt := 116) hx hb dX0_readValues_96 (by decide) ?_
                  have hval : aRV ab sl sv vl fl key n = -1 := by rw [hstep, hbt]; rfl
                  refine z_iast (g := upd u2 n ((-1 : Int32))) hx hb hK.1 hP hD hS 2 0 rfl rfl (k := n) (by omega) (by decide) (fun _ _ => rfl) dX0_readValues_116 (fun H locs hP hD hS => ?_)
                  have hP : va_P D vwCl [(A, .inr (0, [.ref g, .ref q, .ref P, .ref e1, .ref e2, .ref e3, .int am])), (e1, .inl (cy.1, 12, .inl (upd u1 n ((aRV ab sl sv vl fl key r))))), (e2, .inl (cy.1, 12, .inl (upd u2 n ((-1 : Int32))))), (e3, .inl (cy.2.1, 12, .inl u3)), (q, .inr (3, [.ref a, .ref b, .int ty, .int (nI nn)])), (a, .inl (cy.1, 12, .inl ab)), (b, .inl (cy.1, 12, .inl (fun z => nI (sl z)))), (P, .inr (2, [.ref g, .ref q, .ref p1, .ref p2, .ref p3, .ref p4, .int cnt, .int ln, .int kn, .int th])), (p4, .inl (cy.1, 12, .inl svA)), (g, .inr (1, [.ref a1, .ref a2, .ref a3, .ref a4, .ref a5, .int fa])), (a5, .inl (cy.1, 640, .inl (fun z => vl (z / 20) (z % 20))))] H := hP
                  have hD : va_D (zIn [(A, .inr (0, [.ref g, .ref q, .ref P, .ref e1, .ref e2, .ref e3, .int am])), (e1, .inl (cy.1, 12, .inl enA)), (e2, .inl (cy.1, 12, .inl vaA)), (e3, .inl (cy.2.1, 12, .inl miA)), (q, .inr (3, [.ref a, .ref b, .int ty, .int (nI nn)])), (a, .inl (cy.1, 12, .inl ab)), (b, .inl (cy.1, 12, .inl (fun z => nI (sl z)))), (P, .inr (2, [.ref g, .ref q, .ref p1, .ref p2, .ref p3, .ref p4, .int cnt, .int ln, .int kn, .int th])), (p4, .inl (cy.1, 12, .inl svA)), (g, .inr (1, [.ref a1, .ref a2, .ref a3, .ref a4, .ref a5, .int fa])), (a5, .inl (cy.1, 640, .inl (fun z => vl (z / 20) (z % 20))))]) [(A, .inr (0, [.ref g, .ref q, .ref P, .ref e1, .ref e2, .ref e3, .int am])), (e1, .inl (cy.1, 12, .inl (upd u1 n ((aRV ab sl sv vl fl key r))))), (e2, .inl (cy.1, 12, .inl (upd u2 n ((-1 : Int32))))), (e3, .inl (cy.2.1, 12, .inl u3)), (q, .inr (3, [.ref a, .ref b, .int ty, .int (nI nn)])), (a, .inl (cy.1, 12, .inl ab)), (b, .inl (cy.1, 12, .inl (fun z => nI (sl z)))), (P, .inr (2, [.ref g, .ref q, .ref p1, .ref p2, .ref p3, .ref p4, .int cnt, .int ln, .int kn, .int th])), (p4, .inl (cy.1, 12, .inl svA)), (g, .inr (1, [.ref a1, .ref a2, .ref a3, .ref a4, .ref a5, .int fa])), (a5, .inl (cy.1, 640, .inl (fun z => vl (z / 20) (z % 20))))] := hD
                  refine lv_aload_n hx hb dX0_readValues_117 rfl (lv_at hl 3 rfl) ?_
                  refine va_get (D := D) (ci := 0) (v := .ref e3) (C := RX0) (T := TX0) (N := 7) hx hb hts in_wsX0_readValues_X0 hown hK.1 hP 0 rfl rfl 5 (by decide) (hts _ lk143_wsX0_readValues) (fun _ h9 => h9) rfl dX0_readValues_118 ?_
                  refine lv_iload_n hx hb dX0_readValues_121 rfl (lv_at hl 6 rfl) ?_
                  refine lv_aload_n hx hb dX0_readValues_122 rfl (lv_at hl 3 rfl) ?_
                  refine va_get (D := D) (ci := 0) (v := .ref e2) (C := RX0) (T := TX0) (N := 7) hx hb hts in_wsX0_readValues_X0 hown hK.1 hP 0 rfl rfl 4 (by decide) (hts _ lk141_wsX0_readValues) (fun _ h9 => h9) rfl dX0_readValues_123 ?_
                  refine lv_iload_n hx hb dX0_readValues_126 rfl (lv_at hl 6 rfl) ?_
                  refine z_iald (v := (-1 : Int32)) hx hb hK.1 hP 2 0 rfl rfl (k := n) (by omega) (by decide) (by show upd u2 n _ n = _; unfold upd; rw [if_pos rfl]) dX0_readValues_127 ?_
                  refine lv_iconst (v := (-1 : Int32)) hx hb dX0_readValues_128 (by decide) ?_
                  refine lv_icmp_ne (tgt := 136) hx hb dX0_readValues_129 (by decide) (fun cb14 => ?_) (fun cb14 => ?_)
                  · skip
                    exact absurd rfl cb14
                  · skip
                    refine lv_iconst (v := nI 1) hx hb dX0_readValues_132 (by decide) ?_
                    refine lv_goto (tgt := 137) hx hb dX0_readValues_133 (by decide) ?_
                    refine z_zast (g := upd u3 n (nI 1)) hx hb hK.1 hP hD hS 3 1 rfl rfl (k := n) (by omega) (by decide) (by decide) (fun _ _ => rfl) dX0_readValues_137 (fun H locs hP hD hS => ?_)
                    have hP : va_P D vwCl [(A, .inr (0, [.ref g, .ref q, .ref P, .ref e1, .ref e2, .ref e3, .int am])), (e1, .inl (cy.1, 12, .inl (upd u1 n ((aRV ab sl sv vl fl key r))))), (e2, .inl (cy.1, 12, .inl (upd u2 n ((-1 : Int32))))), (e3, .inl (cy.2.1, 12, .inl (upd u3 n (nI 1)))), (q, .inr (3, [.ref a, .ref b, .int ty, .int (nI nn)])), (a, .inl (cy.1, 12, .inl ab)), (b, .inl (cy.1, 12, .inl (fun z => nI (sl z)))), (P, .inr (2, [.ref g, .ref q, .ref p1, .ref p2, .ref p3, .ref p4, .int cnt, .int ln, .int kn, .int th])), (p4, .inl (cy.1, 12, .inl svA)), (g, .inr (1, [.ref a1, .ref a2, .ref a3, .ref a4, .ref a5, .int fa])), (a5, .inl (cy.1, 640, .inl (fun z => vl (z / 20) (z % 20))))] H := hP
                    have hD : va_D (zIn [(A, .inr (0, [.ref g, .ref q, .ref P, .ref e1, .ref e2, .ref e3, .int am])), (e1, .inl (cy.1, 12, .inl enA)), (e2, .inl (cy.1, 12, .inl vaA)), (e3, .inl (cy.2.1, 12, .inl miA)), (q, .inr (3, [.ref a, .ref b, .int ty, .int (nI nn)])), (a, .inl (cy.1, 12, .inl ab)), (b, .inl (cy.1, 12, .inl (fun z => nI (sl z)))), (P, .inr (2, [.ref g, .ref q, .ref p1, .ref p2, .ref p3, .ref p4, .int cnt, .int ln, .int kn, .int th])), (p4, .inl (cy.1, 12, .inl svA)), (g, .inr (1, [.ref a1, .ref a2, .ref a3, .ref a4, .ref a5, .int fa])), (a5, .inl (cy.1, 640, .inl (fun z => vl (z / 20) (z % 20))))]) [(A, .inr (0, [.ref g, .ref q, .ref P, .ref e1, .ref e2, .ref e3, .int am])), (e1, .inl (cy.1, 12, .inl (upd u1 n ((aRV ab sl sv vl fl key r))))), (e2, .inl (cy.1, 12, .inl (upd u2 n ((-1 : Int32))))), (e3, .inl (cy.2.1, 12, .inl (upd u3 n (nI 1)))), (q, .inr (3, [.ref a, .ref b, .int ty, .int (nI nn)])), (a, .inl (cy.1, 12, .inl ab)), (b, .inl (cy.1, 12, .inl (fun z => nI (sl z)))), (P, .inr (2, [.ref g, .ref q, .ref p1, .ref p2, .ref p3, .ref p4, .int cnt, .int ln, .int kn, .int th])), (p4, .inl (cy.1, 12, .inl svA)), (g, .inr (1, [.ref a1, .ref a2, .ref a3, .ref a4, .ref a5, .int fa])), (a5, .inl (cy.1, 640, .inl (fun z => vl (z / 20) (z % 20))))] := hD
                    refine lv_iinc (v := nI (n + 1)) (lv' := [(3, .int (nI (n + 1))), (6, .int (nI 1)), (5, .int ((aRV ab sl sv vl fl key r))), (4, .int (nI r)), (0, .ref A), (1, .int (nI key)), (2, .int (nI fl))]) hx hb dX0_readValues_138 hl (k := 6) rfl (z_inc _) (by decide) rfl (fun ls hl => ?_)
                    refine lv_goto (tgt := 2) hx hb dX0_readValues_141 (by decide) ?_
                    exact ih_lo (n + 1) (upd u1 n (aRV ab sl sv vl fl key r)) (upd u2 n (-1 : Int32)) (upd u3 n (nI 1)) (by omega) (by omega) (lt_s (fun k hk => by unfold upd; rw [if_neg (by omega), if_neg (by omega), if_neg (by omega)]; exact hcp k hk) (by unfold upd; rw [if_pos rfl, if_pos rfl, if_pos rfl]; exact ⟨hent.symm, hval.symm, by rw [hval]; exact (bI_yes rfl)⟩)) _ _ _ hP hD hS (lv_sub hl [4, 5, 6, 0] rfl)
  exact lo (nn + 1) 0 enA vaA miA (by omega) (by omega) (fun k hk => absurd hk (by omega)) _ _ _ hP hD hS (lv_sub hl [1, 2, 3, 0] rfl)
