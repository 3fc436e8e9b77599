/-! THE ANSWERS, as mathematics -/
def zVl (vl : Nat → Nat → Int32) (t : Nat) (x : Int32) : Int32 := if x = -1 then -1 else vl t x.toNatClampNeg
def aTab (ab : Nat → Int32) (sl sv : Nat → Nat) (vl : Nat → Nat → Int32) (fl key : Nat) : Nat → Nat → Int32
  | 0 => fun _ => -1
  | n + 1 => va_up (aTab ab sl sv vl fl key n) n (if fl.testBit (sv n) then -1 else zVl vl (sl n) (if ab n = -1 then nI key else aTab ab sl sv vl fl key n (ab n).toNatClampNeg))
/-- a node's value, and the key of the entity in which it stands -/
def aRV (ab : Nat → Int32) (sl sv : Nat → Nat) (vl : Nat → Nat → Int32) (fl key n : Nat) : Int32 := aTab ab sl sv vl fl key (n + 1) n
def aEN (ab : Nat → Int32) (sl sv : Nat → Nat) (vl : Nat → Nat → Int32) (fl key n : Nat) : Int32 := if ab n = -1 then nI key else aRV ab sl sv vl fl key (ab n).toNatClampNeg
/-- who is missing for what is right below: the last node first -/
def aCl (nn : Nat) (ab : Nat → Int32) (sl : Nat → Nat) (rq : Nat → Bool) (m0 : Nat → Bool) : Nat → (Nat → Bool) × Bool
  | 0 => (m0, false)
  | d + 1 => if (aCl nn ab sl rq m0 d).1 (nn - 1 - d) && rq (sl (nn - 1 - d)) then (if ab (nn - 1 - d) = -1 then ((aCl nn ab sl rq m0 d).1, true) else (va_up (aCl nn ab sl rq m0 d).1 (ab (nn - 1 - d)).toNatClampNeg true, (aCl nn ab sl rq m0 d).2)) else aCl nn ab sl rq m0 d
/-- all below one that is missing -/
def aFl (ab : Nat → Int32) (al : Bool) (m1 : Nat → Bool) : Nat → Nat → Bool
  | 0 => m1
  | n + 1 => va_up (aFl ab al m1 n) n (aFl ab al m1 n n || al || (!decide (ab n = -1) && aFl ab al m1 n (ab n).toNatClampNeg))
def aM0 (ab : Nat → Int32) (sl sv : Nat → Nat) (vl : Nat → Nat → Int32) (fl key n : Nat) : Bool := decide (aRV ab sl sv vl fl key n = -1)
def aALL (nn : Nat) (ab : Nat → Int32) (sl : Nat → Nat) (rq : Nat → Bool) (sv : Nat → Nat) (vl : Nat → Nat → Int32) (fl key : Nat) : Bool := (aCl nn ab sl rq (aM0 ab sl sv vl fl key) nn).2
def aMIS (nn : Nat) (ab : Nat → Int32) (sl : Nat → Nat) (rq : Nat → Bool) (sv : Nat → Nat) (vl : Nat → Nat → Int32) (fl key n : Nat) : Bool := aFl ab (aALL nn ab sl rq sv vl fl key) (aCl nn ab sl rq (aM0 ab sl sv vl fl key) nn).1 nn n
def aTOLD (nn : Nat) (ab : Nat → Int32) (sl : Nat → Nat) (rq : Nat → Bool) (sv : Nat → Nat) (vl : Nat → Nat → Int32) (fl key n : Nat) : Int32 := if aMIS nn ab sl rq sv vl fl key n then -1 else aRV ab sl sv vl fl key n
/-- the query's nodes stand at the top or below an earlier one that leads to a type; the values keep their ranges -/
def zQok (nn : Nat) (ab : Nat → Int32) (sl : Nat → Nat) (ld : Nat → Int32) : Prop := ∀ n, n < nn → sl n < 32 ∧ (ab n = -1 ∨ ∃ r, r < n ∧ ab n = nI r ∧ ¬ ld (sl r) = -1)
def zVok (vl : Nat → Nat → Int32) (ld : Nat → Int32) : Prop := ∀ t, t < 32 → ∀ k, k < 20 → vl t k = -1 ∨ ∃ v, v < (if ld t = -1 then 100 else 20) ∧ vl t k = nI v
section AN
variable {nn : Nat} {ab : Nat → Int32} {sl sv : Nat → Nat} {vl : Nat → Nat → Int32} {ld : Nat → Int32} {rq : Nat → Bool} {fl key : Nat}
theorem zQok.tree (h : zQok nn ab sl ld) : zTree nn ab := fun n hn => (h n hn).2.elim Or.inl (fun ⟨r, h1, h2, _⟩ => Or.inr ⟨r, h1, h2⟩)
theorem aTab_lt : ∀ k m, m < k → aTab ab sl sv vl fl key k m = aRV ab sl sv vl fl key m
  | 0, m, h => absurd h (by omega)
  | k + 1, m, h => by
    by_cases e : m = k
    · subst e; rfl
    · show va_up _ k _ m = _
      unfold va_up
      rw [if_neg e]
      exact aTab_lt k m (by omega)
theorem aRV_step {n : Nat} (hn : n < 2 ^ 31) (h : ab n = -1 ∨ ∃ r, r < n ∧ ab n = nI r) : aRV ab sl sv vl fl key n = if fl.testBit (sv n) then -1 else zVl vl (sl n) (aEN ab sl sv vl fl key n) := by
  show va_up _ n _ n = _
  unfold va_up aEN
  rw [if_pos rfl]
  rcases h with e | ⟨r, hr, e⟩
  · rw [if_pos e, if_pos e]
  · rw [if_neg (fun z => nI_m1 (show r < 2 ^ 31 by omega) (e ▸ z)), if_neg (fun z => nI_m1 (show r < 2 ^ 31 by omega) (e ▸ z)), e, nI_clamp (by omega), aTab_lt n r hr]
theorem aEN_top {n : Nat} (e : ab n = -1) : aEN ab sl sv vl fl key n = nI key := if_pos e
theorem aEN_at {n r : Nat} (hr : r < 2 ^ 31) (e : ab n = nI r) : aEN ab sl sv vl fl key n = aRV ab sl sv vl fl key r := by
  unfold aEN
  rw [if_neg (fun z => nI_m1 hr (e ▸ z)), e, nI_clamp hr]
theorem aRng (hQ : zQok nn ab sl ld) (hV : zVok vl ld) (hnn : nn ≤ 12) (hkey : key < 20) : ∀ k n, n < k → n < nn → (aEN ab sl sv vl fl key n = -1 ∨ ∃ v, v < 20 ∧ aEN ab sl sv vl fl key n = nI v) ∧ (aRV ab sl sv vl fl key n = -1 ∨ ∃ v, v < (if ld (sl n) = -1 then 100 else 20) ∧ aRV ab sl sv vl fl key n = nI v)
  | 0, n, h, _ => absurd h (by omega)
  | k + 1, n, h, hn => by
    obtain ⟨h1, h2⟩ := hQ n hn
    have he : aEN ab sl sv vl fl key n = -1 ∨ ∃ v, v < 20 ∧ aEN ab sl sv vl fl key n = nI v := by
      rcases h2 with e | ⟨r, hr, e, hl⟩
      · exact Or.inr ⟨key, hkey, aEN_top e⟩
      · rw [aEN_at (by omega) e]
        have := (aRng hQ hV hnn hkey k r (by omega) (by omega)).2
        rw [if_neg hl] at this
        exact this
    refine ⟨he, ?_⟩
    rw [aRV_step (by omega) (h2.elim Or.inl (fun ⟨r, a, b, _⟩ => Or.inr ⟨r, a, b⟩))]
    by_cases hb : fl.testBit (sv n) = true
    · rw [if_pos hb]; exact Or.inl rfl
    · rw [if_neg hb]
      rcases he with e | ⟨v, hv, e⟩
      · rw [e]; exact Or.inl rfl
      · rw [e]
        unfold zVl
        rw [if_neg (nI_m1 (by omega)), nI_clamp (by omega)]
        exact hV (sl n) h1 v hv
end AN
theorem c_X1_valueOf_o {l : Launch} {D : va_G} {cy : zCy} {w : va_W} {i g a1 a2 a3 a4 a5 : Nat} {fa : Int32} (h : w[i]? = some (g, .inr (1, [.ref a1, .ref a2, .ref a3, .ref a4, .ref a5, .int fa]))) {j : Nat} {vl : Nat → Nat → Int32} (ha : w[j]? = some (a5, .inl (cy.1, 640, .inl (fun z => vl (z / 20) (z % 20))))) {t : Nat} {x : Int32} (ht : t < 32) (hx : x = -1 ∨ ∃ v, v < 20 ∧ x = nI v) : zR l yX1_valueOf wsX1_valueOf rmX1_valueOf D cy w [.ref g, .int (nI t), .int x] (zVl vl t x) := by
  rcases hx with rfl | ⟨v, hv, rfl⟩
  · exact c_X1_valueOf_m1 h ht
  · have := c_X1_valueOf (l := l) (D := D) h ha ht hv
    unfold zVl
    rw [if_neg (nI_m1 (by omega)), nI_clamp (by omega)]
    exact this
set_option maxRecDepth 20000 in
theorem lk135_wsX0_readValues : Cond.fieldLink RX0 15 "QueryGateway$Answer" "query" "LQueryGateway$Query;" ∈ wsX0_readValues := by decide +kernel
set_option maxRecDepth 20000 in
theorem in_wsX0_readValues_X0 : ∀ w ∈ wsX00, w ∈ wsX0_readValues := by decide +kernel
set_option maxRecDepth 20000 in
theorem lk137_wsX0_readValues : Cond.fieldLink RX0 19 "QueryGateway$Answer" "plan" "LQueryGateway$Plan;" ∈ wsX0_readValues := by decide +kernel
set_option maxRecDepth 20000 in
theorem lk138_wsX0_readValues : Cond.initialized RX4 ∈ wsX0_readValues := by decide +kernel
set_option maxRecDepth 20000 in
theorem lk139_wsX0_readValues : Cond.static yX4_bit ∈ wsX0_readValues := by decide +kernel
set_option maxRecDepth 20000 in
theorem lk140_wsX0_readValues : Cond.fieldLink RX0 23 "QueryGateway$Answer" "entities" "[I" ∈ wsX0_readValues := by decide +kernel
set_option maxRecDepth 20000 in
theorem lk141_wsX0_readValues : Cond.fieldLink RX0 27 "QueryGateway$Answer" "values" "[I" ∈ wsX0_readValues := by decide +kernel
set_option maxRecDepth 20000 in
theorem lk142_wsX0_readValues : Cond.fieldLink RX0 9 "QueryGateway$Answer" "graph" "LQueryGateway$Graph;" ∈ wsX0_readValues := by decide +kernel
set_option maxRecDepth 20000 in
theorem lk143_wsX0_readValues : Cond.fieldLink RX0 30 "QueryGateway$Answer" "missing" "[Z" ∈ wsX0_readValues := by decide +kernel
abbrev rmX0_readValues : Room := { frames := 2, cells := 0, slots := 0, locals := 42 }
set_option maxHeartbeats 4000000 in
set_option maxRecDepth 100000 in
theorem c_X0_readValues {l : Launch} {D : va_G} {cy : zCy} {A g q P e1 e2 e3 a b p1 p2 p3 p4 a1 a2 a3 a4 a5 nn : Nat} {am ty cnt ln kn th fa : Int32} {enA vaA miA ab svA ld : Nat → Int32} {sl sv : Nat → Nat} {vl : Nat → Nat → Int32} {fl key : Nat} (hn : nn ≤ 12) (hQ : zQok nn ab sl ld) (hV : zVok vl ld) (hsv : ∀ n, n < nn → svA n = nI (sv n) ∧ sv n < 4) (hfl : fl < 16) (hkey : key < 20) : zV ((Nat → Int32) × (Nat → Int32) × (Nat → Int32)) l yX0_readValues wsX0_readValues rmX0_readValues D cy [(A, .inr (0, [.ref g, .ref q, .ref P, .ref e1, .ref e2, .ref e3, .int am])), (e1, .inl (cy.1, 12, .inl enA)), (e2, .inl (cy.1, 12, .inl vaA)), (e3, .inl (cy.2.1, 12, .inl miA)), (q, .inr (3, [.ref a, .ref b, .int ty, .int (nI nn)])), (a, .inl (cy.1, 12, .inl ab)), (b, .inl (cy.1, 12, .inl (fun z => nI (sl z)))), (P, .inr (2, [.ref g, .ref q, .ref p1, .ref p2, .ref p3, .ref p4, .int cnt, .int ln, .int kn, .int th])), (p4, .inl (cy.1, 12, .inl svA)), (g, .inr (1, [.ref a1, .ref a2, .ref a3, .ref a4, .ref a5, .int fa])), (a5, .inl (cy.1, 640, .inl (fun z => vl (z / 20) (z % 20))))] [.ref A, .int (nI key), .int (nI fl)] (fun u => (∀ k, k < nn → u.1 k = aEN ab sl sv vl fl key k ∧ u.2.1 k = aRV ab sl sv vl fl key k ∧ u.2.2 k = bI (decide (aRV ab sl sv vl fl key k = -1)))) (fun u => [(A, .inr (0, [.ref g, .ref q, .ref P, .ref e1, .ref e2, .ref e3, .int am])), (e1, .inl (cy.1, 12, .inl u.1)), (e2, .inl (cy.1, 12, .inl u.2.1)), (e3, .inl (cy.2.1, 12, .inl u.2.2)), (q, .inr (3, [.ref a, .ref b, .int ty, .int (nI nn)])), (a, .inl (cy.1, 12, .inl ab)), (b, .inl (cy.1, 12, .inl (fun z => nI (sl z)))), (P, .inr (2, [.ref g, .ref q, .ref p1, .ref p2, .ref p3, .ref p4, .int cnt, .int ln, .int kn, .int th])), (p4, .inl (cy.1, 12, .inl svA)), (g, .inr (1, [.ref a1, .ref a2, .ref a3, .ref a4, .ref a5, .int fa])), (a5, .inl (cy.1, 640, .inl (fun z => vl (z / 20) (z % 20))))]) := by
  refine zV.of (cc := cX0_readValues) (maxL := 7) (ret := none) (by decide) rfl rfl ?_
  intro p e s m below meth c ls C hP hK hD hl
  obtain ⟨hx, hb, hr, hml, hts, hown, hlocks⟩ := C
  have hS : va_S (zIn [(A, .inr (0, [.ref g, .ref q, .ref P, .ref e1, .ref e2, .ref e3, .int am])), (e1, .inl (cy.1, 12, .inl enA)), (e2, .inl (cy.1, 12, .inl vaA)), (e3, .inl (cy.2.1, 12, .inl miA)), (q, .inr (3, [.ref a, .ref b, .int ty, .int (nI nn)])), (a, .inl (cy.1, 12, .inl ab)), (b, .inl (cy.1, 12, .inl (fun z => nI (sl z)))), (P, .inr (2, [.ref g, .ref q, .ref p1, .ref p2, .ref p3, .ref p4, .int cnt, .int ln, .int kn, .int th])), (p4, .inl (cy.1, 12, .inl svA)), (g, .inr (1, [.ref a1, .ref a2, .ref a3, .ref a4, .ref a5, .int fa])), (a5, .inl (cy.1, 640, .inl (fun z => vl (z / 20) (z % 20))))]) s.heap s.heap [] := va_S.rf
  have hl : lv_has ls 7 [(0, .ref A), (1, .int (nI key)), (2, .int (nI fl))] := hl
  refine lv_iconst (v := nI 0) hx hb dX0_readValues_0 (by decide) ?_
  refine lv_istore_n (lv' := [(3, .int (nI 0)), (0, .ref A), (1, .int (nI key)), (2, .int (nI fl))]) hx hb dX0_readValues_1 rfl hl (by decide) rfl (fun ls hl => ?_)
  have lo : ∀ (fuel : Nat) (n : Nat) (u1 u2 u3 : Nat → Int32), nn + 1 ≤ n + fuel → n ≤ nn → (∀ k, k < n → u1 k = aEN ab sl sv vl fl key k ∧ u2 k = aRV ab sl sv vl fl key k ∧ u3 k = bI (decide (aRV ab sl sv vl fl key k = -1))) → ∀ (H : Heap) (locs : List Loc) (ls : Array Slot), va_P D vwCl [(A, .inr (0, [.ref g, .ref q, .ref P, .ref e1, .ref e2, .ref e3, .int am])), (e1, .inl (cy.1, 12, .inl u1)), (e2, .inl (cy.1, 12, .inl u2)), (e3, .inl (cy.2.1, 12, .inl u3)), (q, .inr (3, [.ref a, .ref b, .int ty, .int (nI nn)])), (a, .inl (cy.1, 12, .inl ab)), (b, .inl (cy.1, 12, .inl (fun z => nI (sl z)))), (P, .inr (2, [.ref g, .ref q, .ref p1, .ref p2, .ref p3, .ref p4, .int cnt, .int ln, .int kn, .int th])), (p4, .inl (cy.1, 12, .inl svA)), (g, .inr (1, [.ref a1, .ref a2, .ref a3, .ref a4, .ref a5, .int fa])), (a5, .inl (cy.1, 640, .inl (fun z => vl (z / 20) (z % 20))))] H → va_D (zIn [(A, .inr (0, [.ref g, .ref q, .ref P, .ref e1, .ref e2, .ref e3, .int am])), (e1, .inl (cy.1, 12, .inl enA)), (e2, .inl (cy.1, 12, .inl vaA)), (e3, .inl (cy.2.1, 12, .inl miA)), (q, .inr (3, [.ref a, .ref b, .int ty, .int (nI nn)])), (a, .inl (cy.1, 12, .inl ab)), (b, .inl (cy.1, 12, .inl (fun z => nI (sl z)))), (P, .inr (2, [.ref g, .ref q, .ref p1, .ref p2, .ref p3, .ref p4, .int cnt, .int ln, .int kn, .int th])), (p4, .inl (cy.1, 12, .inl svA)), (g, .inr (1, [.ref a1, .ref a2, .ref a3, .ref a4, .ref a5, .int fa])), (a5, .inl (cy.1, 640, .inl (fun z => vl (z / 20) (z % 20))))]) [(A, .inr (0, [.ref g, .ref q, .ref P, .ref e1, .ref e2, .ref e3, .int am])), (e1, .inl (cy.1, 12, .inl u1)), (e2, .inl (cy.1, 12, .inl u2)), (e3, .inl (cy.2.1, 12, .inl u3)), (q, .inr (3, [.ref a, .ref b, .int ty, .int (nI nn)])), (a, .inl (cy.1, 12, .inl ab)), (b, .inl (cy.1, 12, .inl (fun z => nI (sl z)))), (P, .inr (2, [.ref g, .ref q, .ref p1, .ref p2, .ref p3, .ref p4, .int cnt, .int ln, .int kn, .int th])), (p4, .inl (cy.1, 12, .inl svA)), (g, .inr (1, [.ref a1, .ref a2, .ref a3, .ref a4, .ref a5, .int fa])), (a5, .inl (cy.1, 640, .inl (fun z => vl (z / 20) (z % 20))))] → va_S (zIn [(A, .inr (0, [.ref g, .ref q, .ref P, .ref e1, .ref e2, .ref e3, .int am])), (e1, .inl (cy.1, 12, .inl enA)), (e2, .inl (cy.1, 12, .inl vaA)), (e3, .inl (cy.2.1, 12, .inl miA)), (q, .inr (3, [.ref a, .ref b, .int ty, .int (nI nn)])), (a, .inl (cy.1, 12, .inl ab)), (b, .inl (cy.1, 12, .inl (fun z => nI (sl z)))), (P, .inr (2, [.ref g, .ref q, .ref p1, .ref p2, .ref p3, .ref p4, .int cnt, .int ln, .int kn, .int th])), (p4, .inl (cy.1, 12, .inl svA)), (g, .inr (1, [.ref a1, .ref a2, .ref a3, .ref a4, .ref a5, .int fa])), (a5, .inl (cy.1, 640, .inl (fun z => vl (z / 20) (z % 20))))]) s.heap H locs → lv_has ls 7 [(0, .ref A), (1, .int (nI key)), (2, .int (nI fl)), (3, .int (nI n))] → W p l e rmX0_readValues s m [.ref A, .int (nI key), .int (nI fl)].toArray below meth c H locs 0 0 (zVQ ((Nat → Int32) × (Nat → Int32) × (Nat → Int32)) D below [.ref A, .int (nI key), .int (nI fl)].toArray s [(A, .inr (0, [.ref g, .ref q, .ref P, .ref e1, .ref e2, .ref e3, .int am])), (e1, .inl (cy.1, 12, .inl enA)), (e2, .inl (cy.1, 12, .inl vaA)), (e3, .inl (cy.2.1, 12, .inl miA)), (q, .inr (3, [.ref a, .ref b, .int ty, .int (nI nn)])), (a, .inl (cy.1, 12, .inl ab)), (b, .inl (cy.1, 12, .inl (fun z => nI (sl z)))), (P, .inr (2, [.ref g, .ref q, .ref p1, .ref p2, .ref p3, .ref p4, .int cnt, .int ln, .int kn, .int th])), (p4, .inl (cy.1, 12, .inl svA)), (g, .inr (1, [.ref a1, .ref a2, .ref a3, .ref a4, .ref a5, .int fa])), (a5, .inl (cy.1, 640, .inl (fun z => vl (z / 20) (z % 20))))] (fun u => (∀ k, k < nn → u.1 k = aEN ab sl sv vl fl key k ∧ u.2.1 k = aRV ab sl sv vl fl key k ∧ u.2.2 k = bI (decide (aRV ab sl sv vl fl key k = -1)))) (fun u => [(A, .inr (0, [.ref g, .ref q, .ref P, .ref e1, .ref e2, .ref e3, .int am])), (e1, .inl (cy.1, 12, .inl u.1)), (e2, .inl (cy.1, 12, .inl u.2.1)), (e3, .inl (cy.2.1, 12, .inl u.2.2)), (q, .inr (3, [.ref a, .ref b, .int ty, .int (nI nn)])), (a, .inl (cy.1, 12, .inl ab)), (b, .inl (cy.1, 12, .inl (fun z => nI (sl z)))), (P, .inr (2, [.ref g, .ref q, .ref p1, .ref p2, .ref p3, .ref p4, .int cnt, .int ln, .int kn, .int th])), (p4, .inl (cy.1, 12, .inl svA)), (g, .inr (1, [.ref a1, .ref a2, .ref a3, .ref a4, .ref a5, .int fa])), (a5, .inl (cy.1, 640, .inl (fun z => vl (z / 20) (z % 20))))])) (F0 m 2 ls []) := by
    intro fuel
    induction fuel with
    | zero => intro n u1 u2 u3 hfu hi hcp; exact absurd hfu (by omega)
    | succ fuel ih_lo =>
      intro n u1 u2 u3 hfu hi hcp H locs ls hP hD hS hl
      refine lv_iload_n hx hb dX0_readValues_2 rfl (lv_at hl 3 rfl) ?_
      refine lv_aload_n hx hb dX0_readValues_3 rfl (lv_at hl 0 rfl) ?_
      refine va_get (D := D) (ci := 0) (v := .ref q) (C := RX0) (T := TX0) (N := 7) hx hb hts in_wsX0_readValues_X0 hown hK.1 hP 0 rfl rfl 1 (by decide) (hts _ lk135_wsX0_readValues) (fun _ h9 => h9) rfl dX0_readValues_4 ?_
      refine z_callV (b := q) (As := []) (rest := [.int (nI n)]) ⟨hx, hb, hml, hown, hts⟩ hK hP hS (c_X3_size (i := 4) rfl) (cwV 0 hts gX0_readValues_X3_size rfl rfl rfl k_yX3_size ⟨Nat.le_of_ble_eq_true rfl, Nat.le_of_ble_eq_true rfl⟩) 4 3 rfl rfl rfl rfl hl.1 rfl rfl dX0_readValues_7 ⟨Nat.le_of_ble_eq_true rfl, Nat.le_of_ble_eq_true rfl⟩ (fun H locs hP hS => ?_)
      refine lv_icmp_ge (tgt := 144) hx hb dX0_readValues_10 (by decide) (fun cb1 => ?_) (fun cb1 => ?_)
      · have cb1 : nn ≤ n := zn_ge_t (a := n) (b := nn) (by omega) (by omega) cb1
        exact z_vret (u1, u2, u3) hx hb hr hlocks hS dX0_readValues_144 hP (fun k hk => hcp k (by omega))
      · have cb1 : ¬ (nn ≤ n) := zn_ge_f (a := n) (b := nn) (by omega) (by omega) cb1
        refine lv_iload_n hx hb dX0_readValues_13 rfl (lv_at hl 3 rfl) ?_
        refine lv_bipush (v := nI 12) hx hb dX0_readValues_14 (by decide) ?_
        refine lv_icmp_ge (tgt := 144) hx hb dX0_readValues_16 (by decide) (fun cb2 => ?_) (fun cb2 => ?_)
        · have cb2 : 12 ≤ n := zn_ge_t (a := n) (b := 12) (by omega) (by omega) cb2
          exact absurd cb2 (by omega)
        · have cb2 : ¬ (12 ≤ n) := zn_ge_f (a := n) (b := 12) (by omega) (by omega) cb2
          obtain ⟨hsv1, hsv4⟩ := hsv n (by omega)
          have hrng := (aRng (sv := sv) (fl := fl) hQ hV hn hkey (n + 1) n (by omega) (by omega)).1
          have hstep := aRV_step (sl := sl) (sv := sv) (vl := vl) (fl := fl) (key := key) (show n < 2 ^ 31 by omega) (hQ.tree n (by omega))
          rcases (hQ n (by omega)).2 with hpl | ⟨r, hrn, hpl, hld⟩
          · skip
            refine lv_aload_n hx hb dX0_readValues_19 rfl (lv_at hl 0 rfl) ?_
            refine va_get (D := D) (ci := 0) (v := .ref q) (C := RX0) (T := TX0) (N := 7) hx hb hts in_wsX0_readValues_X0 hown hK.1 hP 0 rfl rfl 1 (by decide) (hts _ lk135_wsX0_readValues) (fun _ h9 => h9) rfl dX0_readValues_20 ?_
            refine lv_iload_n hx hb dX0_readValues_23 rfl (lv_at hl 3 rfl) ?_
            refine z_callV (b := q) (As := [.int (nI n)]) (rest := []) ⟨hx, hb, hml, hown, hts⟩ hK hP hS (c_X3_aboveOf (i := 4) (j := 5) rfl rfl hn (z := n) (by omega)) (cwV 1 hts gX0_readValues_X3_aboveOf rfl rfl rfl k_yX3_aboveOf ⟨Nat.le_of_ble_eq_true rfl, Nat.le_of_ble_eq_true rfl⟩) 4 3 rfl rfl rfl rfl hl.1 rfl rfl dX0_readValues_24 ⟨Nat.le_of_ble_eq_true rfl, Nat.le_of_ble_eq_true rfl⟩ (fun H locs hP hS => ?_)
            refine z_top (y := (-1 : Int32)) hpl ?_
            refine lv_istore (lv' := [(4, .int ((-1 : Int32))), (0, .ref A), (1, .int (nI key)), (2, .int (nI fl)), (3, .int (nI n))]) hx hb dX0_readValues_27 hl (by decide) rfl (fun ls hl => ?_)
            refine lv_aload_n hx hb dX0_readValues_29 rfl (lv_at hl 1 rfl) ?_
            refine va_get (D := D) (ci := 0) (v := .ref q) (C := RX0) (T := TX0) (N := 7) hx hb hts in_wsX0_readValues_X0 hown hK.1 hP 0 rfl rfl 1 (by decide) (hts _ lk135_wsX0_readValues) (fun _ h9 => h9) rfl dX0_readValues_30 ?_
            refine lv_iload hx hb dX0_readValues_33 (lv_at hl 0 rfl) ?_
            refine z_callV (b := q) (As := [.int ((-1 : Int32))]) (rest := []) ⟨hx, hb, hml, hown, hts⟩ hK hP hS (c_X3_has_m1 (i := 4) rfl hn) (cwV 1 hts gX0_readValues_X3_has rfl rfl rfl k_yX3_has ⟨Nat.le_of_ble_eq_true rfl, Nat.le_of_ble_eq_true rfl⟩) 4 3 rfl rfl rfl rfl hl.1 rfl rfl dX0_readValues_35 ⟨Nat.le_of_ble_eq_true rfl, Nat.le_of_ble_eq_true rfl⟩ (fun H locs hP hS => ?_)
            refine lv_if_eq (tgt := 51) hx hb dX0_readValues_38 (by decide) (fun cb3 => ?_) (fun cb3 => ?_)
            · have cb3 : 0 = 0 := zn_eq_t (a := 0) (b := 0) (by omega) (by omega) cb3
              refine lv_iload_n hx hb dX0_readValues_51 rfl (lv_at hl 2 rfl) ?_
              refine lv_istore (lv' := [(5, .int (nI key)), (4, .int ((-1 : Int32))), (0, .ref A), (1, .int (nI key)), (2, .int (nI fl)), (3, .int (nI n))]) hx hb dX0_readValues_52 hl (by decide) rfl (fun ls hl => ?_)
              have hent : aEN ab sl sv vl fl key n = nI key := aEN_top hpl
              refine lv_iload_n hx hb dX0_readValues_54 rfl (lv_at hl 4 rfl) ?_
              refine lv_aload_n hx hb dX0_readValues_55 rfl (lv_at hl 2 rfl) ?_
              refine va_get (D := D) (ci := 0) (v := .ref P) (C := RX0) (T := TX0) (N := 7) hx hb hts in_wsX0_readValues_X0 hown hK.1 hP 0 rfl rfl 2 (by decide) (hts _ lk137_wsX0_readValues) (fun _ h9 => h9) rfl dX0_readValues_56 ?_
              refine lv_iload_n hx hb dX0_readValues_59 rfl (lv_at hl 5 rfl) ?_
              refine z_callV (b := P) (As := [.int (nI n)]) (rest := [.int (nI fl)]) ⟨hx, hb, hml, hown, hts⟩ hK hP hS (c_X2_serviceOf (i := 7) (i4 := 8) (iq := 4) rfl rfl rfl hn (k := n) (by omega)) (cwV 1 hts gX0_readValues_X2_serviceOf rfl rfl rfl k_yX2_serviceOf ⟨Nat.le_of_ble_eq_true rfl, Nat.le_of_ble_eq_true rfl⟩) 7 2 rfl rfl rfl rfl hl.1 rfl rfl dX0_readValues_60 ⟨Nat.le_of_ble_eq_true rfl, Nat.le_of_ble_eq_true rfl⟩ (fun H locs hP hS => ?_)
              refine z_top (y := nI (sv n)) hsv1 ?_
              refine z_callSN (As := [.int (nI (sv n))]) (rest := [.int (nI fl)]) ⟨hx, hb, hml, hown, hts⟩ hK hP hS (c_X4_bit (k := sv n) (by omega)) ⟨va_cnB 1 hts gX0_readValues_X4_bit_n74 rfl rfl rfl hK.2.2.2.2.2.2.2 (hts _ lk138_wsX0_readValues) k_yX4_bit ⟨Nat.le_of_ble_eq_true rfl, Nat.le_of_ble_eq_true rfl⟩, hts _ lk139_wsX0_readValues, trivial⟩ rfl hl.1 rfl rfl dX0_readValues_63 ⟨Nat.le_of_ble_eq_true rfl, Nat.le_of_ble_eq_true rfl⟩ (fun H locs hP hS => ?_)
              refine lv_iand hx hb dX0_readValues_66 ?_
              refine z_top (y := (nI fl &&& nI (2 ^ sv n))) rfl ?_
              refine lv_if_eq (tgt := 74) hx hb dX0_readValues_67 (by decide) (fun cb4 => ?_) (fun cb4 => ?_)
              · skip
                have hbt := z_bitF _ hfl _ hsv4 cb4
                refine lv_iconst (v := nI 0) hx hb dX0_readValues_74 (by decide) ?_
                refine lv_istore (lv' := [(6, .int (nI 0)), (5, .int (nI key)), (4, .int ((-1 : Int32))), (0, .ref A), (1, .int (nI key)), (2, .int (nI fl)), (3, .int (nI n))]) hx hb dX0_readValues_75 hl (by decide) rfl (fun ls hl => ?_)
                refine lv_aload_n hx hb dX0_readValues_77 rfl (lv_at hl 3 rfl) ?_
                refine va_get (D := D) (ci := 0) (v := .ref e1) (C := RX0) (T := TX0) (N := 7) hx hb hts in_wsX0_readValues_X0 hown hK.1 hP 0 rfl rfl 3 (by decide) (hts _ lk140_wsX0_readValues) (fun _ h9 => h9) rfl dX0_readValues_78 ?_
                refine lv_iload_n hx hb dX0_readValues_81 rfl (lv_at hl 6 rfl) ?_
                refine lv_iload hx hb dX0_readValues_82 (lv_at hl 1 rfl) ?_
                refine z_iast (g := upd u1 n (nI key)) hx hb hK.1 hP hD hS 1 0 rfl rfl (k := n) (by omega) (by decide) (fun _ _ => rfl) dX0_readValues_84 (fun H locs hP hD hS => ?_)
                have hP : va_P D vwCl [(A, .inr (0, [.ref g, .ref q, .ref P, .ref e1, .ref e2, .ref e3, .int am])), (e1, .inl (cy.1, 12, .inl (upd u1 n (nI key)))), (e2, .inl (cy.1, 12, .inl u2)), (e3, .inl (cy.2.1, 12, .inl u3)), (q, .inr (3, [.ref a, .ref b, .int ty, .int (nI nn)])), (a, .inl (cy.1, 12, .inl ab)), (b, .inl (cy.1, 12, .inl (fun z => nI (sl z)))), (P, .inr (2, [.ref g, .ref q, .ref p1, .ref p2, .ref p3, .ref p4, .int cnt, .int ln, .int kn, .int th])), (p4, .inl (cy.1, 12, .inl svA)), (g, .inr (1, [.ref a1, .ref a2, .ref a3, .ref a4, .ref a5, .int fa])), (a5, .inl (cy.1, 640, .inl (fun z => vl (z / 20) (z % 20))))] H := hP
                have hD : va_D (zIn [(A, .inr (0, [.ref g, .ref q, .ref P, .ref e1, .ref e2, .ref e3, .int am])), (e1, .inl (cy.1, 12, .inl enA)), (e2, .inl (cy.1, 12, .inl vaA)), (e3, .inl (cy.2.1, 12, .inl miA)), (q, .inr (3, [.ref a, .ref b, .int ty, .int (nI nn)])), (a, .inl (cy.1, 12, .inl ab)), (b, .inl (cy.1, 12, .inl (fun z => nI (sl z)))), (P, .inr (2, [.ref g, .ref q, .ref p1, .ref p2, .ref p3, .ref p4, .int cnt, .int ln, .int kn, .int th])), (p4, .inl (cy.1, 12, .inl svA)), (g, .inr (1, [.ref a1, .ref a2, .ref a3, .ref a4, .ref a5, .int fa])), (a5, .inl (cy.1, 640, .inl (fun z => vl (z / 20) (z % 20))))]) [(A, .inr (0, [.ref g, .ref q, .ref P, .ref e1, .ref e2, .ref e3, .int am])), (e1, .inl (cy.1, 12, .inl (upd u1 n (nI key)))), (e2, .inl (cy.1, 12, .inl u2)), (e3, .inl (cy.2.1, 12, .inl u3)), (q, .inr (3, [.ref a, .ref b, .int ty, .int (nI nn)])), (a, .inl (cy.1, 12, .inl ab)), (b, .inl (cy.1, 12, .inl (fun z => nI (sl z)))), (P, .inr (2, [.ref g, .ref q, .ref p1, .ref p2, .ref p3, .ref p4, .int cnt, .int ln, .int kn, .int th])), (p4, .inl (cy.1, 12, .inl svA)), (g, .inr (1, [.ref a1, .ref a2, .ref a3, .ref a4, .ref a5, .int fa])), (a5, .inl (cy.1, 640, .inl (fun z => vl (z / 20) (z % 20))))] := hD
                refine lv_aload_n hx hb dX0_readValues_85 rfl (lv_at hl 3 rfl) ?_
                refine va_get (D := D) (ci := 0) (v := .ref e2) (C := RX0) (T := TX0) (N := 7) hx hb hts in_wsX0_readValues_X0 hown hK.1 hP 0 rfl rfl 4 (by decide) (hts _ lk141_wsX0_readValues) (fun _ h9 => h9) rfl dX0_readValues_86 ?_
                refine lv_iload_n hx hb dX0_readValues_89 rfl (lv_at hl 6 rfl) ?_
                refine lv_iload hx hb dX0_readValues_90 (lv_at hl 0 rfl) ?_
                refine lv_if_eq (tgt := 99) hx hb dX0_readValues_92 (by decide) (fun cb5 => ?_) (fun cb5 => ?_)
                · have cb5 : 0 = 0 := zn_eq_t (a := 0) (b := 0) (by omega) (by omega) cb5
                  refine lv_aload_n hx hb dX0_readValues_99 rfl (lv_at hl 3 rfl) ?_
                  refine va_get (D := D) (ci := 0) (v := .ref g) (C := RX0) (T := TX0) (N := 7) hx hb hts in_wsX0_readValues_X0 hown hK.1 hP 0 rfl rfl 0 (by decide) (hts _ lk142_wsX0_readValues) (fun _ h9 => h9) rfl dX0_readValues_100 ?_
                  refine lv_aload_n hx hb dX0_readValues_103 rfl (lv_at hl 3 rfl) ?_
                  refine va_get (D := D) (ci := 0) (v := .ref q) (C := RX0) (T := TX0) (N := 7) hx hb hts in_wsX0_readValues_X0 hown hK.1 hP 0 rfl rfl 1 (by decide) (hts _ lk135_wsX0_readValues) (fun _ h9 => h9) rfl dX0_readValues_104 ?_
                  refine lv_iload_n hx hb dX0_readValues_107 rfl (lv_at hl 6 rfl) ?_
                  refine z_callV (b := q) (As := [.int (nI n)]) (rest := [.ref g, .int (nI n), .ref e2]) ⟨hx, hb, hml, hown, hts⟩ hK hP hS (c_X3_slotAt (i := 4) (j := 6) rfl rfl hn (z := n) (by omega)) (cwV 1 hts gX0_readValues_X3_slotAt rfl rfl rfl k_yX3_slotAt ⟨Nat.le_of_ble_eq_true rfl, Nat.le_of_ble_eq_true rfl⟩) 4 3 rfl rfl rfl rfl hl.1 rfl rfl dX0_readValues_108 ⟨Nat.le_of_ble_eq_true rfl, Nat.le_of_ble_eq_true rfl⟩ (fun H locs hP hS => ?_)
                  refine lv_iload hx hb dX0_readValues_111 (lv_at hl 1 rfl) ?_
                  refine z_callV (b := g) (As := [.int (nI (sl n)), .int (nI key)]) (rest := [.int (nI n), .ref e2]) ⟨hx, hb, hml, hown, hts⟩ hK hP hS (c_X1_valueOf_o (i := 9) (j := 10) rfl rfl (t := sl n) (x := nI key) (hQ n (by omega)).1 (hent ▸ hrng)) (cwV 2 hts gX0_readValues_X1_valueOf rfl rfl rfl k_yX1_valueOf ⟨Nat.le_of_ble_eq_true rfl, Nat.le_of_ble_eq_true rfl⟩) 9 1 rfl rfl rfl rfl hl.1 rfl rfl dX0_readValues_113 ⟨Nat.le_of_ble_eq_true rfl, Nat.le_of_ble_eq_true rfl⟩ (fun H locs hP hS => ?_)
                  have hval : aRV ab sl sv vl fl key n = (zVl vl (sl n) (nI key)) := by rw [hstep, hbt, hent]; rfl
                  refine z_iast (g := upd u2 n ((zVl vl (sl n) (nI key)))) hx hb hK.1 hP hD hS 2 0 rfl rfl (k := n) (by omega) (by decide) (fun _ _ => rfl) dX0_readValues_116 (fun H locs hP hD hS => ?_)
                  have hP : va_P D vwCl [(A, .inr (0, [.ref g, .ref q, .ref P, .ref e1, .ref e2, .ref e3, .int am])), (e1, .inl (cy.1, 12, .inl (upd u1 n (nI key)))), (e2, .inl (cy.1, 12, .inl (upd u2 n ((zVl vl (sl n) (nI key)))))), (e3, .inl (cy.2.1, 12, .inl u3)), (q, .inr (3, [.ref a, .ref b, .int ty, .int (nI nn)])), (a, .inl (cy.1, 12, .inl ab)), (b, .inl (cy.1, 12, .inl (fun z => nI (sl z)))), (P, .inr (2, [.ref g, .ref q, .ref p1, .ref p2, .ref p3, .ref p4, .int cnt, .int ln, .int kn, .int th])), (p4, .inl (cy.1, 12, .inl svA)), (g, .inr (1, [.ref a1, .ref a2, .ref a3, .ref a4, .ref a5, .int fa])), (a5, .inl (cy.1, 640, .inl (fun z => vl (z / 20) (z % 20))))] H := hP
                  have hD : va_D (zIn [(A, .inr (0, [.ref g, .ref q, .ref P, .ref e1, .ref e2, .ref e3, .int am])), (e1, .inl (cy.1, 12, .inl enA)), (e2, .inl (cy.1, 12, .inl vaA)), (e3, .inl (cy.2.1, 12, .inl miA)), (q, .inr (3, [.ref a, .ref b, .int ty, .int (nI nn)])), (a, .inl (cy.1, 12, .inl ab)), (b, .inl (cy.1, 12, .inl (fun z => nI (sl z)))), (P, .inr (2, [.ref g, .ref q, .ref p1, .ref p2, .ref p3, .ref p4, .int cnt, .int ln, .int kn, .int th])), (p4, .inl (cy.1, 12, .inl svA)), (g, .inr (1, [.ref a1, .ref a2, .ref a3, .ref a4, .ref a5, .int fa])), (a5, .inl (cy.1, 640, .inl (fun z => vl (z / 20) (z % 20))))]) [(A, .inr (0, [.ref g, .ref q, .ref P, .ref e1, .ref e2, .ref e3, .int am])), (e1, .inl (cy.1, 12, .inl (upd u1 n (nI key)))), (e2, .inl (cy.1, 12, .inl (upd u2 n ((zVl vl (sl n) (nI key)))))), (e3, .inl (cy.2.1, 12, .inl u3)), (q, .inr (3, [.ref a, .ref b, .int ty, .int (nI nn)])), (a, .inl (cy.1, 12, .inl ab)), (b, .inl (cy.1, 12, .inl (fun z => nI (sl z)))), (P, .inr (2, [.ref g, .ref q, .ref p1, .ref p2, .ref p3, .ref p4, .int cnt, .int ln, .int kn, .int th])), (p4, .inl (cy.1, 12, .inl svA)), (g, .inr (1, [.ref a1, .ref a2, .ref a3, .ref a4, .ref a5, .int fa])), (a5, .inl (cy.1, 640, .inl (fun z => vl (z / 20) (z % 20))))] := hD
                  refine lv_aload_n hx hb dX0_readValues_117 rfl (lv_at hl 3 rfl) ?_
                  refine va_get (D := D) (ci := 0) (v := .ref e3) (C := RX0) (T := TX0) (N := 7) hx hb hts in_wsX0_readValues_X0 hown hK.1 hP 0 rfl rfl 5 (by decide) (hts _ lk143_wsX0_readValues) (fun _ h9 => h9) rfl dX0_readValues_118 ?_
                  refine lv_iload_n hx hb dX0_readValues_121 rfl (lv_at hl 6 rfl) ?_
                  refine lv_aload_n hx hb dX0_readValues_122 rfl (lv_at hl 3 rfl) ?_
                  refine va_get (D := D) (ci := 0) (v := .ref e2) (C := RX0) (T := TX0) (N := 7) hx hb hts in_wsX0_readValues_X0 hown hK.1 hP 0 rfl rfl 4 (by decide) (hts _ lk141_wsX0_readValues) (fun _ h9 => h9) rfl dX0_readValues_123 ?_
                  refine lv_iload_n hx hb dX0_readValues_126 rfl (lv_at hl 6 rfl) ?_
                  refine z_iald (v := (zVl vl (sl n) (nI key))) hx hb hK.1 hP 2 0 rfl rfl (k := n) (by omega) (by decide) (by show upd u2 n _ n = _; unfold upd; rw [if_pos rfl]) dX0_readValues_127 ?_
                  refine lv_iconst (v := (-1 : Int32)) hx hb dX0_readValues_128 (by decide) ?_
                  refine lv_icmp_ne (tgt := 136) hx hb dX0_readValues_129 (by decide) (fun cb6 => ?_) (fun cb6 => ?_)
                  · skip
                    refine lv_iconst (v := nI 0) hx hb dX0_readValues_136 (by decide) ?_
                    refine z_zast (g := upd u3 n (nI 0)) hx hb hK.1 hP hD hS 3 1 rfl rfl (k := n) (by omega) (by decide) (by decide) (fun _ _ => rfl) dX0_readValues_137 (fun H locs hP hD hS => ?_)
                    have hP : va_P D vwCl [(A, .inr (0, [.ref g, .ref q, .ref P, .ref e1, .ref e2, .ref e3, .int am])), (e1, .inl (cy.1, 12, .inl (upd u1 n (nI key)))), (e2, .inl (cy.1, 12, .inl (upd u2 n ((zVl vl (sl n) (nI key)))))), (e3, .inl (cy.2.1, 12, .inl (upd u3 n (nI 0)))), (q, .inr (3, [.ref a, .ref b, .int ty, .int (nI nn)])), (a, .inl (cy.1, 12, .inl ab)), (b, .inl (cy.1, 12, .inl (fun z => nI (sl z)))), (P, .inr (2, [.ref g, .ref q, .ref p1, .ref p2, .ref p3, .ref p4, .int cnt, .int ln, .int kn, .int th])), (p4, .inl (cy.1, 12, .inl svA)), (g, .inr (1, [.ref a1, .ref a2, .ref a3, .ref a4, .ref a5, .int fa])), (a5, .inl (cy.1, 640, .inl (fun z => vl (z / 20) (z % 20))))] H := hP
                    have hD : va_D (zIn [(A, .inr (0, [.ref g, .ref q, .ref P, .ref e1, .ref e2, .ref e3, .int am])), (e1, .inl (cy.1, 12, .inl enA)), (e2, .inl (cy.1, 12, .inl vaA)), (e3, .inl (cy.2.1, 12, .inl miA)), (q, .inr (3, [.ref a, .ref b, .int ty, .int (nI nn)])), (a, .inl (cy.1, 12, .inl ab)), (b, .inl (cy.1, 12, .inl (fun z => nI (sl z)))), (P, .inr (2, [.ref g, .ref q, .ref p1, .ref p2, .ref p3, .ref p4, .int cnt, .int ln, .int kn, .int th])), (p4, .inl (cy.1, 12, .inl svA)), (g, .inr (1, [.ref a1, .ref a2, .ref a3, .ref a4, .ref a5, .int fa])), (a5, .inl (cy.1, 640, .inl (fun z => vl (z / 20) (z % 20))))]) [(A, .inr (0, [.ref g, .ref q, .ref P, .ref e1, .ref e2, .ref e3, .int am])), (e1, .inl (cy.1, 12, .inl (upd u1 n (nI key)))), (e2, .inl (cy.1, 12, .inl (upd u2 n ((zVl vl (sl n) (nI key)))))), (e3, .inl (cy.2.1, 12, .inl (upd u3 n (nI 0)))), (q, .inr (3, [.ref a, .ref b, .int ty, .int (nI nn)])), (a, .inl (cy.1, 12, .inl ab)), (b, .inl (cy.1, 12, .inl (fun z => nI (sl z)))), (P, .inr (2, [.ref g, .ref q, .ref p1, .ref p2, .ref p3, .ref p4, .int cnt, .int ln, .int kn, .int th])), (p4, .inl (cy.1, 12, .inl svA)), (g, .inr (1, [.ref a1, .ref a2, .ref a3, .ref a4, .ref a5, .int fa])), (a5, .inl (cy.1, 640, .inl (fun z => vl (z / 20) (z % 20))))] := hD
                    refine lv_iinc (v := nI (n + 1)) (lv' := [(3, .int (nI (n + 1))), (6, .int (nI 0)), (5, .int (nI key)), (4, .int ((-1 : Int32))), (0, .ref A), (1, .int (nI key)), (2, .int (nI fl))]) hx hb dX0_readValues_138 hl (k := 6) rfl (z_inc _) (by decide) rfl (fun ls hl => ?_)
                    refine lv_goto (tgt := 2) hx hb dX0_readValues_141 (by decide) ?_
                    exact ih_lo (n + 1) (upd u1 n (nI key)) (upd u2 n (zVl vl (sl n) (nI key))) (upd u3 n (nI 0)) (by omega) (by omega) (lt_s (fun k hk => by unfold upd; rw [if_neg (by omega), if_neg (by omega), if_neg (by omega)]; exact hcp k hk) (by unfold upd; rw [if_pos rfl, if_pos rfl, if_pos rfl]; exact ⟨hent.symm, hval.symm, by rw [hval]; exact (bI_no cb6)⟩)) _ _ _ hP hD hS (lv_sub hl [4, 5, 6, 0] rfl)
                  · skip
                    refine lv_iconst (v := nI 1) hx hb dX0_readValues_132 (by decide) ?_
                    refine lv_goto (tgt := 137) hx hb dX0_readValues_133 (by decide) ?_
                    refine z_zast (g := upd u3 n (nI 1)) hx hb hK.1 hP hD hS 3 1 rfl rfl (k := n) (by omega) (by decide) (by decide) (fun _ _ => rfl) dX0_readValues_137 (fun H locs hP hD hS => ?_)
                    have hP : va_P D vwCl [(A, .inr (0, [.ref g, .ref q, .ref P, .ref e1, .ref e2, .ref e3, .int am])), (e1, .inl (cy.1, 12, .inl (upd u1 n (nI key)))), (e2, .inl (cy.1, 12, .inl (upd u2 n ((zVl vl (sl n) (nI key)))))), (e3, .inl (cy.2.1, 12, .inl (upd u3 n (nI 1)))), (q, .inr (3, [.ref a, .ref b, .int ty, .int (nI nn)])), (a, .inl (cy.1, 12, .inl ab)), (b, .inl (cy.1, 12, .inl (fun z => nI (sl z)))), (P, .inr (2, [.ref g, .ref q, .ref p1, .ref p2, .ref p3, .ref p4, .int cnt, .int ln, .int kn, .int th])), (p4, .inl (cy.1, 12, .inl svA)), (g, .inr (1, [.ref a1, .ref a2, .ref a3, .ref a4, .ref a5, .int fa])), (a5, .inl (cy.1, 640, .inl (fun z => vl (z / 20) (z % 20))))] H := hP
                    have hD : va_D (zIn [(A, .inr (0, [.ref g, .ref q, .ref P, .ref e1, .ref e2, .ref e3, .int am])), (e1, .inl (cy.1, 12, .inl enA)), (e2, .inl (cy.1, 12, .inl vaA)), (e3, .inl (cy.2.1, 12, .inl miA)), (q, .inr (3, [.ref a, .ref b, .int ty, .int (nI nn)])), (a, .inl (cy.1, 12, .inl ab)), (b, .inl (cy.1, 12, .inl (fun z => nI (sl z)))), (P, .inr (2, [.ref g, .ref q, .ref p1, .ref p2, .ref p3, .ref p4, .int cnt, .int ln, .int kn, .int th])), (p4, .inl (cy.1, 12, .inl svA)), (g, .inr (1, [.ref a1, .ref a2, .ref a3, .ref a4, .ref a5, .int fa])), (a5, .inl (cy.1, 640, .inl (fun z => vl (z / 20) (z % 20))))]) [(A, .inr (0, [.ref g, .ref q, .ref P, .ref e1, .ref e2, .ref e3, .int am])), (e1, .inl (cy.1, 12, .inl (upd u1 n (nI key)))), (e2, .inl (cy.1, 12, .inl (upd u2 n ((zVl vl (sl n) (nI key)))))), (e3, .inl (cy.2.1, 12, .inl (upd u3 n (nI 1)))), (q, .inr (3, [.ref a, .ref b, .int ty, .int (nI nn)])), (a, .inl (cy.1, 12, .inl ab)), (b, .inl (cy.1, 12, .inl (fun z => nI (sl z)))), (P, .inr (2, [.ref g, .ref q, .ref p1, .ref p2, .ref p3, .ref p4, .int cnt, .int ln, .int kn, .int th])), (p4, .inl (cy.1, 12, .inl svA)), (g, .inr (1, [.ref a1, .ref a2, .ref a3, .ref a4, .ref a5, .int fa])), (a5, .inl (cy.1, 640, .inl (fun z => vl (z / 20) (z % 20))))] := hD
                    refine lv_iinc (v := nI (n + 1)) (lv' := [(3, .int (nI (n + 1))), (6, .int (nI 0)), (5, .int (nI key)), (4, .int ((-1 : Int32))), (0, .ref A), (1, .int (nI key)), (2, .int (nI fl))]) hx hb dX0_readValues_138 hl (k := 6) rfl (z_inc _) (by decide) rfl (fun ls hl => ?_)
                    refine lv_goto (tgt := 2) hx hb dX0_readValues_141 (by decide) ?_
                    exact ih_lo (n + 1) (upd u1 n (nI key)) (upd u2 n (zVl vl (sl n) (nI key))) (upd u3 n (nI 1)) (by omega) (by omega) (lt_s (fun k hk => by unfold upd; rw [if_neg (by omega), if_neg (by omega), if_neg (by omega)]; exact hcp k hk) (by unfold upd; rw [if_pos rfl, if_pos rfl, if_pos rfl]; exact ⟨hent.symm, hval.symm, by rw [hval]; exact (bI_yes cb6)⟩)) _ _ _ hP hD hS (lv_sub hl [4, 5, 6, 0] rfl)
                · have cb5 : ¬ (0 = 0) := zn_eq_f (a := 0) (b := 0) (by omega) (by omega) cb5
                  exact absurd cb5 (by decide)
              · skip
                have hbt := z_bitT _ hfl _ hsv4 cb4
                refine lv_iconst (v := nI 1) hx hb dX0_readValues_70 (by decide) ?_
                refine lv_goto (tgt := 75) hx hb dX0_readValues_71 (by decide) ?_
                refine lv_istore (lv' := [(6, .int (nI 1)), (5, .int (nI key)), (4, .int ((-1 : Int32))), (0, .ref A), (1, .int (nI key)), (2, .int (nI fl)), (3, .int (nI n))]) hx hb dX0_readValues_75 hl (by decide) rfl (fun ls hl => ?_)
                refine lv_aload_n hx hb dX0_readValues_77 rfl (lv_at hl 3 rfl) ?_
                refine va_get (D := D) (ci := 0) (v := .ref e1) (C := RX0) (T := TX0) (N := 7) hx hb hts in_wsX0_readValues_X0 hown hK.1 hP 0 rfl rfl 3 (by decide) (hts _ lk140_wsX0_readValues) (fun _ h9 => h9) rfl dX0_readValues_78 ?_
                refine lv_iload_n hx hb dX0_readValues_81 rfl (lv_at hl 6 rfl) ?_
                refine lv_iload hx hb dX0_readValues_82 (lv_at hl 1 rfl) ?_
                refine z_iast (g := upd u1 n (nI key)) hx hb hK.1 hP hD hS 1 0 rfl rfl (k := n) (by omega) (by decide) (fun _ _ => rfl) dX0_readValues_84 (fun H locs hP hD hS => ?_)
                have hP : va_P D vwCl [(A, .inr (0, [.ref g, .ref q, .ref P, .ref e1, .ref e2, .ref e3, .int am])), (e1, .inl (cy.1, 12, .inl (upd u1 n (nI key)))), (e2, .inl (cy.1, 12, .inl u2)), (e3, .inl (cy.2.1, 12, .inl u3)), (q, .inr (3, [.ref a, .ref b, .int ty, .int (nI nn)])), (a, .inl (cy.1, 12, .inl ab)), (b, .inl (cy.1, 12, .inl (fun z => nI (sl z)))), (P, .inr (2, [.ref g, .ref q, .ref p1, .ref p2, .ref p3, .ref p4, .int cnt, .int ln, .int kn, .int th])), (p4, .inl (cy.1, 12, .inl svA)), (g, .inr (1, [.ref a1, .ref a2, .ref a3, .ref a4, .ref a5, .int fa])), (a5, .inl (cy.1, 640, .inl (fun z => vl (z / 20) (z % 20))))] H := hP
                have hD : va_D (zIn [(A, .inr (0, [.ref g, .ref q, .ref P, .ref e1, .ref e2, .ref e3, .int am])), (e1, .inl (cy.1, 12, .inl enA)), (e2, .inl (cy.1, 12, .inl vaA)), (e3, .inl (cy.2.1, 12, .inl miA)), (q, .inr (3, [.ref a, .ref b, .int ty, .int (nI nn)])), (a, .inl (cy.1, 12, .inl ab)), (b, .inl (cy.1, 12, .inl (fun z => nI (sl z)))), (P, .inr (2, [.ref g, .ref q, .ref p1, .ref p2, .ref p3, .ref p4, .int cnt, .int ln, .int kn, .int th])), (p4, .inl (cy.1, 12, .inl svA)), (g, .inr (1, [.ref a1, .ref a2, .ref a3, .ref a4, .ref a5, .int fa])), (a5, .inl (cy.1, 640, .inl (fun z => vl (z / 20) (z % 20))))]) [(A, .inr (0, [.ref g, .ref q, .ref P, .ref e1, .ref e2, .ref e3, .int am])), (e1, .inl (cy.1, 12, .inl (upd u1 n (nI key)))), (e2, .inl (cy.1, 12, .inl u2)), (e3, .inl (cy.2.1, 12, .inl u3)), (q, .inr (3, [.ref a, .ref b, .int ty, .int (nI nn)])), (a, .inl (cy.1, 12, .inl ab)), (b, .inl (cy.1, 12, .inl (fun z => nI (sl z)))), (P, .inr (2, [.ref g, .ref q, .ref p1, .ref p2, .ref p3, .ref p4, .int cnt, .int ln, .int kn, .int th])), (p4, .inl (cy.1, 12, .inl svA)), (g, .inr (1, [.ref a1, .ref a2, .ref a3, .ref a4, .ref a5, .int fa])), (a5, .inl (cy.1, 640, .inl (fun z => vl (z / 20) (z % 20))))] := hD
                refine lv_aload_n hx hb dX0_readValues_85 rfl (lv_at hl 3 rfl) ?_
                refine va_get (D := D) (ci := 0) (v := .ref e2) (C := RX0) (T := TX0) (N := 7) hx hb hts in_wsX0_readValues_X0 hown hK.1 hP 0 rfl rfl 4 (by decide) (hts _ lk141_wsX0_readValues) (fun _ h9 => h9) rfl dX0_readValues_86 ?_
                refine lv_iload_n hx hb dX0_readValues_89 rfl (lv_at hl 6 rfl) ?_
                refine lv_iload hx hb dX0_readValues_90 (lv_at hl 0 rfl) ?_
                refine lv_if_eq (tgt := 99) hx hb dX0_readValues_92 (by decide) (fun cb7 => ?_) (fun cb7 => ?_)
                · have cb7 : 1 = 0 := zn_eq_t (a := 1) (b := 0) (by omega) (by omega) cb7
                  exact absurd cb7 (by decide)
                · have cb7 : ¬ (1 = 0) := zn_eq_f (a := 1) (b := 0) (by omega) (by omega) cb7
                  refine lv_iconst (v := (-1 : Int32)) hx hb dX0_readValues_95 (by decide) ?_
                  refine lv_goto (tgt := 116) hx hb dX0_readValues_96 (by decide) ?_
                  have hval : aRV ab sl sv vl fl key n = -1 := by rw [hstep, hbt]; rfl
                  refine z_iast (g := upd u2 n ((-1 : Int32))) hx hb hK.1 hP hD hS 2 0 rfl rfl (k := n) (by omega) (by decide) (fun _ _ => rfl) dX0_readValues_116 (fun H locs hP hD hS => ?_)
                  have hP : va_P D vwCl [(A, .inr (0, [.ref g, .ref q, .ref P, .ref e1, .ref e2, .ref e3, .int am])), (e1, .inl (cy.1, 12, .inl (upd u1 n (nI key)))), (e2, .inl (cy.1, 12, .inl (upd u2 n ((-1 : Int32))))), (e3, .inl (cy.2.1, 12, .inl u3)), (q, .inr (3, [.ref a, .ref b, .int ty, .int (nI nn)])), (a, .inl (cy.1, 12, .inl ab)), (b, .inl (cy.1, 12, .inl (fun z => nI (sl z)))), (P, .inr (2, [.ref g, .ref q, .ref p1, .ref p2, .ref p3, .ref p4, .int cnt, .int ln, .int kn, .int th])), (p4, .inl (cy.1, 12, .inl svA)), (g, .inr (1, [.ref a1, .ref a2, .ref a3, .ref a4, .ref a5, .int fa])), (a5, .inl (cy.1, 640, .inl (fun z => vl (z / 20) (z % 20))))] H := hP
                  have hD : va_D (zIn [(A, .inr (0, [.ref g, .ref q, .ref P, .ref e1, .ref e2, .ref e3, .int am])), (e1, .inl (cy.1, 12, .inl enA)), (e2, .inl (cy.1, 12, .inl vaA)), (e3, .inl (cy.2.1, 12, .inl miA)), (q, .inr (3, [.ref a, .ref b, .int ty, .int (nI nn)])), (a, .inl (cy.1, 12, .inl ab)), (b, .inl (cy.1, 12, .inl (fun z => nI (sl z)))), (P, .inr (2, [.ref g, .ref q, .ref p1, .ref p2, .ref p3, .ref p4, .int cnt, .int ln, .int kn, .int th])), (p4, .inl (cy.1, 12, .inl svA)), (g, .inr (1, [.ref a1, .ref a2, .ref a3, .ref a4, .ref a5, .int fa])), (a5, .inl (cy.1, 640, .inl (fun z => vl (z / 20) (z % 20))))]) [(A, .inr (0, [.ref g, .ref q, .ref P, .ref e1, .ref e2, .ref e3, .int am])), (e1, .inl (cy.1, 12, .inl (upd u1 n (nI key)))), (e2, .inl (cy.1, 12, .inl (upd u2 n ((-1 : Int32))))), (e3, .inl (cy.2.1, 12, .inl u3)), (q, .inr (3, [.ref a, .ref b, .int ty, .int (nI nn)])), (a, .inl (cy.1, 12, .inl ab)), (b, .inl (cy.1, 12, .inl (fun z => nI (sl z)))), (P, .inr (2, [.ref g, .ref q, .ref p1, .ref p2, .ref p3, .ref p4, .int cnt, .int ln, .int kn, .int th])), (p4, .inl (cy.1, 12, .inl svA)), (g, .inr (1, [.ref a1, .ref a2, .ref a3, .ref a4, .ref a5, .int fa])), (a5, .inl (cy.1, 640, .inl (fun z => vl (z / 20) (z % 20))))] := hD
                  refine lv_aload_n hx hb dX0_readValues_117 rfl (lv_at hl 3 rfl) ?_
                  refine va_get (D := D) (ci := 0) (v := .ref e3) (C := RX0) (T := TX0) (N := 7) hx hb hts in_wsX0_readValues_X0 hown hK.1 hP 0 rfl rfl 5 (by decide) (hts _ lk143_wsX0_readValues) (fun _ h9 => h9) rfl dX0_readValues_118 ?_
                  refine lv_iload_n hx hb dX0_readValues_121 rfl (lv_at hl 6 rfl) ?_
                  refine lv_aload_n hx hb dX0_readValues_122 rfl (lv_at hl 3 rfl) ?_
                  refine va_get (D := D) (ci := 0) (v := .ref e2) (C := RX0) (T := TX0) (N := 7) hx hb hts in_wsX0_readValues_X0 hown hK.1 hP 0 rfl rfl 4 (by decide) (hts _ lk141_wsX0_readValues) (fun _ h9 => h9) rfl dX0_readValues_123 ?_
                  refine lv_iload_n hx hb dX0_readValues_126 rfl (lv_at hl 6 rfl) ?_
                  refine z_iald (v := (-1 : Int32)) hx hb hK.1 hP 2 0 rfl rfl (k := n) (by omega) (by decide) (by show upd u2 n _ n = _; unfold upd; rw [if_pos rfl]) dX0_readValues_127 ?_
                  refine lv_iconst (v := (-1 : Int32)) hx hb dX0_readValues_128 (by decide) ?_
                  refine lv_icmp_ne (tgt := 136) hx hb dX0_readValues_129 (by decide) (fun cb8 => ?_) (fun cb8 => ?_)
                  · skip
                    exact absurd rfl cb8
                  · skip
                    refine lv_iconst (v := nI 1) hx hb dX0_readValues_132 (by decide) ?_
                    refine lv_goto (tgt := 137) hx hb dX0_readValues_133 (by decide) ?_
                    refine z_zast (g := upd u3 n (nI 1)) hx hb hK.1 hP hD hS 3 1 rfl rfl (k := n) (by omega) (by decide) (by decide) (fun _ _ => rfl) dX0_readValues_137 (fun H locs hP hD hS => ?_)
                    have hP : va_P D vwCl [(A, .inr (0, [.ref g, .ref q, .ref P, .ref e1, .ref e2, .ref e3, .int am])), (e1, .inl (cy.1, 12, .inl (upd u1 n (nI key)))), (e2, .inl (cy.1, 12, .inl (upd u2 n ((-1 : Int32))))), (e3, .inl (cy.2.1, 12, .inl (upd u3 n (nI 1)))), (q, .inr (3, [.ref a, .ref b, .int ty, .int (nI nn)])), (a, .inl (cy.1, 12, .inl ab)), (b, .inl (cy.1, 12, .inl (fun z => nI (sl z)))), (P, .inr (2, [.ref g, .ref q, .ref p1, .ref p2, .ref p3, .ref p4, .int cnt, .int ln, .int kn, .int th])), (p4, .inl (cy.1, 12, .inl svA)), (g, .inr (1, [.ref a1, .ref a2, .ref a3, .ref a4, .ref a5, .int fa])), (a5, .inl (cy.1, 640, .inl (fun z => vl (z / 20) (z % 20))))] H := hP
                    have hD : va_D (zIn [(A, .inr (0, [.ref g, .ref q, .ref P, .ref e1, .ref e2, .ref e3, .int am])), (e1, .inl (cy.1, 12, .inl enA)), (e2, .inl (cy.1, 12, .inl vaA)), (e3, .inl (cy.2.1, 12, .inl miA)), (q, .inr (3, [.ref a, .ref b, .int ty, .int (nI nn)])), (a, .inl (cy.1, 12, .inl ab)), (b, .inl (cy.1, 12, .inl (fun z => nI (sl z)))), (P, .inr (2, [.ref g, .ref q, .ref p1, .ref p2, .ref p3, .ref p4, .int cnt, .int ln, .int kn, .int th])), (p4, .inl (cy.1, 12, .inl svA)), (g, .inr (1, [.ref a1, .ref a2, .ref a3, .ref a4, .ref a5, .int fa])), (a5, .inl (cy.1, 640, .inl (fun z => vl (z / 20) (z % 20))))]) [(A, .inr (0, [.ref g, .ref q, .ref P, .ref e1, .ref e2, .ref e3, .int am])), (e1, .inl (cy.1, 12, .inl (upd u1 n (nI key)))), (e2, .inl (cy.1, 12, .inl (upd u2 n ((-1 : Int32))))), (e3, .inl (cy.2.1, 12, .inl (upd u3 n (nI 1)))), (q, .inr (3, [.ref a, .ref b, .int ty, .int (nI nn)])), (a, .inl (cy.1, 12, .inl ab)), (b, .inl (cy.1, 12, .inl (fun z => nI (sl z)))), (P, .inr (2, [.ref g, .ref q, .ref p1, .ref p2, .ref p3, .ref p4, .int cnt, .int ln, .int kn, .int th])), (p4, .inl (cy.1, 12, .inl svA)), (g, .inr (1, [.ref a1, .ref a2, .ref a3, .ref a4, .ref a5, .int fa])), (a5, .inl (cy.1, 640, .inl (fun z => vl (z / 20) (z % 20))))] := hD
                    refine lv_iinc (v := nI (n + 1)) (lv' := [(3, .int (nI (n + 1))), (6, .int (nI 1)), (5, .int (nI key)), (4, .int ((-1 : Int32))), (0, .ref A), (1, .int (nI key)), (2, .int (nI fl))]) hx hb dX0_readValues_138 hl (k := 6) rfl (z_inc _) (by decide) rfl (fun ls hl => ?_)
                    refine lv_goto (tgt := 2) hx hb dX0_readValues_141 (by decide) ?_
                    exact ih_lo (n + 1) (upd u1 n (nI key)) (upd u2 n (-1 : Int32)) (upd u3 n (nI 1)) (by omega) (by omega) (lt_s (fun k hk => by unfold upd; rw [if_neg (by omega), if_neg (by omega), if_neg (by omega)]; exact hcp k hk) (by unfold upd; rw [if_pos rfl, if_pos rfl, if_pos rfl]; exact ⟨hent.symm, hval.symm, by rw [hval]; exact (bI_yes rfl)⟩)) _ _ _ hP hD hS (lv_sub hl [4, 5, 6, 0] rfl)
            · have cb3 : ¬ (0 = 0) := zn_eq_f (a := 0) (b := 0) (by omega) (by omega) cb3
              exact absurd cb3 (by decide)
          · skip
            refine lv_aload_n hx hb dX0_readValues_19 rfl (lv_at hl 0 rfl) ?_
            refine va_get (D := D) (ci := 0) (v := .ref q) (C := RX0) (T := TX0) (N := 7) hx hb hts in_wsX0_readValues_X0 hown hK.1 hP 0 rfl rfl 1 (by decide) (hts _ lk135_wsX0_readValues) (fun _ h9 => h9) rfl dX0_readValues_20 ?_
            refine lv_iload_n hx hb dX0_readValues_23 rfl (lv_at hl 3 rfl) ?_
            refine z_callV (b := q) (As := [.int (nI n)]) (rest := []) ⟨hx, hb, hml, hown, hts⟩ hK hP hS (c_X3_aboveOf (i := 4) (j := 5) rfl rfl hn (z := n) (by omega)) (cwV 1 hts gX0_readValues_X3_aboveOf rfl rfl rfl k_yX3_aboveOf ⟨Nat.le_of_ble_eq_true rfl, Nat.le_of_ble_eq_true rfl⟩) 4 3 rfl rfl rfl rfl hl.1 rfl rfl dX0_readValues_24 ⟨Nat.le_of_ble_eq_true rfl, Nat.le_of_ble_eq_true rfl⟩ (fun H locs hP hS => ?_)
            refine z_top (y := nI r) hpl ?_
            refine lv_istore (lv' := [(4, .int (nI r)), (0, .ref A), (1, .int (nI key)), (2, .int (nI fl)), (3, .int (nI n))]) hx hb dX0_readValues_27 hl (by decide) rfl (fun ls hl => ?_)
            refine lv_aload_n hx hb dX0_readValues_29 rfl (lv_at hl 1 rfl) ?_
            refine va_get (D := D) (ci := 0) (v := .ref q) (C := RX0) (T := TX0) (N := 7) hx hb hts in_wsX0_readValues_X0 hown hK.1 hP 0 rfl rfl 1 (by decide) (hts _ lk135_wsX0_readValues) (fun _ h9 => h9) rfl dX0_readValues_30 ?_
            refine lv_iload hx hb dX0_readValues_33 (lv_at hl 0 rfl) ?_
            refine z_callV (b := q) (As := [.int (nI r)]) (rest := []) ⟨hx, hb, hml, hown, hts⟩ hK hP hS (c_X3_has_in (i := 4) rfl hn (k := r) (by omega)) (cwV 1 hts gX0_readValues_X3_has rfl rfl rfl k_yX3_has ⟨Nat.le_of_ble_eq_true rfl, Nat.le_of_ble_eq_true rfl⟩) 4 3 rfl rfl rfl rfl hl.1 rfl rfl dX0_readValues_35 ⟨Nat.le_of_ble_eq_true rfl, Nat.le_of_ble_eq_true rfl⟩ (fun H locs hP hS => ?_)
            refine lv_if_eq (tgt := 51) hx hb dX0_readValues_38 (by decide) (fun cb9 => ?_) (fun cb9 => ?_)
            · have cb9 : 1 = 0 := zn_eq_t (a := 1) (b := 0) (by omega) (by omega) cb9
              exact absurd cb9 (by decide)
            · have cb9 : ¬ (1 = 0) := zn_eq_f (a := 1) (b := 0) (by omega) (by omega) cb9
              refine lv_aload_n hx hb dX0_readValues_41 rfl (lv_at hl 1 rfl) ?_
              refine va_get (D := D) (ci := 0) (v := .ref e2) (C := RX0) (T := TX0) (N := 7) hx hb hts in_wsX0_readValues_X0 hown hK.1 hP 0 rfl rfl 4 (by decide) (hts _ lk141_wsX0_readValues) (fun _ h9 => h9) rfl dX0_readValues_42 ?_
              refine lv_iload hx hb dX0_readValues_45 (lv_at hl 0 rfl) ?_
              refine z_iald (v := (aRV ab sl sv vl fl key r)) hx hb hK.1 hP 2 0 rfl rfl (k := r) (by omega) (by decide) (hcp r hrn).2.1 dX0_readValues_47 ?_
              refine lv_goto (tgt := 52) hx hb dX0_readValues_48 (by decide) ?_
              refine lv_istore (lv' := [(5, .int ((aRV ab sl sv vl fl key r))), (4, .int (nI r)), (0, .ref A), (1, .int (nI key)), (2, .int (nI fl)), (3, .int (nI n))]) hx hb dX0_readValues_52 hl (by decide) rfl (fun ls hl => ?_)
              have hent : aEN ab sl sv vl fl key n = aRV ab sl sv vl fl key r := aEN_at (by omega) hpl
              refine lv_iload_n hx hb dX0_readValues_54 rfl (lv_at hl 4 rfl) ?_
              refine lv_aload_n hx hb dX0_readValues_55 rfl (lv_at hl 2 rfl) ?_
              refine va_get (D := D) (ci := 0) (v := .ref P) (C := RX0) (T := TX0) (N := 7) hx hb hts in_wsX0_readValues_X0 hown hK.1 hP 0 rfl rfl 2 (by decide) (hts _ lk137_wsX0_readValues) (fun _ h9 => h9) rfl dX0_readValues_56 ?_
              refine lv_iload_n hx hb dX0_readValues_59 rfl (lv_at hl 5 rfl) ?_
              refine z_callV (b := P) (As := [.int (nI n)]) (rest := [.int (nI fl)]) ⟨hx, hb, hml, hown, hts⟩ hK hP hS (c_X2_serviceOf (i := 7) (i4 := 8) (iq := 4) rfl rfl rfl hn (k := n) (by omega)) (cwV 1 hts gX0_readValues_X2_serviceOf rfl rfl rfl k_yX2_serviceOf ⟨Nat.le_of_ble_eq_true rfl, Nat.le_of_ble_eq_true rfl⟩) 7 2 rfl rfl rfl rfl hl.1 rfl rfl dX0_readValues_60 ⟨Nat.le_of_ble_eq_true rfl, Nat.le_of_ble_eq_true rfl⟩ (fun H locs hP hS => ?_)
              refine z_top (y := nI (sv n)) hsv1 ?_
              refine z_callSN (As := [.int (nI (sv n))]) (rest := [.int (nI fl)]) ⟨hx, hb, hml, hown, hts⟩ hK hP hS (c_X4_bit (k := sv n) (by omega)) ⟨va_cnB 1 hts gX0_readValues_X4_bit_n74 rfl rfl rfl hK.2.2.2.2.2.2.2 (hts _ lk138_wsX0_readValues) k_yX4_bit ⟨Nat.le_of_ble_eq_true rfl, Nat.le_of_ble_eq_true rfl⟩, hts _ lk139_wsX0_readValues, trivial⟩ rfl hl.1 rfl rfl dX0_readValues_63 ⟨Nat.le_of_ble_eq_true rfl, Nat.le_of_ble_eq_true rfl⟩ (fun H locs hP hS => ?_)
              refine lv_iand hx hb dX0_readValues_66 ?_
              refine z_top (y := (nI fl &&& nI (2 ^ sv n))) rfl ?_
              refine lv_if_eq (tgt := 74) hx hb dX0_readValues_67 (by decide) (fun cb10 => ?_) (fun cb10 => ?_)
              · skip
                have hbt := z_bitF _ hfl _ hsv4 cb10
                refine lv_iconst (v := nI 0) hx hb dX0_readValues_74 (by decide) ?_
                refine lv_istore (lv' := [(6, .int (nI 0)), (5, .int ((aRV ab sl sv vl fl key r))), (4, .int (nI r)), (0, .ref A), (1, .int (nI key)), (2, .int (nI fl)), (3, .int (nI n))]) hx hb dX0_readValues_75 hl (by decide) rfl (fun ls hl => ?_)
                refine lv_aload_n hx hb dX0_readValues_77 rfl (lv_at hl 3 rfl) ?_
                refine va_get (D := D) (ci := 0) (v := .ref e1) (C := RX0) (T := TX0) (N := 7) hx hb hts in_wsX0_readValues_X0 hown hK.1 hP 0 rfl rfl 3 (by decide) (hts _ lk140_wsX0_readValues) (fun _ h9 => h9) rfl dX0_readValues_78 ?_
                refine lv_iload_n hx hb dX0_readValues_81 rfl (lv_at hl 6 rfl) ?_
                refine lv_iload hx hb dX0_readValues_82 (lv_at hl 1 rfl) ?_
                refine z_iast (g := upd u1 n ((aRV ab sl sv vl fl key r))) hx hb hK.1 hP hD hS 1 0 rfl rfl (k := n) (by omega) (by decide) (fun _ _ => rfl) dX0_readValues_84 (fun H locs hP hD hS => ?_)
                have hP : va_P D vwCl [(A, .inr (0, [.ref g, .ref q, .ref P, .ref e1, .ref e2, .ref e3, .int am])), (e1, .inl (cy.1, 12, .inl (upd u1 n ((aRV ab sl sv vl fl key r))))), (e2, .inl (cy.1, 12, .inl u2)), (e3, .inl (cy.2.1, 12, .inl u3)), (q, .inr (3, [.ref a, .ref b, .int ty, .int (nI nn)])), (a, .inl (cy.1, 12, .inl ab)), (b, .inl (cy.1, 12, .inl (fun z => nI (sl z)))), (P, .inr (2, [.ref g, .ref q, .ref p1, .ref p2, .ref p3, .ref p4, .int cnt, .int ln, .int kn, .int th])), (p4, .inl (cy.1, 12, .inl svA)), (g, .inr (1, [.ref a1, .ref a2, .ref a3, .ref a4, .ref a5, .int fa])), (a5, .inl (cy.1, 640, .inl (fun z => vl (z / 20) (z % 20))))] H := hP
                have hD : va_D (zIn [(A, .inr (0, [.ref g, .ref q, .ref P, .ref e1, .ref e2, .ref e3, .int am])), (e1, .inl (cy.1, 12, .inl enA)), (e2, .inl (cy.1, 12, .inl vaA)), (e3, .inl (cy.2.1, 12, .inl miA)), (q, .inr (3, [.ref a, .ref b, .int ty, .int (nI nn)])), (a, .inl (cy.1, 12, .inl ab)), (b, .inl (cy.1, 12, .inl (fun z => nI (sl z)))), (P, .inr (2, [.ref g, .ref q, .ref p1, .ref p2, .ref p3, .ref p4, .int cnt, .int ln, .int kn, .int th])), (p4, .inl (cy.1, 12, .inl svA)), (g, .inr (1, [.ref a1, .ref a2, .ref a3, .ref a4, .ref a5, .int fa])), (a5, .inl (cy.1, 640, .inl (fun z => vl (z / 20) (z % 20))))]) [(A, .inr (0, [.ref g, .ref q, .ref P, .ref e1, .ref e2, .ref e3, .int am])), (e1, .inl (cy.1, 12, .inl (upd u1 n ((aRV ab sl sv vl fl key r))))), (e2, .inl (cy.1, 12, .inl u2)), (e3, .inl (cy.2.1, 12, .inl u3)), (q, .inr (3, [.ref a, .ref b, .int ty, .int (nI nn)])), (a, .inl (cy.1, 12, .inl ab)), (b, .inl (cy.1, 12, .inl (fun z => nI (sl z)))), (P, .inr (2, [.ref g, .ref q, .ref p1, .ref p2, .ref p3, .ref p4, .int cnt, .int ln, .int kn, .int th])), (p4, .inl (cy.1, 12, .inl svA)), (g, .inr (1, [.ref a1, .ref a2, .ref a3, .ref a4, .ref a5, .int fa])), (a5, .inl (cy.1, 640, .inl (fun z => vl (z / 20) (z % 20))))] := hD
                refine lv_aload_n hx hb dX0_readValues_85 rfl (lv_at hl 3 rfl) ?_
                refine va_get (D := D) (ci := 0) (v := .ref e2) (C := RX0) (T := TX0) (N := 7) hx hb hts in_wsX0_readValues_X0 hown hK.1 hP 0 rfl rfl 4 (by decide) (hts _ lk141_wsX0_readValues) (fun _ h9 => h9) rfl dX0_readValues_86 ?_
                refine lv_iload_n hx hb dX0_readValues_89 rfl (lv_at hl 6 rfl) ?_
                refine lv_iload hx hb dX0_readValues_90 (lv_at hl 0 rfl) ?_
                refine lv_if_eq (tgt := 99) hx hb dX0_readValues_92 (by decide) (fun cb11 => ?_) (fun cb11 => ?_)
                · have cb11 : 0 = 0 := zn_eq_t (a := 0) (b := 0) (by omega) (by omega) cb11
                  refine lv_aload_n hx hb dX0_readValues_99 rfl (lv_at hl 3 rfl) ?_
                  refine va_get (D := D) (ci := 0) (v := .ref g) (C := RX0) (T := TX0) (N := 7) hx hb hts in_wsX0_readValues_X0 hown hK.1 hP 0 rfl rfl 0 (by decide) (hts _ lk142_wsX0_readValues) (fun _ h9 => h9) rfl dX0_readValues_100 ?_
                  refine lv_aload_n hx hb dX0_readValues_103 rfl (lv_at hl 3 rfl) ?_
                  refine va_get (D := D) (ci := 0) (v := .ref q) (C := RX0) (T := TX0) (N := 7) hx hb hts in_wsX0_readValues_X0 hown hK.1 hP 0 rfl rfl 1 (by decide) (hts _ lk135_wsX0_readValues) (fun _ h9 => h9) rfl dX0_readValues_104 ?_
                  refine lv_iload_n hx hb dX0_readValues_107 rfl (lv_at hl 6 rfl) ?_
                  refine z_callV (b := q) (As := [.int (nI n)]) (rest := [.ref g, .int (nI n), .ref e2]) ⟨hx, hb, hml, hown, hts⟩ hK hP hS (c_X3_slotAt (i := 4) (j := 6) rfl rfl hn (z := n) (by omega)) (cwV 1 hts gX0_readValues_X3_slotAt rfl rfl rfl k_yX3_slotAt ⟨Nat.le_of_ble_eq_true rfl, Nat.le_of_ble_eq_true rfl⟩) 4 3 rfl rfl rfl rfl hl.1 rfl rfl dX0_readValues_108 ⟨Nat.le_of_ble_eq_true rfl, Nat.le_of_ble_eq_true rfl⟩ (fun H locs hP hS => ?_)
                  refine lv_iload hx hb dX0_readValues_111 (lv_at hl 1 rfl) ?_
                  refine z_callV (b := g) (As := [.int (nI (sl n)), .int ((aRV ab sl sv vl fl key r))]) (rest := [.int (nI n), .ref e2]) ⟨hx, hb, hml, hown, hts⟩ hK hP hS (c_X1_valueOf_o (i := 9) (j := 10) rfl rfl (t := sl n) (x := (aRV ab sl sv vl fl key r)) (hQ n (by omega)).1 (hent ▸ hrng)) (cwV 2 hts gX0_readValues_X1_valueOf rfl rfl rfl k_yX1_valueOf ⟨Nat.le_of_ble_eq_true rfl, Nat.le_of_ble_eq_true rfl⟩) 9 1 rfl rfl rfl rfl hl.1 rfl rfl dX0_readValues_113 ⟨Nat.le_of_ble_eq_true rfl, Nat.le_of_ble_eq_true rfl⟩ (fun H locs hP hS => ?_)
                  have hval : aRV ab sl sv vl fl key n = (zVl vl (sl n) (aRV ab sl sv vl fl key r)) := by rw [hstep, hbt, hent]; rfl
                  refine z_iast (g := upd u2 n ((zVl vl (sl n) ((aRV ab sl sv vl fl key r))))) hx hb hK.1 hP hD hS 2 0 rfl rfl (k := n) (by omega) (by decide) (fun _ _ => rfl) dX0_readValues_116 (fun H locs hP hD hS => ?_)
                  have hP : va_P D vwCl [(A, .inr (0, [.ref g, .ref q, .ref P, .ref e1, .ref e2, .ref e3, .int am])), (e1, .inl (cy.1, 12, .inl (upd u1 n ((aRV ab sl sv vl fl key r))))), (e2, .inl (cy.1, 12, .inl (upd u2 n ((zVl vl (sl n) ((aRV ab sl sv vl fl key r))))))), (e3, .inl (cy.2.1, 12, .inl u3)), (q, .inr (3, [.ref a, .ref b, .int ty, .int (nI nn)])), (a, .inl (cy.1, 12, .inl ab)), (b, .inl (cy.1, 12, .inl (fun z => nI (sl z)))), (P, .inr (2, [.ref g, .ref q, .ref p1, .ref p2, .ref p3, .ref p4, .int cnt, .int ln, .int kn, .int th])), (p4, .inl (cy.1, 12, .inl svA)), (g, .inr (1, [.ref a1, .ref a2, .ref a3, .ref a4, .ref a5, .int fa])), (a5, .inl (cy.1, 640, .inl (fun z => vl (z / 20) (z % 20))))] H := hP
                  have hD : va_D (zIn [(A, .inr (0, [.ref g, .ref q, .ref P, .ref e1, .ref e2, .ref e3, .int am])), (e1, .inl (cy.1, 12, .inl enA)), (e2, .inl (cy.1, 12, .inl vaA)), (e3, .inl (cy.2.1, 12, .inl miA)), (q, .inr (3, [.ref a, .ref b, .int ty, .int (nI nn)])), (a, .inl (cy.1, 12, .inl ab)), (b, .inl (cy.1, 12, .inl (fun z => nI (sl z)))), (P, .inr (2, [.ref g, .ref q, .ref p1, .ref p2, .ref p3, .ref p4, .int cnt, .int ln, .int kn, .int th])), (p4, .inl (cy.1, 12, .inl svA)), (g, .inr (1, [.ref a1, .ref a2, .ref a3, .ref a4, .ref a5, .int fa])), (a5, .inl (cy.1, 640, .inl (fun z => vl (z / 20) (z % 20))))]) [(A, .inr (0, [.ref g, .ref q, .ref P, .ref e1, .ref e2, .ref e3, .int am])), (e1, .inl (cy.1, 12, .inl (upd u1 n ((aRV ab sl sv vl fl key r))))), (e2, .inl (cy.1, 12, .inl (upd u2 n ((zVl vl (sl n) ((aRV ab sl sv vl fl key r))))))), (e3, .inl (cy.2.1, 12, .inl u3)), (q, .inr (3, [.ref a, .ref b, .int ty, .int (nI nn)])), (a, .inl (cy.1, 12, .inl ab)), (b, .inl (cy.1, 12, .inl (fun z => nI (sl z)))), (P, .inr (2, [.ref g, .ref q, .ref p1, .ref p2, .ref p3, .ref p4, .int cnt, .int ln, .int kn, .int th])), (p4, .inl (cy.1, 12, .inl svA)), (g, .inr (1, [.ref a1, .ref a2, .ref a3, .ref a4, .ref a5, .int fa])), (a5, .inl (cy.1, 640, .inl (fun z => vl (z / 20) (z % 20))))] := hD
                  refine lv_aload_n hx hb dX0_readValues_117 rfl (lv_at hl 3 rfl) ?_
                  refine va_get (D := D) (ci := 0) (v := .ref e3) (C := RX0) (T := TX0) (N := 7) hx hb hts in_wsX0_readValues_X0 hown hK.1 hP 0 rfl rfl 5 (by decide) (hts _ lk143_wsX0_readValues) (fun _ h9 => h9) rfl dX0_readValues_118 ?_
                  refine lv_iload_n hx hb dX0_readValues_121 rfl (lv_at hl 6 rfl) ?_
                  refine lv_aload_n hx hb dX0_readValues_122 rfl (lv_at hl 3 rfl) ?_
                  refine va_get (D := D) (ci := 0) (v := .ref e2) (C := RX0) (T := TX0) (N := 7) hx hb hts in_wsX0_readValues_X0 hown hK.1 hP 0 rfl rfl 4 (by decide) (hts _ lk141_wsX0_readValues) (fun _ h9 => h9) rfl dX0_readValues_123 ?_
                  refine lv_iload_n hx hb dX0_readValues_126 rfl (lv_at hl 6 rfl) ?_
                  refine z_iald (v := (zVl vl (sl n) (aRV ab sl sv vl fl key r))) hx hb hK.1 hP 2 0 rfl rfl (k := n) (by omega) (by decide) (by show upd u2 n _ n = _; unfold upd; rw [if_pos rfl]) dX0_readValues_127 ?_
                  refine lv_iconst (v := (-1 : Int32)) hx hb dX0_readValues_128 (by decide) ?_
                  refine lv_icmp_ne (tgt := 136) hx hb dX0_readValues_129 (by decide) (fun cb12 => ?_) (fun cb12 => ?_)
                  · skip
                    refine lv_iconst (v := nI 0) hx hb dX0_readValues_136 (by decide) ?_
                    refine z_zast (g := upd u3 n (nI 0)) hx hb hK.1 hP hD hS 3 1 rfl rfl (k := n) (by omega) (by decide) (by decide) (fun _ _ => rfl) dX0_readValues_137 (fun H locs hP hD hS => ?_)
                    have hP : va_P D vwCl [(A, .inr (0, [.ref g, .ref q, .ref P, .ref e1, .ref e2, .ref e3, .int am])), (e1, .inl (cy.1, 12, .inl (upd u1 n ((aRV ab sl sv vl fl key r))))), (e2, .inl (cy.1, 12, .inl (upd u2 n ((zVl vl (sl n) ((aRV ab sl sv vl fl key r))))))), (e3, .inl (cy.2.1, 12, .inl (upd u3 n (nI 0)))), (q, .inr (3, [.ref a, .ref b, .int ty, .int (nI nn)])), (a, .inl (cy.1, 12, .inl ab)), (b, .inl (cy.1, 12, .inl (fun z => nI (sl z)))), (P, .inr (2, [.ref g, .ref q, .ref p1, .ref p2, .ref p3, .ref p4, .int cnt, .int ln, .int kn, .int th])), (p4, .inl (cy.1, 12, .inl svA)), (g, .inr (1, [.ref a1, .ref a2, .ref a3, .ref a4, .ref a5, .int fa])), (a5, .inl (cy.1, 640, .inl (fun z => vl (z / 20) (z % 20))))] H := hP
                    have hD : va_D (zIn [(A, .inr (0, [.ref g, .ref q, .ref P, .ref e1, .ref e2, .ref e3, .int am])), (e1, .inl (cy.1, 12, .inl enA)), (e2, .inl (cy.1, 12, .inl vaA)), (e3, .inl (cy.2.1, 12, .inl miA)), (q, .inr (3, [.ref a, .ref b, .int ty, .int (nI nn)])), (a, .inl (cy.1, 12, .inl ab)), (b, .inl (cy.1, 12, .inl (fun z => nI (sl z)))), (P, .inr (2, [.ref g, .ref q, .ref p1, .ref p2, .ref p3, .ref p4, .int cnt, .int ln, .int kn, .int th])), (p4, .inl (cy.1, 12, .inl svA)), (g, .inr (1, [.ref a1, .ref a2, .ref a3, .ref a4, .ref a5, .int fa])), (a5, .inl (cy.1, 640, .inl (fun z => vl (z / 20) (z % 20))))]) [(A, .inr (0, [.ref g, .ref q, .ref P, .ref e1, .ref e2, .ref e3, .int am])), (e1, .inl (cy.1, 12, .inl (upd u1 n ((aRV ab sl sv vl fl key r))))), (e2, .inl (cy.1, 12, .inl (upd u2 n ((zVl vl (sl n) ((aRV ab sl sv vl fl key r))))))), (e3, .inl (cy.2.1, 12, .inl (upd u3 n (nI 0)))), (q, .inr (3, [.ref a, .ref b, .int ty, .int (nI nn)])), (a, .inl (cy.1, 12, .inl ab)), (b, .inl (cy.1, 12, .inl (fun z => nI (sl z)))), (P, .inr (2, [.ref g, .ref q, .ref p1, .ref p2, .ref p3, .ref p4, .int cnt, .int ln, .int kn, .int th])), (p4, .inl (cy.1, 12, .inl svA)), (g, .inr (1, [.ref a1, .ref a2, .ref a3, .ref a4, .ref a5, .int fa])), (a5, .inl (cy.1, 640, .inl (fun z => vl (z / 20) (z % 20))))] := hD
                    refine lv_iinc (v := nI (n + 1)) (lv' := [(3, .int (nI (n + 1))), (6, .int (nI 0)), (5, .int ((aRV ab sl sv vl fl key r))), (4, .int (nI r)), (0, .ref A), (1, .int (nI key)), (2, .int (nI fl))]) hx hb dX0_readValues_138 hl (k := 6) rfl (z_inc _) (by decide) rfl (fun ls hl => ?_)
                    refine lv_goto (tgt := 2) hx hb dX0_readValues_141 (by decide) ?_
                    exact ih_lo (n + 1) (upd u1 n (aRV ab sl sv vl fl key r)) (upd u2 n (zVl vl (sl n) (aRV ab sl sv vl fl key r))) (upd u3 n (nI 0)) (by omega) (by omega) (lt_s (fun k hk => by unfold upd; rw [if_neg (by omega), if_neg (by omega), if_neg (by omega)]; exact hcp k hk) (by unfold upd; rw [if_pos rfl, if_pos rfl, if_pos rfl]; exact ⟨hent.symm, hval.symm, by rw [hval]; exact (bI_no cb12)⟩)) _ _ _ hP hD hS (lv_sub hl [4, 5, 6, 0] rfl)
                  · skip
                    refine lv_iconst (v := nI 1) hx hb dX0_readValues_132 (by decide) ?_
                    refine lv_goto (tgt := 137) hx hb dX0_readValues_133 (by decide) ?_
                    refine z_zast (g := upd u3 n (nI 1)) hx hb hK.1 hP hD hS 3 1 rfl rfl (k := n) (by omega) (by decide) (by decide) (fun _ _ => rfl) dX0_readValues_137 (fun H locs hP hD hS => ?_)
                    have hP : va_P D vwCl [(A, .inr (0, [.ref g, .ref q, .ref P, .ref e1, .ref e2, .ref e3, .int am])), (e1, .inl (cy.1, 12, .inl (upd u1 n ((aRV ab sl sv vl fl key r))))), (e2, .inl (cy.1, 12, .inl (upd u2 n ((zVl vl (sl n) ((aRV ab sl sv vl fl key r))))))), (e3, .inl (cy.2.1, 12, .inl (upd u3 n (nI 1)))), (q, .inr (3, [.ref a, .ref b, .int ty, .int (nI nn)])), (a, .inl (cy.1, 12, .inl ab)), (b, .inl (cy.1, 12, .inl (fun z => nI (sl z)))), (P, .inr (2, [.ref g, .ref q, .ref p1, .ref p2, .ref p3, .ref p4, .int cnt, .int ln, .int kn, .int th])), (p4, .inl (cy.1, 12, .inl svA)), (g, .inr (1, [.ref a1, .ref a2, .ref a3, .ref a4, .ref a5, .int fa])), (a5, .inl (cy.1, 640, .inl (fun z => vl (z / 20) (z % 20))))] H := hP
                    have hD : va_D (zIn [(A, .inr (0, [.ref g, .ref q, .ref P, .ref e1, .ref e2, .ref e3, .int am])), (e1, .inl (cy.1, 12, .inl enA)), (e2, .inl (cy.1, 12, .inl vaA)), (e3, .inl (cy.2.1, 12, .inl miA)), (q, .inr (3, [.ref a, .ref b, .int ty, .int (nI nn)])), (a, .inl (cy.1, 12, .inl ab)), (b, .inl (cy.1, 12, .inl (fun z => nI (sl z)))), (P, .inr (2, [.ref g, .ref q, .ref p1, .ref p2, .ref p3, .ref p4, .int cnt, .int ln, .int kn, .int th])), (p4, .inl (cy.1, 12, .inl svA)), (g, .inr (1, [.ref a1, .ref a2, .ref a3, .ref a4, .ref a5, .int fa])), (a5, .inl (cy.1, 640, .inl (fun z => vl (z / 20) (z % 20))))]) [(A, .inr (0, [.ref g, .ref q, .ref P, .ref e1, .ref e2, .ref e3, .int am])), (e1, .inl (cy.1, 12, .inl (upd u1 n ((aRV ab sl sv vl fl key r))))), (e2, .inl (cy.1, 12, .inl (upd u2 n ((zVl vl (sl n) ((aRV ab sl sv vl fl key r))))))), (e3, .inl (cy.2.1, 12, .inl (upd u3 n (nI 1)))), (q, .inr (3, [.ref a, .ref b, .int ty, .int (nI nn)])), (a, .inl (cy.1, 12, .inl ab)), (b, .inl (cy.1, 12, .inl (fun z => nI (sl z)))), (P, .inr (2, [.ref g, .ref q, .ref p1, .ref p2, .ref p3, .ref p4, .int cnt, .int ln, .int kn, .int th])), (p4, .inl (cy.1, 12, .inl svA)), (g, .inr (1, [.ref a1, .ref a2, .ref a3, .ref a4, .ref a5, .int fa])), (a5, .inl (cy.1, 640, .inl (fun z => vl (z / 20) (z % 20))))] := hD
                    refine lv_iinc (v := nI (n + 1)) (lv' := [(3, .int (nI (n + 1))), (6, .int (nI 0)), (5, .int ((aRV ab sl sv vl fl key r))), (4, .int (nI r)), (0, .ref A), (1, .int (nI key)), (2, .int (nI fl))]) hx hb dX0_readValues_138 hl (k := 6) rfl (z_inc _) (by decide) rfl (fun ls hl => ?_)
                    refine lv_goto (tgt := 2) hx hb dX0_readValues_141 (by decide) ?_
                    exact ih_lo (n + 1) (upd u1 n (aRV ab sl sv vl fl key r)) (upd u2 n (zVl vl (sl n) (aRV ab sl sv vl fl key r))) (upd u3 n (nI 1)) (by omega) (by omega) (lt_s (fun k hk => by unfold upd; rw [if_neg (by omega), if_neg (by omega), if_neg (by omega)]; exact hcp k hk) (by unfold upd; rw [if_pos rfl, if_pos rfl, if_pos rfl]; exact ⟨hent.symm, hval.symm, by rw [hval]; exact (bI_yes cb12)⟩)) _ _ _ hP hD hS (lv_sub hl [4, 5, 6, 0] rfl)
                · have cb11 : ¬ (0 = 0) := zn_eq_f (a := 0) (b := 0) (by omega) (by omega) cb11
                  exact absurd cb11 (by decide)
              · skip
                have hbt := z_bitT _ hfl _ hsv4 cb10
                refine lv_iconst (v := nI 1) hx hb dX0_readValues_70 (by decide) ?_
                refine lv_goto (tgt := 75) hx hb dX0_readValues_71 (by decide) ?_
                refine lv_istore (lv' := [(6, .int (nI 1)), (5, .int ((aRV ab sl sv vl fl key r))), (4, .int (nI r)), (0, .ref A), (1, .int (nI key)), (2, .int (nI fl)), (3, .int (nI n))]) hx hb dX0_readValues_75 hl (by decide) rfl (fun ls hl => ?_)
                refine lv_aload_n hx hb dX0_readValues_77 rfl (lv_at hl 3 rfl) ?_
                refine va_get (D := D) (ci := 0) (v := .ref e1) (C := RX0) (T := TX0) (N := 7) hx hb hts in_wsX0_readValues_X0 hown hK.1 hP 0 rfl rfl 3 (by decide) (hts _ lk140_wsX0_readValues) (fun _ h9 => h9) rfl dX0_readValues_78 ?_
                refine lv_iload_n hx hb dX0_readValues_81 rfl (lv_at hl 6 rfl) ?_
                refine lv_iload hx hb dX0_readValues_82 (lv_at hl 1 rfl) ?_
                refine z_iast (g := upd u1 n ((aRV ab sl sv vl fl key r))) hx hb hK.1 hP hD hS 1 0 rfl rfl (k := n) (by omega) (by decide) (fun _ _ => rfl) dX0_readValues_84 (fun H locs hP hD hS => ?_)
                have hP : va_P D vwCl [(A, .inr (0, [.ref g, .ref q, .ref P, .ref e1, .ref e2, .ref e3, .int am])), (e1, .inl (cy.1, 12, .inl (upd u1 n ((aRV ab sl sv vl fl key r))))), (e2, .inl (cy.1, 12, .inl u2)), (e3, .inl (cy.2.1, 12, .inl u3)), (q, .inr (3, [.ref a, .ref b, .int ty, .int (nI nn)])), (a, .inl (cy.1, 12, .inl ab)), (b, .inl (cy.1, 12, .inl (fun z => nI (sl z)))), (P, .inr (2, [.ref g, .ref q, .ref p1, .ref p2, .ref p3, .ref p4, .int cnt, .int ln, .int kn, .int th])), (p4, .inl (cy.1, 12, .inl svA)), (g, .inr (1, [.ref a1, .ref a2, .ref a3, .ref a4, .ref a5, .int fa])), (a5, .inl (cy.1, 640, .inl (fun z => vl (z / 20) (z % 20))))] H := hP
                have hD : va_D (zIn [(A, .inr (0, [.ref g, .ref q, .ref P, .ref e1, .ref e2, .ref e3, .int am])), (e1, .inl (cy.1, 12, .inl enA)), (e2, .inl (cy.1, 12, .inl vaA)), (e3, .inl (cy.2.1, 12, .inl miA)), (q, .inr (3, [.ref a, .ref b, .int ty, .int (nI nn)])), (a, .inl (cy.1, 12, .inl ab)), (b, .inl (cy.1, 12, .inl (fun z => nI (sl z)))), (P, .inr (2, [.ref g, .ref q, .ref p1, .ref p2, .ref p3, .ref p4, .int cnt, .int ln, .int kn, .int th])), (p4, .inl (cy.1, 12, .inl svA)), (g, .inr (1, [.ref a1, .ref a2, .ref a3, .ref a4, .ref a5, .int fa])), (a5, .inl (cy.1, 640, .inl (fun z => vl (z / 20) (z % 20))))]) [(A, .inr (0, [.ref g, .ref q, .ref P, .ref e1, .ref e2, .ref e3, .int am])), (e1, .inl (cy.1, 12, .inl (upd u1 n ((aRV ab sl sv vl fl key r))))), (e2, .inl (cy.1, 12, .inl u2)), (e3, .inl (cy.2.1, 12, .inl u3)), (q, .inr (3, [.ref a, .ref b, .int ty, .int (nI nn)])), (a, .inl (cy.1, 12, .inl ab)), (b, .inl (cy.1, 12, .inl (fun z => nI (sl z)))), (P, .inr (2, [.ref g, .ref q, .ref p1, .ref p2, .ref p3, .ref p4, .int cnt, .int ln, .int kn, .int th])), (p4, .inl (cy.1, 12, .inl svA)), (g, .inr (1, [.ref a1, .ref a2, .ref a3, .ref a4, .ref a5, .int fa])), (a5, .inl (cy.1, 640, .inl (fun z => vl (z / 20) (z % 20))))] := hD
                refine lv_aload_n hx hb dX0_readValues_85 rfl (lv_at hl 3 rfl) ?_
                refine va_get (D := D) (ci := 0) (v := .ref e2) (C := RX0) (T := TX0) (N := 7) hx hb hts in_wsX0_readValues_X0 hown hK.1 hP 0 rfl rfl 4 (by decide) (hts _ lk141_wsX0_readValues) (fun _ h9 => h9) rfl dX0_readValues_86 ?_
                refine lv_iload_n hx hb dX0_readValues_89 rfl (lv_at hl 6 rfl) ?_
                refine lv_iload hx hb dX0_readValues_90 (lv_at hl 0 rfl) ?_
                refine lv_if_eq (tgt := 99) hx hb dX0_readValues_92 (by decide) (fun cb13 => ?_) (fun cb13 => ?_)
                · have cb13 : 1 = 0 := zn_eq_t (a := 1) (b := 0) (by omega) (by omega) cb13
                  exact absurd cb13 (by decide)
                · have cb13 : ¬ (1 = 0) := zn_eq_f (a := 1) (b := 0) (by omega) (by omega) cb13
                  refine lv_iconst (v := (-1 : Int32)) hx hb dX0_readValues_95 (by decide) ?_
                  refine lv_goto (tgt := 116) hx hb dX0_readValues_96 (by decide) ?_
                  have hval : aRV ab sl sv vl fl key n = -1 := by rw [hstep, hbt]; rfl
                  refine z_iast (g := upd u2 n ((-1 : Int32))) hx hb hK.1 hP hD hS 2 0 rfl rfl (k := n) (by omega) (by decide) (fun _ _ => rfl) dX0_readValues_116 (fun H locs hP hD hS => ?_)
                  have hP : va_P D vwCl [(A, .inr (0, [.ref g, .ref q, .ref P, .ref e1, .ref e2, .ref e3, .int am])), (e1, .inl (cy.1, 12, .inl (upd u1 n ((aRV ab sl sv vl fl key r))))), (e2, .inl (cy.1, 12, .inl (upd u2 n ((-1 : Int32))))), (e3, .inl (cy.2.1, 12, .inl u3)), (q, .inr (3, [.ref a, .ref b, .int ty, .int (nI nn)])), (a, .inl (cy.1, 12, .inl ab)), (b, .inl (cy.1, 12, .inl (fun z => nI (sl z)))), (P, .inr (2, [.ref g, .ref q, .ref p1, .ref p2, .ref p3, .ref p4, .int cnt, .int ln, .int kn, .int th])), (p4, .inl (cy.1, 12, .inl svA)), (g, .inr (1, [.ref a1, .ref a2, .ref a3, .ref a4, .ref a5, .int fa])), (a5, .inl (cy.1, 640, .inl (fun z => vl (z / 20) (z % 20))))] H := hP
                  have hD : va_D (zIn [(A, .inr (0, [.ref g, .ref q, .ref P, .ref e1, .ref e2, .ref e3, .int am])), (e1, .inl (cy.1, 12, .inl enA)), (e2, .inl (cy.1, 12, .inl vaA)), (e3, .inl (cy.2.1, 12, .inl miA)), (q, .inr (3, [.ref a, .ref b, .int ty, .int (nI nn)])), (a, .inl (cy.1, 12, .inl ab)), (b, .inl (cy.1, 12, .inl (fun z => nI (sl z)))), (P, .inr (2, [.ref g, .ref q, .ref p1, .ref p2, .ref p3, .ref p4, .int cnt, .int ln, .int kn, .int th])), (p4, .inl (cy.1, 12, .inl svA)), (g, .inr (1, [.ref a1, .ref a2, .ref a3, .ref a4, .ref a5, .int fa])), (a5, .inl (cy.1, 640, .inl (fun z => vl (z / 20) (z % 20))))]) [(A, .inr (0, [.ref g, .ref q, .ref P, .ref e1, .ref e2, .ref e3, .int am])), (e1, .inl (cy.1, 12, .inl (upd u1 n ((aRV ab sl sv vl fl key r))))), (e2, .inl (cy.1, 12, .inl (upd u2 n ((-1 : Int32))))), (e3, .inl (cy.2.1, 12, .inl u3)), (q, .inr (3, [.ref a, .ref b, .int ty, .int (nI nn)])), (a, .inl (cy.1, 12, .inl ab)), (b, .inl (cy.1, 12, .inl (fun z => nI (sl z)))), (P, .inr (2, [.ref g, .ref q, .ref p1, .ref p2, .ref p3, .ref p4, .int cnt, .int ln, .int kn, .int th])), (p4, .inl (cy.1, 12, .inl svA)), (g, .inr (1, [.ref a1, .ref a2, .ref a3, .ref a4, .ref a5, .int fa])), (a5, .inl (cy.1, 640, .inl (fun z => vl (z / 20) (z % 20))))] := hD
                  refine lv_aload_n hx hb dX0_readValues_117 rfl (lv_at hl 3 rfl) ?_
                  refine va_get (D := D) (ci := 0) (v := .ref e3) (C := RX0) (T := TX0) (N := 7) hx hb hts in_wsX0_readValues_X0 hown hK.1 hP 0 rfl rfl 5 (by decide) (hts _ lk143_wsX0_readValues) (fun _ h9 => h9) rfl dX0_readValues_118 ?_
                  refine lv_iload_n hx hb dX0_readValues_121 rfl (lv_at hl 6 rfl) ?_
                  refine lv_aload_n hx hb dX0_readValues_122 rfl (lv_at hl 3 rfl) ?_
                  refine va_get (D := D) (ci := 0) (v := .ref e2) (C := RX0) (T := TX0) (N := 7) hx hb hts in_wsX0_readValues_X0 hown hK.1 hP 0 rfl rfl 4 (by decide) (hts _ lk141_wsX0_readValues) (fun _ h9 => h9) rfl dX0_readValues_123 ?_
                  refine lv_iload_n hx hb dX0_readValues_126 rfl (lv_at hl 6 rfl) ?_
                  refine z_iald (v := (-1 : Int32)) hx hb hK.1 hP 2 0 rfl rfl (k := n) (by omega) (by decide) (by show upd u2 n _ n = _; unfold upd; rw [if_pos rfl]) dX0_readValues_127 ?_
                  refine lv_iconst (v := (-1 : Int32)) hx hb dX0_readValues_128 (by decide) ?_
                  refine lv_icmp_ne (tgt := 136) hx hb dX0_readValues_129 (by decide) (fun cb14 => ?_) (fun cb14 => ?_)
                  · skip
                    exact absurd rfl cb14
                  · skip
                    refine lv_iconst (v := nI 1) hx hb dX0_readValues_132 (by decide) ?_
                    refine lv_goto (tgt := 137) hx hb dX0_readValues_133 (by decide) ?_
                    refine z_zast (g := upd u3 n (nI 1)) hx hb hK.1 hP hD hS 3 1 rfl rfl (k := n) (by omega) (by decide) (by decide) (fun _ _ => rfl) dX0_readValues_137 (fun H locs hP hD hS => ?_)
                    have hP : va_P D vwCl [(A, .inr (0, [.ref g, .ref q, .ref P, .ref e1, .ref e2, .ref e3, .int am])), (e1, .inl (cy.1, 12, .inl (upd u1 n ((aRV ab sl sv vl fl key r))))), (e2, .inl (cy.1, 12, .inl (upd u2 n ((-1 : Int32))))), (e3, .inl (cy.2.1, 12, .inl (upd u3 n (nI 1)))), (q, .inr (3, [.ref a, .ref b, .int ty, .int (nI nn)])), (a, .inl (cy.1, 12, .inl ab)), (b, .inl (cy.1, 12, .inl (fun z => nI (sl z)))), (P, .inr (2, [.ref g, .ref q, .ref p1, .ref p2, .ref p3, .ref p4, .int cnt, .int ln, .int kn, .int th])), (p4, .inl (cy.1, 12, .inl svA)), (g, .inr (1, [.ref a1, .ref a2, .ref a3, .ref a4, .ref a5, .int fa])), (a5, .inl (cy.1, 640, .inl (fun z => vl (z / 20) (z % 20))))] H := hP
                    have hD : va_D (zIn [(A, .inr (0, [.ref g, .ref q, .ref P, .ref e1, .ref e2, .ref e3, .int am])), (e1, .inl (cy.1, 12, .inl enA)), (e2, .inl (cy.1, 12, .inl vaA)), (e3, .inl (cy.2.1, 12, .inl miA)), (q, .inr (3, [.ref a, .ref b, .int ty, .int (nI nn)])), (a, .inl (cy.1, 12, .inl ab)), (b, .inl (cy.1, 12, .inl (fun z => nI (sl z)))), (P, .inr (2, [.ref g, .ref q, .ref p1, .ref p2, .ref p3, .ref p4, .int cnt, .int ln, .int kn, .int th])), (p4, .inl (cy.1, 12, .inl svA)), (g, .inr (1, [.ref a1, .ref a2, .ref a3, .ref a4, .ref a5, .int fa])), (a5, .inl (cy.1, 640, .inl (fun z => vl (z / 20) (z % 20))))]) [(A, .inr (0, [.ref g, .ref q, .ref P, .ref e1, .ref e2, .ref e3, .int am])), (e1, .inl (cy.1, 12, .inl (upd u1 n ((aRV ab sl sv vl fl key r))))), (e2, .inl (cy.1, 12, .inl (upd u2 n ((-1 : Int32))))), (e3, .inl (cy.2.1, 12, .inl (upd u3 n (nI 1)))), (q, .inr (3, [.ref a, .ref b, .int ty, .int (nI nn)])), (a, .inl (cy.1, 12, .inl ab)), (b, .inl (cy.1, 12, .inl (fun z => nI (sl z)))), (P, .inr (2, [.ref g, .ref q, .ref p1, .ref p2, .ref p3, .ref p4, .int cnt, .int ln, .int kn, .int th])), (p4, .inl (cy.1, 12, .inl svA)), (g, .inr (1, [.ref a1, .ref a2, .ref a3, .ref a4, .ref a5, .int fa])), (a5, .inl (cy.1, 640, .inl (fun z => vl (z / 20) (z % 20))))] := hD
                    refine lv_iinc (v := nI (n + 1)) (lv' := [(3, .int (nI (n + 1))), (6, .int (nI 1)), (5, .int ((aRV ab sl sv vl fl key r))), (4, .int (nI r)), (0, .ref A), (1, .int (nI key)), (2, .int (nI fl))]) hx hb dX0_readValues_138 hl (k := 6) rfl (z_inc _) (by decide) rfl (fun ls hl => ?_)
                    refine lv_goto (tgt := 2) hx hb dX0_readValues_141 (by decide) ?_
                    exact ih_lo (n + 1) (upd u1 n (aRV ab sl sv vl fl key r)) (upd u2 n (-1 : Int32)) (upd u3 n (nI 1)) (by omega) (by omega) (lt_s (fun k hk => by unfold upd; rw [if_neg (by omega), if_neg (by omega), if_neg (by omega)]; exact hcp k hk) (by unfold upd; rw [if_pos rfl, if_pos rfl, if_pos rfl]; exact ⟨hent.symm, hval.symm, by rw [hval]; exact (bI_yes rfl)⟩)) _ _ _ hP hD hS (lv_sub hl [4, 5, 6, 0] rfl)
  exact lo (nn + 1) 0 enA vaA miA (by omega) (by omega) (fun k hk => absurd hk (by omega)) _ _ _ hP hD hS (lv_sub hl [1, 2, 3, 0] rfl)
theorem aCl_step {nn : Nat} {ab : Nat → Int32} {sl : Nat → Nat} {rq m0 : Nat → Bool} {j : Nat} (hj : j < nn) : aCl nn ab sl rq m0 (nn - j) = if (aCl nn ab sl rq m0 (nn - (j + 1))).1 j && rq (sl j) then (if ab j = -1 then ((aCl nn ab sl rq m0 (nn - (j + 1))).1, true) else (va_up (aCl nn ab sl rq m0 (nn - (j + 1))).1 (ab j).toNatClampNeg true, (aCl nn ab sl rq m0 (nn - (j + 1))).2)) else aCl nn ab sl rq m0 (nn - (j + 1)) := by
  have e : nn - j = (nn - (j + 1)) + 1 := by omega
  have e2 : nn - 1 - (nn - (j + 1)) = j := by omega
  rw [e, aCl, e2]
theorem z_updB {u : Nat → Int32} {f : Nat → Bool} {r nn : Nat} {v : Int32} {b : Bool} (hv : v = bI b) (hu : ∀ k, k < nn → u k = bI (f k)) : ∀ k, k < nn → upd u r v k = bI (va_up f r b k) := fun k hk => by
  unfold upd va_up
  split
  · exact hv
  · exact hu k hk
theorem zo1 {x y z : Bool} (h : x = true) : (x || y || z) = true := by rw [h]; rfl
theorem zo2 {x y z : Bool} (h : y = true) : (x || y || z) = true := by rw [h]; cases x <;> rfl
theorem zo3 {x y z : Bool} (h : z = true) : (x || y || z) = true := by rw [h]; cases x <;> cases y <;> rfl
theorem zo0 {x y z : Bool} (h1 : x = false) (h2 : y = false) (h3 : z = false) : (x || y || z) = false := by rw [h1, h2, h3]; rfl
set_option maxRecDepth 20000 in
theorem lk144_wsX0_letMissingClimb : Cond.fieldLink RX0 44 "QueryGateway$Answer" "allMissing" "Z" ∈ wsX0_letMissingClimb := by decide +kernel
set_option maxRecDepth 20000 in
theorem in_wsX0_letMissingClimb_X0 : ∀ w ∈ wsX00, w ∈ wsX0_letMissingClimb := by decide +kernel
set_option maxRecDepth 20000 in
theorem lk146_wsX0_letMissingClimb : Cond.fieldLink RX0 15 "QueryGateway$Answer" "query" "LQueryGateway$Query;" ∈ wsX0_letMissingClimb := by decide +kernel
set_option maxRecDepth 20000 in
theorem lk147_wsX0_letMissingClimb : Cond.methodLink RX0 86 Lib.Math.min.name ∈ wsX0_letMissingClimb := by decide +kernel
set_option maxRecDepth 20000 in
theorem lk148_wsX0_letMissingClimb : Cond.static Lib.Math.min.name ∈ wsX0_letMissingClimb := by decide +kernel
set_option maxRecDepth 20000 in
theorem lk149_wsX0_letMissingClimb : Cond.initialized "java/lang/Math" ∈ wsX0_letMissingClimb := by decide +kernel
set_option maxRecDepth 20000 in
theorem lk150_wsX0_letMissingClimb : Cond.code Lib.Math.min.name Lib.Math.min.code 2 (some .int) ∈ wsX0_letMissingClimb := by decide +kernel
set_option maxRecDepth 20000 in
theorem lk151_wsX0_letMissingClimb : Cond.fieldLink RX0 30 "QueryGateway$Answer" "missing" "[Z" ∈ wsX0_letMissingClimb := by decide +kernel
set_option maxRecDepth 20000 in
theorem lk152_wsX0_letMissingClimb : Cond.fieldLink RX0 9 "QueryGateway$Answer" "graph" "LQueryGateway$Graph;" ∈ wsX0_letMissingClimb := by decide +kernel
theorem k_yX1_isRequired : yX1_isRequired.cls = RX1 ∧ yX1_isRequired.cls ≠ "java/lang/invoke/MethodHandle" ∧ yX1_isRequired.cls ≠ "java/lang/invoke/VarHandle" ∧ (parseMethodDescriptor yX1_isRequired.desc).map (fun d => d.parameters.length) = some 1 := by decide +kernel
abbrev rmX0_letMissingClimb : Room := { frames := 2, cells := 0, slots := 0, locals := 42 }
set_option maxHeartbeats 4000000 in
set_option maxRecDepth 100000 in
theorem c_X0_letMissingClimb {l : Launch} {D : va_G} {cy : zCy} {A g q P e1 e2 e3 a b a1 a2 a3 a4 a5 nn : Nat} {am ty fa : Int32} {miA ab ld : Nat → Int32} {sl : Nat → Nat} {rq m0 : Nat → Bool} (hn : nn ≤ 12) (hQ : zQok nn ab sl ld) (hm0 : ∀ k, k < nn → miA k = bI (m0 k)) : zV ((Nat → Int32) × Bool) l yX0_letMissingClimb wsX0_letMissingClimb rmX0_letMissingClimb D cy [(A, .inr (0, [.ref g, .ref q, .ref P, .ref e1, .ref e2, .ref e3, .int am])), (e3, .inl (cy.2.1, 12, .inl miA)), (q, .inr (3, [.ref a, .ref b, .int ty, .int (nI nn)])), (a, .inl (cy.1, 12, .inl ab)), (b, .inl (cy.1, 12, .inl (fun z => nI (sl z)))), (g, .inr (1, [.ref a1, .ref a2, .ref a3, .ref a4, .ref a5, .int fa])), (a3, .inl (cy.2.1, 32, .inl (fun z => bI (rq z))))] [.ref A] (fun u => (∀ k, k < nn → u.1 k = bI ((aCl nn ab sl rq m0 nn).1 k)) ∧ u.2 = (aCl nn ab sl rq m0 nn).2) (fun u => [(A, .inr (0, [.ref g, .ref q, .ref P, .ref e1, .ref e2, .ref e3, .int (bI (u.2))])), (e3, .inl (cy.2.1, 12, .inl u.1)), (q, .inr (3, [.ref a, .ref b, .int ty, .int (nI nn)])), (a, .inl (cy.1, 12, .inl ab)), (b, .inl (cy.1, 12, .inl (fun z => nI (sl z)))), (g, .inr (1, [.ref a1, .ref a2, .ref a3, .ref a4, .ref a5, .int fa])), (a3, .inl (cy.2.1, 32, .inl (fun z => bI (rq z))))]) := by
  refine zV.of (cc := cX0_letMissingClimb) (maxL := 3) (ret := none) (by decide) rfl rfl ?_
  intro p e s m below meth c ls C hP hK hD hl
  obtain ⟨hx, hb, hr, hml, hts, hown, hlocks⟩ := C
  have hS : va_S (zIn [(A, .inr (0, [.ref g, .ref q, .ref P, .ref e1, .ref e2, .ref e3, .int am])), (e3, .inl (cy.2.1, 12, .inl miA)), (q, .inr (3, [.ref a, .ref b, .int ty, .int (nI nn)])), (a, .inl (cy.1, 12, .inl ab)), (b, .inl (cy.1, 12, .inl (fun z => nI (sl z)))), (g, .inr (1, [.ref a1, .ref a2, .ref a3, .ref a4, .ref a5, .int fa])), (a3, .inl (cy.2.1, 32, .inl (fun z => bI (rq z))))]) s.heap s.heap [] := va_S.rf
  have hl : lv_has ls 3 [(0, .ref A)] := hl
  refine lv_aload_n hx hb dX0_letMissingClimb_0 rfl (lv_at hl 0 rfl) ?_
  refine lv_iconst (v := nI 0) hx hb dX0_letMissingClimb_1 (by decide) ?_
  refine va_put (D := D) (ci := 0) (v := .int (nI 0)) (ty := .boolean) (C := RX0) (T := TX0) (N := 7) hx hb hts in_wsX0_letMissingClimb_X0 tyX0 tyX0_ok nmX0 hown hK.1 hP hD hS 0 rfl rfl 6 (by decide) (hts _ lk144_wsX0_letMissingClimb) (fun _ h9 => h9) rfl (by decide +kernel) (z_narB (by decide)) rfl (Nat.le_of_ble_eq_true rfl) dX0_letMissingClimb_2 (fun H locs hP hD hS => ?_)
  have hP : va_P D vwCl [(A, .inr (0, [.ref g, .ref q, .ref P, .ref e1, .ref e2, .ref e3, .int (nI 0)])), (e3, .inl (cy.2.1, 12, .inl miA)), (q, .inr (3, [.ref a, .ref b, .int ty, .int (nI nn)])), (a, .inl (cy.1, 12, .inl ab)), (b, .inl (cy.1, 12, .inl (fun z => nI (sl z)))), (g, .inr (1, [.ref a1, .ref a2, .ref a3, .ref a4, .ref a5, .int fa])), (a3, .inl (cy.2.1, 32, .inl (fun z => bI (rq z))))] H := hP
  have hD : va_D (zIn [(A, .inr (0, [.ref g, .ref q, .ref P, .ref e1, .ref e2, .ref e3, .int am])), (e3, .inl (cy.2.1, 12, .inl miA)), (q, .inr (3, [.ref a, .ref b, .int ty, .int (nI nn)])), (a, .inl (cy.1, 12, .inl ab)), (b, .inl (cy.1, 12, .inl (fun z => nI (sl z)))), (g, .inr (1, [.ref a1, .ref a2, .ref a3, .ref a4, .ref a5, .int fa])), (a3, .inl (cy.2.1, 32, .inl (fun z => bI (rq z))))]) [(A, .inr (0, [.ref g, .ref q, .ref P, .ref e1, .ref e2, .ref e3, .int (nI 0)])), (e3, .inl (cy.2.1, 12, .inl miA)), (q, .inr (3, [.ref a, .ref b, .int ty, .int (nI nn)])), (a, .inl (cy.1, 12, .inl ab)), (b, .inl (cy.1, 12, .inl (fun z => nI (sl z)))), (g, .inr (1, [.ref a1, .ref a2, .ref a3, .ref a4, .ref a5, .int fa])), (a3, .inl (cy.2.1, 32, .inl (fun z => bI (rq z))))] := hD
  refine lv_aload_n hx hb dX0_letMissingClimb_5 rfl (lv_at hl 0 rfl) ?_
  refine va_get (D := D) (ci := 0) (v := .ref q) (C := RX0) (T := TX0) (N := 7) hx hb hts in_wsX0_letMissingClimb_X0 hown hK.1 hP 0 rfl rfl 1 (by decide) (hts _ lk146_wsX0_letMissingClimb) (fun _ h9 => h9) rfl dX0_letMissingClimb_6 ?_
  refine z_callV (b := q) (As := []) (rest := []) ⟨hx, hb, hml, hown, hts⟩ hK hP hS (c_X3_size (i := 2) rfl) (cwV 0 hts gX0_letMissingClimb_X3_size rfl rfl rfl k_yX3_size ⟨Nat.le_of_ble_eq_true rfl, Nat.le_of_ble_eq_true rfl⟩) 2 3 rfl rfl rfl rfl hl.1 rfl rfl dX0_letMissingClimb_9 ⟨Nat.le_of_ble_eq_true rfl, Nat.le_of_ble_eq_true rfl⟩ (fun H locs hP hS => ?_)
  refine lv_bipush (v := nI 12) hx hb dX0_letMissingClimb_12 (by decide) ?_
  refine va_mmin hx hb (hml.trans hl.1.symm) hown (hts _ lk147_wsX0_letMissingClimb) (hts _ lk148_wsX0_letMissingClimb) (hts _ lk149_wsX0_letMissingClimb) (hts _ lk150_wsX0_letMissingClimb) (by decide) (Nat.le_of_ble_eq_true rfl) (Nat.le_of_ble_eq_true rfl) (Nat.le_of_ble_eq_true rfl) dX0_letMissingClimb_14 ?_
  refine z_top (y := nI nn) (by rw [z_min (by omega) (by omega), Nat.min_eq_left hn]) ?_
  refine lv_iconst (v := nI 1) hx hb dX0_letMissingClimb_17 (by decide) ?_
  refine lv_isub hx hb dX0_letMissingClimb_18 ?_
  refine z_top (y := (nI nn - 1)) rfl ?_
  refine lv_istore_n (lv' := [(1, .int ((nI nn - 1))), (0, .ref A)]) hx hb dX0_letMissingClimb_19 rfl hl (by decide) rfl (fun ls hl => ?_)
  have lo : ∀ (fuel : Nat) (j : Nat) (u : Nat → Int32) (al : Bool), j + 1 ≤ fuel → j ≤ nn → (∀ k, k < nn → u k = bI ((aCl nn ab sl rq m0 (nn - j)).1 k)) → al = (aCl nn ab sl rq m0 (nn - j)).2 → ∀ (H : Heap) (locs : List Loc) (ls : Array Slot), va_P D vwCl [(A, .inr (0, [.ref g, .ref q, .ref P, .ref e1, .ref e2, .ref e3, .int (bI (al))])), (e3, .inl (cy.2.1, 12, .inl u)), (q, .inr (3, [.ref a, .ref b, .int ty, .int (nI nn)])), (a, .inl (cy.1, 12, .inl ab)), (b, .inl (cy.1, 12, .inl (fun z => nI (sl z)))), (g, .inr (1, [.ref a1, .ref a2, .ref a3, .ref a4, .ref a5, .int fa])), (a3, .inl (cy.2.1, 32, .inl (fun z => bI (rq z))))] H → va_D (zIn [(A, .inr (0, [.ref g, .ref q, .ref P, .ref e1, .ref e2, .ref e3, .int am])), (e3, .inl (cy.2.1, 12, .inl miA)), (q, .inr (3, [.ref a, .ref b, .int ty, .int (nI nn)])), (a, .inl (cy.1, 12, .inl ab)), (b, .inl (cy.1, 12, .inl (fun z => nI (sl z)))), (g, .inr (1, [.ref a1, .ref a2, .ref a3, .ref a4, .ref a5, .int fa])), (a3, .inl (cy.2.1, 32, .inl (fun z => bI (rq z))))]) [(A, .inr (0, [.ref g, .ref q, .ref P, .ref e1, .ref e2, .ref e3, .int (bI (al))])), (e3, .inl (cy.2.1, 12, .inl u)), (q, .inr (3, [.ref a, .ref b, .int ty, .int (nI nn)])), (a, .inl (cy.1, 12, .inl ab)), (b, .inl (cy.1, 12, .inl (fun z => nI (sl z)))), (g, .inr (1, [.ref a1, .ref a2, .ref a3, .ref a4, .ref a5, .int fa])), (a3, .inl (cy.2.1, 32, .inl (fun z => bI (rq z))))] → va_S (zIn [(A, .inr (0, [.ref g, .ref q, .ref P, .ref e1, .ref e2, .ref e3, .int am])), (e3, .inl (cy.2.1, 12, .inl miA)), (q, .inr (3, [.ref a, .ref b, .int ty, .int (nI nn)])), (a, .inl (cy.1, 12, .inl ab)), (b, .inl (cy.1, 12, .inl (fun z => nI (sl z)))), (g, .inr (1, [.ref a1, .ref a2, .ref a3, .ref a4, .ref a5, .int fa])), (a3, .inl (cy.2.1, 32, .inl (fun z => bI (rq z))))]) s.heap H locs → lv_has ls 3 [(0, .ref A), (1, .int ((nI j - 1)))] → W p l e rmX0_letMissingClimb s m [.ref A].toArray below meth c H locs 0 0 (zVQ ((Nat → Int32) × Bool) D below [.ref A].toArray s [(A, .inr (0, [.ref g, .ref q, .ref P, .ref e1, .ref e2, .ref e3, .int am])), (e3, .inl (cy.2.1, 12, .inl miA)), (q, .inr (3, [.ref a, .ref b, .int ty, .int (nI nn)])), (a, .inl (cy.1, 12, .inl ab)), (b, .inl (cy.1, 12, .inl (fun z => nI (sl z)))), (g, .inr (1, [.ref a1, .ref a2, .ref a3, .ref a4, .ref a5, .int fa])), (a3, .inl (cy.2.1, 32, .inl (fun z => bI (rq z))))] (fun u => (∀ k, k < nn → u.1 k = bI ((aCl nn ab sl rq m0 nn).1 k)) ∧ u.2 = (aCl nn ab sl rq m0 nn).2) (fun u => [(A, .inr (0, [.ref g, .ref q, .ref P, .ref e1, .ref e2, .ref e3, .int (bI (u.2))])), (e3, .inl (cy.2.1, 12, .inl u.1)), (q, .inr (3, [.ref a, .ref b, .int ty, .int (nI nn)])), (a, .inl (cy.1, 12, .inl ab)), (b, .inl (cy.1, 12, .inl (fun z => nI (sl z)))), (g, .inr (1, [.ref a1, .ref a2, .ref a3, .ref a4, .ref a5, .int fa])), (a3, .inl (cy.2.1, 32, .inl (fun z => bI (rq z))))])) (F0 m 20 ls []) := by
    intro fuel
    induction fuel with
    | zero => intro j u al hfu hj hu hal; exact absurd hfu (by omega)
    | succ fuel ih_lo =>
      intro j u al hfu hj hu hal H locs ls hP hD hS hl
      refine lv_iload_n hx hb dX0_letMissingClimb_20 rfl (lv_at hl 1 rfl) ?_
      refine lv_if_lt (tgt := 92) hx hb dX0_letMissingClimb_21 (by decide) (fun cb1 => ?_) (fun cb1 => ?_)
      · have cb1 : ((nI j - 1)).toInt < ((0 : Nat) : Int) := ziIN_lt_t (b := 0) (by omega) cb1
        have hj0 := z_dnT (by omega) cb1
        exact z_vret (u, al) hx hb hr hlocks hS dX0_letMissingClimb_92 hP ⟨by subst hj0; exact hu, by subst hj0; exact hal⟩
      · have cb1 : ¬ (((nI j - 1)).toInt < ((0 : Nat) : Int)) := ziIN_lt_f (b := 0) (by omega) cb1
        obtain ⟨j1, rfl⟩ := z_dnF cb1
        rw [nI_pred] at hl
        refine lv_aload_n hx hb dX0_letMissingClimb_24 rfl (lv_at hl 0 rfl) ?_
        refine va_get (D := D) (ci := 0) (v := .ref e3) (C := RX0) (T := TX0) (N := 7) hx hb hts in_wsX0_letMissingClimb_X0 hown hK.1 hP 0 rfl rfl 5 (by decide) (hts _ lk151_wsX0_letMissingClimb) (fun _ h9 => h9) rfl dX0_letMissingClimb_25 ?_
        refine lv_iload_n hx hb dX0_letMissingClimb_28 rfl (lv_at hl 1 rfl) ?_
        refine z_zald (v := bI ((aCl nn ab sl rq m0 (nn - (j1 + 1))).1 j1)) hx hb hK.1 hP 1 1 rfl rfl (k := j1) (by omega) (by decide) (hu j1 (by omega)) dX0_letMissingClimb_29 ?_
        refine lv_if_eq (tgt := 86) hx hb dX0_letMissingClimb_30 (by decide) (fun cb2 => ?_) (fun cb2 => ?_)
        · have cb2 : ((aCl nn ab sl rq m0 (nn - (j1 + 1))).1 j1) = false := bI_t0 cb2
          have hst : aCl nn ab sl rq m0 (nn - j1) = aCl nn ab sl rq m0 (nn - (j1 + 1)) := by rw [aCl_step (by omega), cb2]; rfl
          refine lv_iinc (v := nI j1 - 1) (lv' := [(1, .int (nI j1 - 1)), (0, .ref A)]) hx hb dX0_letMissingClimb_86 hl (k := 1) rfl (z_dec _) (by decide) rfl (fun ls hl => ?_)
          refine lv_goto (tgt := 20) hx hb dX0_letMissingClimb_89 (by decide) ?_
          exact ih_lo j1 u al (by omega) (by omega) (by rw [hst]; exact hu) (by rw [hst]; exact hal) _ _ _ hP hD hS (lv_sub hl [1, 0] rfl)
        · have cb2 : ((aCl nn ab sl rq m0 (nn - (j1 + 1))).1 j1) = true := bI_f0 cb2
          refine lv_aload_n hx hb dX0_letMissingClimb_33 rfl (lv_at hl 0 rfl) ?_
          refine va_get (D := D) (ci := 0) (v := .ref g) (C := RX0) (T := TX0) (N := 7) hx hb hts in_wsX0_letMissingClimb_X0 hown hK.1 hP 0 rfl rfl 0 (by decide) (hts _ lk152_wsX0_letMissingClimb) (fun _ h9 => h9) rfl dX0_letMissingClimb_34 ?_
          refine lv_aload_n hx hb dX0_letMissingClimb_37 rfl (lv_at hl 0 rfl) ?_
          refine va_get (D := D) (ci := 0) (v := .ref q) (C := RX0) (T := TX0) (N := 7) hx hb hts in_wsX0_letMissingClimb_X0 hown hK.1 hP 0 rfl rfl 1 (by decide) (hts _ lk146_wsX0_letMissingClimb) (fun _ h9 => h9) rfl dX0_letMissingClimb_38 ?_
          refine lv_iload_n hx hb dX0_letMissingClimb_41 rfl (lv_at hl 1 rfl) ?_
          refine z_callV (b := q) (As := [.int (nI j1)]) (rest := [.ref g]) ⟨hx, hb, hml, hown, hts⟩ hK hP hS (c_X3_slotAt (i := 2) (j := 4) rfl rfl hn (z := j1) (by omega)) (cwV 1 hts gX0_letMissingClimb_X3_slotAt rfl rfl rfl k_yX3_slotAt ⟨Nat.le_of_ble_eq_true rfl, Nat.le_of_ble_eq_true rfl⟩) 2 3 rfl rfl rfl rfl hl.1 rfl rfl dX0_letMissingClimb_42 ⟨Nat.le_of_ble_eq_true rfl, Nat.le_of_ble_eq_true rfl⟩ (fun H locs hP hS => ?_)
          refine z_callV (b := g) (As := [.int (nI (sl j1))]) (rest := []) ⟨hx, hb, hml, hown, hts⟩ hK hP hS (c_X1_isRequired (i := 5) (j := 6) rfl rfl (t := sl j1) (hQ j1 (by omega)).1) (cwV 1 hts gX0_letMissingClimb_X1_isRequired rfl rfl rfl k_yX1_isRequired ⟨Nat.le_of_ble_eq_true rfl, Nat.le_of_ble_eq_true rfl⟩) 5 1 rfl rfl rfl rfl hl.1 rfl rfl dX0_letMissingClimb_45 ⟨Nat.le_of_ble_eq_true rfl, Nat.le_of_ble_eq_true rfl⟩ (fun H locs hP hS => ?_)
          refine lv_if_eq (tgt := 86) hx hb dX0_letMissingClimb_48 (by decide) (fun cb3 => ?_) (fun cb3 => ?_)
          · have cb3 : (rq (sl j1)) = false := bI_t0 cb3
            have hst : aCl nn ab sl rq m0 (nn - j1) = aCl nn ab sl rq m0 (nn - (j1 + 1)) := by rw [aCl_step (by omega), cb2, cb3]; rfl
            refine lv_iinc (v := nI j1 - 1) (lv' := [(1, .int (nI j1 - 1)), (0, .ref A)]) hx hb dX0_letMissingClimb_86 hl (k := 1) rfl (z_dec _) (by decide) rfl (fun ls hl => ?_)
            refine lv_goto (tgt := 20) hx hb dX0_letMissingClimb_89 (by decide) ?_
            exact ih_lo j1 u al (by omega) (by omega) (by rw [hst]; exact hu) (by rw [hst]; exact hal) _ _ _ hP hD hS (lv_sub hl [1, 0] rfl)
          · have cb3 : (rq (sl j1)) = true := bI_f0 cb3
            rcases (hQ j1 (by omega)).2 with hpl | ⟨r, hrn, hpl, hld⟩
            · skip
              refine lv_aload_n hx hb dX0_letMissingClimb_51 rfl (lv_at hl 0 rfl) ?_
              refine va_get (D := D) (ci := 0) (v := .ref q) (C := RX0) (T := TX0) (N := 7) hx hb hts in_wsX0_letMissingClimb_X0 hown hK.1 hP 0 rfl rfl 1 (by decide) (hts _ lk146_wsX0_letMissingClimb) (fun _ h9 => h9) rfl dX0_letMissingClimb_52 ?_
              refine lv_iload_n hx hb dX0_letMissingClimb_55 rfl (lv_at hl 1 rfl) ?_
              refine z_callV (b := q) (As := [.int (nI j1)]) (rest := []) ⟨hx, hb, hml, hown, hts⟩ hK hP hS (c_X3_aboveOf (i := 2) (j := 3) rfl rfl hn (z := j1) (by omega)) (cwV 1 hts gX0_letMissingClimb_X3_aboveOf rfl rfl rfl k_yX3_aboveOf ⟨Nat.le_of_ble_eq_true rfl, Nat.le_of_ble_eq_true rfl⟩) 2 3 rfl rfl rfl rfl hl.1 rfl rfl dX0_letMissingClimb_56 ⟨Nat.le_of_ble_eq_true rfl, Nat.le_of_ble_eq_true rfl⟩ (fun H locs hP hS => ?_)
              refine z_top (y := (-1 : Int32)) hpl ?_
              refine lv_istore_n (lv' := [(2, .int ((-1 : Int32))), (0, .ref A), (1, .int (nI j1))]) hx hb dX0_letMissingClimb_59 rfl hl (by decide) rfl (fun ls hl => ?_)
              refine lv_aload_n hx hb dX0_letMissingClimb_60 rfl (lv_at hl 1 rfl) ?_
              refine va_get (D := D) (ci := 0) (v := .ref q) (C := RX0) (T := TX0) (N := 7) hx hb hts in_wsX0_letMissingClimb_X0 hown hK.1 hP 0 rfl rfl 1 (by decide) (hts _ lk146_wsX0_letMissingClimb) (fun _ h9 => h9) rfl dX0_letMissingClimb_61 ?_
              refine lv_iload_n hx hb dX0_letMissingClimb_64 rfl (lv_at hl 0 rfl) ?_
              refine z_callV (b := q) (As := [.int ((-1 : Int32))]) (rest := []) ⟨hx, hb, hml, hown, hts⟩ hK hP hS (c_X3_has_m1 (i := 2) rfl hn) (cwV 1 hts gX0_letMissingClimb_X3_has rfl rfl rfl k_yX3_has ⟨Nat.le_of_ble_eq_true rfl, Nat.le_of_ble_eq_true rfl⟩) 2 3 rfl rfl rfl rfl hl.1 rfl rfl dX0_letMissingClimb_65 ⟨Nat.le_of_ble_eq_true rfl, Nat.le_of_ble_eq_true rfl⟩ (fun H locs hP hS => ?_)
              refine lv_if_eq (tgt := 81) hx hb dX0_letMissingClimb_68 (by decide) (fun cb4 => ?_) (fun cb4 => ?_)
              · have cb4 : 0 = 0 := zn_eq_t (a := 0) (b := 0) (by omega) (by omega) cb4
                refine lv_aload_n hx hb dX0_letMissingClimb_81 rfl (lv_at hl 1 rfl) ?_
                refine lv_iconst (v := nI 1) hx hb dX0_letMissingClimb_82 (by decide) ?_
                refine va_put (D := D) (ci := 0) (v := .int (nI 1)) (ty := .boolean) (C := RX0) (T := TX0) (N := 7) hx hb hts in_wsX0_letMissingClimb_X0 tyX0 tyX0_ok nmX0 hown hK.1 hP hD hS 0 rfl rfl 6 (by decide) (hts _ lk144_wsX0_letMissingClimb) (fun _ h9 => h9) rfl (by decide +kernel) (z_narB (by decide)) rfl (Nat.le_of_ble_eq_true rfl) dX0_letMissingClimb_83 (fun H locs hP hD hS => ?_)
                have hP : va_P D vwCl [(A, .inr (0, [.ref g, .ref q, .ref P, .ref e1, .ref e2, .ref e3, .int (nI 1)])), (e3, .inl (cy.2.1, 12, .inl u)), (q, .inr (3, [.ref a, .ref b, .int ty, .int (nI nn)])), (a, .inl (cy.1, 12, .inl ab)), (b, .inl (cy.1, 12, .inl (fun z => nI (sl z)))), (g, .inr (1, [.ref a1, .ref a2, .ref a3, .ref a4, .ref a5, .int fa])), (a3, .inl (cy.2.1, 32, .inl (fun z => bI (rq z))))] H := hP
                have hD : va_D (zIn [(A, .inr (0, [.ref g, .ref q, .ref P, .ref e1, .ref e2, .ref e3, .int am])), (e3, .inl (cy.2.1, 12, .inl miA)), (q, .inr (3, [.ref a, .ref b, .int ty, .int (nI nn)])), (a, .inl (cy.1, 12, .inl ab)), (b, .inl (cy.1, 12, .inl (fun z => nI (sl z)))), (g, .inr (1, [.ref a1, .ref a2, .ref a3, .ref a4, .ref a5, .int fa])), (a3, .inl (cy.2.1, 32, .inl (fun z => bI (rq z))))]) [(A, .inr (0, [.ref g, .ref q, .ref P, .ref e1, .ref e2, .ref e3, .int (nI 1)])), (e3, .inl (cy.2.1, 12, .inl u)), (q, .inr (3, [.ref a, .ref b, .int ty, .int (nI nn)])), (a, .inl (cy.1, 12, .inl ab)), (b, .inl (cy.1, 12, .inl (fun z => nI (sl z)))), (g, .inr (1, [.ref a1, .ref a2, .ref a3, .ref a4, .ref a5, .int fa])), (a3, .inl (cy.2.1, 32, .inl (fun z => bI (rq z))))] := hD
                have hst : aCl nn ab sl rq m0 (nn - j1) = ((aCl nn ab sl rq m0 (nn - (j1 + 1))).1, true) := by rw [aCl_step (by omega), cb2, cb3, if_pos (show (true && true) = true from rfl), if_pos hpl]
                refine lv_iinc (v := nI j1 - 1) (lv' := [(1, .int (nI j1 - 1)), (2, .int ((-1 : Int32))), (0, .ref A)]) hx hb dX0_letMissingClimb_86 hl (k := 2) rfl (z_dec _) (by decide) rfl (fun ls hl => ?_)
                refine lv_goto (tgt := 20) hx hb dX0_letMissingClimb_89 (by decide) ?_
                exact ih_lo j1 u true (by omega) (by omega) (by rw [hst]; exact hu) (by rw [hst]) _ _ _ hP hD hS (lv_sub hl [2, 0] rfl)
              · have cb4 : ¬ (0 = 0) := zn_eq_f (a := 0) (b := 0) (by omega) (by omega) cb4
                exact absurd cb4 (by decide)
            · skip
              refine lv_aload_n hx hb dX0_letMissingClimb_51 rfl (lv_at hl 0 rfl) ?_
              refine va_get (D := D) (ci := 0) (v := .ref q) (C := RX0) (T := TX0) (N := 7) hx hb hts in_wsX0_letMissingClimb_X0 hown hK.1 hP 0 rfl rfl 1 (by decide) (hts _ lk146_wsX0_letMissingClimb) (fun _ h9 => h9) rfl dX0_letMissingClimb_52 ?_
              refine lv_iload_n hx hb dX0_letMissingClimb_55 rfl (lv_at hl 1 rfl) ?_
              refine z_callV (b := q) (As := [.int (nI j1)]) (rest := []) ⟨hx, hb, hml, hown, hts⟩ hK hP hS (c_X3_aboveOf (i := 2) (j := 3) rfl rfl hn (z := j1) (by omega)) (cwV 1 hts gX0_letMissingClimb_X3_aboveOf rfl rfl rfl k_yX3_aboveOf ⟨Nat.le_of_ble_eq_true rfl, Nat.le_of_ble_eq_true rfl⟩) 2 3 rfl rfl rfl rfl hl.1 rfl rfl dX0_letMissingClimb_56 ⟨Nat.le_of_ble_eq_true rfl, Nat.le_of_ble_eq_true rfl⟩ (fun H locs hP hS => ?_)
              refine z_top (y := nI r) hpl ?_
              refine lv_istore_n (lv' := [(2, .int (nI r)), (0, .ref A), (1, .int (nI j1))]) hx hb dX0_letMissingClimb_59 rfl hl (by decide) rfl (fun ls hl => ?_)
              refine lv_aload_n hx hb dX0_letMissingClimb_60 rfl (lv_at hl 1 rfl) ?_
              refine va_get (D := D) (ci := 0) (v := .ref q) (C := RX0) (T := TX0) (N := 7) hx hb hts in_wsX0_letMissingClimb_X0 hown hK.1 hP 0 rfl rfl 1 (by decide) (hts _ lk146_wsX0_letMissingClimb) (fun _ h9 => h9) rfl dX0_letMissingClimb_61 ?_
              refine lv_iload_n hx hb dX0_letMissingClimb_64 rfl (lv_at hl 0 rfl) ?_
              refine z_callV (b := q) (As := [.int (nI r)]) (rest := []) ⟨hx, hb, hml, hown, hts⟩ hK hP hS (c_X3_has_in (i := 2) rfl hn (k := r) (by omega)) (cwV 1 hts gX0_letMissingClimb_X3_has rfl rfl rfl k_yX3_has ⟨Nat.le_of_ble_eq_true rfl, Nat.le_of_ble_eq_true rfl⟩) 2 3 rfl rfl rfl rfl hl.1 rfl rfl dX0_letMissingClimb_65 ⟨Nat.le_of_ble_eq_true rfl, Nat.le_of_ble_eq_true rfl⟩ (fun H locs hP hS => ?_)
              refine lv_if_eq (tgt := 81) hx hb dX0_letMissingClimb_68 (by decide) (fun cb5 => ?_) (fun cb5 => ?_)
              · have cb5 : 1 = 0 := zn_eq_t (a := 1) (b := 0) (by omega) (by omega) cb5
                exact absurd cb5 (by decide)
              · have cb5 : ¬ (1 = 0) := zn_eq_f (a := 1) (b := 0) (by omega) (by omega) cb5
                refine lv_aload_n hx hb dX0_letMissingClimb_71 rfl (lv_at hl 1 rfl) ?_
                refine va_get (D := D) (ci := 0) (v := .ref e3) (C := RX0) (T := TX0) (N := 7) hx hb hts in_wsX0_letMissingClimb_X0 hown hK.1 hP 0 rfl rfl 5 (by decide) (hts _ lk151_wsX0_letMissingClimb) (fun _ h9 => h9) rfl dX0_letMissingClimb_72 ?_
                refine lv_iload_n hx hb dX0_letMissingClimb_75 rfl (lv_at hl 0 rfl) ?_
                refine lv_iconst (v := nI 1) hx hb dX0_letMissingClimb_76 (by decide) ?_
                refine z_zast (g := upd u r (nI 1)) hx hb hK.1 hP hD hS 1 1 rfl rfl (k := r) (by omega) (by decide) (by decide) (fun _ _ => rfl) dX0_letMissingClimb_77 (fun H locs hP hD hS => ?_)
                have hP : va_P D vwCl [(A, .inr (0, [.ref g, .ref q, .ref P, .ref e1, .ref e2, .ref e3, .int (bI (al))])), (e3, .inl (cy.2.1, 12, .inl (upd u r (nI 1)))), (q, .inr (3, [.ref a, .ref b, .int ty, .int (nI nn)])), (a, .inl (cy.1, 12, .inl ab)), (b, .inl (cy.1, 12, .inl (fun z => nI (sl z)))), (g, .inr (1, [.ref a1, .ref a2, .ref a3, .ref a4, .ref a5, .int fa])), (a3, .inl (cy.2.1, 32, .inl (fun z => bI (rq z))))] H := hP
                have hD : va_D (zIn [(A, .inr (0, [.ref g, .ref q, .ref P, .ref e1, .ref e2, .ref e3, .int am])), (e3, .inl (cy.2.1, 12, .inl miA)), (q, .inr (3, [.ref a, .ref b, .int ty, .int (nI nn)])), (a, .inl (cy.1, 12, .inl ab)), (b, .inl (cy.1, 12, .inl (fun z => nI (sl z)))), (g, .inr (1, [.ref a1, .ref a2, .ref a3, .ref a4, .ref a5, .int fa])), (a3, .inl (cy.2.1, 32, .inl (fun z => bI (rq z))))]) [(A, .inr (0, [.ref g, .ref q, .ref P, .ref e1, .ref e2, .ref e3, .int (bI (al))])), (e3, .inl (cy.2.1, 12, .inl (upd u r (nI 1)))), (q, .inr (3, [.ref a, .ref b, .int ty, .int (nI nn)])), (a, .inl (cy.1, 12, .inl ab)), (b, .inl (cy.1, 12, .inl (fun z => nI (sl z)))), (g, .inr (1, [.ref a1, .ref a2, .ref a3, .ref a4, .ref a5, .int fa])), (a3, .inl (cy.2.1, 32, .inl (fun z => bI (rq z))))] := hD
                refine lv_goto (tgt := 86) hx hb dX0_letMissingClimb_78 (by decide) ?_
                have hst : aCl nn ab sl rq m0 (nn - j1) = (va_up (aCl nn ab sl rq m0 (nn - (j1 + 1))).1 r true, (aCl nn ab sl rq m0 (nn - (j1 + 1))).2) := by rw [aCl_step (by omega), cb2, cb3, if_pos (show (true && true) = true from rfl), if_neg (fun z => nI_m1 (show r < 2 ^ 31 by omega) (hpl ▸ z)), hpl, nI_clamp (by omega)]
                refine lv_iinc (v := nI j1 - 1) (lv' := [(1, .int (nI j1 - 1)), (2, .int (nI r)), (0, .ref A)]) hx hb dX0_letMissingClimb_86 hl (k := 2) rfl (z_dec _) (by decide) rfl (fun ls hl => ?_)
                refine lv_goto (tgt := 20) hx hb dX0_letMissingClimb_89 (by decide) ?_
                exact ih_lo j1 (upd u r (nI 1)) al (by omega) (by omega) (by rw [hst]; exact z_updB rfl hu) (by rw [hst]; exact hal) _ _ _ hP hD hS (lv_sub hl [2, 0] rfl)
  exact lo (nn + 1) nn miA false (by omega) (Nat.le_refl _) (by rw [Nat.sub_self]; exact hm0) (by rw [Nat.sub_self]; rfl) _ _ _ hP hD hS (lv_sub hl [1, 0] rfl)
set_option maxRecDepth 20000 in
theorem lk154_wsX0_letMissingFall : Cond.fieldLink RX0 15 "QueryGateway$Answer" "query" "LQueryGateway$Query;" ∈ wsX0_letMissingFall := by decide +kernel
set_option maxRecDepth 20000 in
theorem in_wsX0_letMissingFall_X0 : ∀ w ∈ wsX00, w ∈ wsX0_letMissingFall := by decide +kernel
set_option maxRecDepth 20000 in
theorem lk156_wsX0_letMissingFall : Cond.fieldLink RX0 30 "QueryGateway$Answer" "missing" "[Z" ∈ wsX0_letMissingFall := by decide +kernel
set_option maxRecDepth 20000 in
theorem lk157_wsX0_letMissingFall : Cond.fieldLink RX0 44 "QueryGateway$Answer" "allMissing" "Z" ∈ wsX0_letMissingFall := by decide +kernel
abbrev rmX0_letMissingFall : Room := { frames := 2, cells := 0, slots := 0, locals := 42 }
set_option maxHeartbeats 4000000 in
set_option maxRecDepth 100000 in
theorem c_X0_letMissingFall {l : Launch} {D : va_G} {cy : zCy} {A g q P e1 e2 e3 a b nn : Nat} {al : Bool} {ty : Int32} {miA ab ld : Nat → Int32} {sl : Nat → Nat} {m1 : Nat → Bool} (hn : nn ≤ 12) (hQ : zQok nn ab sl ld) (hm1 : ∀ k, k < nn → miA k = bI (m1 k)) : zV (Nat → Int32) l yX0_letMissingFall wsX0_letMissingFall rmX0_letMissingFall D cy [(A, .inr (0, [.ref g, .ref q, .ref P, .ref e1, .ref e2, .ref e3, .int (bI (al))])), (e3, .inl (cy.2.1, 12, .inl miA)), (q, .inr (3, [.ref a, .ref b, .int ty, .int (nI nn)])), (a, .inl (cy.1, 12, .inl ab)), (b, .inl (cy.1, 12, .inl (fun z => nI (sl z))))] [.ref A] (fun u => ∀ k, k < nn → u k = bI (aFl ab al m1 nn k)) (fun u => [(A, .inr (0, [.ref g, .ref q, .ref P, .ref e1, .ref e2, .ref e3, .int (bI (al))])), (e3, .inl (cy.2.1, 12, .inl u)), (q, .inr (3, [.ref a, .ref b, .int ty, .int (nI nn)])), (a, .inl (cy.1, 12, .inl ab)), (b, .inl (cy.1, 12, .inl (fun z => nI (sl z))))]) := by
  refine zV.of (cc := cX0_letMissingFall) (maxL := 3) (ret := none) (by decide) rfl rfl ?_
  intro p e s m below meth c ls C hP hK hD hl
  obtain ⟨hx, hb, hr, hml, hts, hown, hlocks⟩ := C
  have hS : va_S (zIn [(A, .inr (0, [.ref g, .ref q, .ref P, .ref e1, .ref e2, .ref e3, .int (bI (al))])), (e3, .inl (cy.2.1, 12, .inl miA)), (q, .inr (3, [.ref a, .ref b, .int ty, .int (nI nn)])), (a, .inl (cy.1, 12, .inl ab)), (b, .inl (cy.1, 12, .inl (fun z => nI (sl z))))]) s.heap s.heap [] := va_S.rf
  have hl : lv_has ls 3 [(0, .ref A)] := hl
  refine lv_iconst (v := nI 0) hx hb dX0_letMissingFall_0 (by decide) ?_
  refine lv_istore_n (lv' := [(1, .int (nI 0)), (0, .ref A)]) hx hb dX0_letMissingFall_1 rfl hl (by decide) rfl (fun ls hl => ?_)
  have lo : ∀ (fuel : Nat) (n : Nat) (u : Nat → Int32), nn + 1 ≤ n + fuel → n ≤ nn → (∀ k, k < nn → u k = bI (aFl ab al m1 n k)) → ∀ (H : Heap) (locs : List Loc) (ls : Array Slot), va_P D vwCl [(A, .inr (0, [.ref g, .ref q, .ref P, .ref e1, .ref e2, .ref e3, .int (bI (al))])), (e3, .inl (cy.2.1, 12, .inl u)), (q, .inr (3, [.ref a, .ref b, .int ty, .int (nI nn)])), (a, .inl (cy.1, 12, .inl ab)), (b, .inl (cy.1, 12, .inl (fun z => nI (sl z))))] H → va_D (zIn [(A, .inr (0, [.ref g, .ref q, .ref P, .ref e1, .ref e2, .ref e3, .int (bI (al))])), (e3, .inl (cy.2.1, 12, .inl miA)), (q, .inr (3, [.ref a, .ref b, .int ty, .int (nI nn)])), (a, .inl (cy.1, 12, .inl ab)), (b, .inl (cy.1, 12, .inl (fun z => nI (sl z))))]) [(A, .inr (0, [.ref g, .ref q, .ref P, .ref e1, .ref e2, .ref e3, .int (bI (al))])), (e3, .inl (cy.2.1, 12, .inl u)), (q, .inr (3, [.ref a, .ref b, .int ty, .int (nI nn)])), (a, .inl (cy.1, 12, .inl ab)), (b, .inl (cy.1, 12, .inl (fun z => nI (sl z))))] → va_S (zIn [(A, .inr (0, [.ref g, .ref q, .ref P, .ref e1, .ref e2, .ref e3, .int (bI (al))])), (e3, .inl (cy.2.1, 12, .inl miA)), (q, .inr (3, [.ref a, .ref b, .int ty, .int (nI nn)])), (a, .inl (cy.1, 12, .inl ab)), (b, .inl (cy.1, 12, .inl (fun z => nI (sl z))))]) s.heap H locs → lv_has ls 3 [(0, .ref A), (1, .int (nI n))] → W p l e rmX0_letMissingFall s m [.ref A].toArray below meth c H locs 0 0 (zVQ (Nat → Int32) D below [.ref A].toArray s [(A, .inr (0, [.ref g, .ref q, .ref P, .ref e1, .ref e2, .ref e3, .int (bI (al))])), (e3, .inl (cy.2.1, 12, .inl miA)), (q, .inr (3, [.ref a, .ref b, .int ty, .int (nI nn)])), (a, .inl (cy.1, 12, .inl ab)), (b, .inl (cy.1, 12, .inl (fun z => nI (sl z))))] (fun u => ∀ k, k < nn → u k = bI (aFl ab al m1 nn k)) (fun u => [(A, .inr (0, [.ref g, .ref q, .ref P, .ref e1, .ref e2, .ref e3, .int (bI (al))])), (e3, .inl (cy.2.1, 12, .inl u)), (q, .inr (3, [.ref a, .ref b, .int ty, .int (nI nn)])), (a, .inl (cy.1, 12, .inl ab)), (b, .inl (cy.1, 12, .inl (fun z => nI (sl z))))])) (F0 m 2 ls []) := by
    intro fuel
    induction fuel with
    | zero => intro n u hfu hi hu; exact absurd hfu (by omega)
    | succ fuel ih_lo =>
      intro n u hfu hi hu H locs ls hP hD hS hl
      refine lv_iload_n hx hb dX0_letMissingFall_2 rfl (lv_at hl 1 rfl) ?_
      refine lv_aload_n hx hb dX0_letMissingFall_3 rfl (lv_at hl 0 rfl) ?_
      refine va_get (D := D) (ci := 0) (v := .ref q) (C := RX0) (T := TX0) (N := 7) hx hb hts in_wsX0_letMissingFall_X0 hown hK.1 hP 0 rfl rfl 1 (by decide) (hts _ lk154_wsX0_letMissingFall) (fun _ h9 => h9) rfl dX0_letMissingFall_4 ?_
      refine z_callV (b := q) (As := []) (rest := [.int (nI n)]) ⟨hx, hb, hml, hown, hts⟩ hK hP hS (c_X3_size (i := 2) rfl) (cwV 0 hts gX0_letMissingFall_X3_size rfl rfl rfl k_yX3_size ⟨Nat.le_of_ble_eq_true rfl, Nat.le_of_ble_eq_true rfl⟩) 2 3 rfl rfl rfl rfl hl.1 rfl rfl dX0_letMissingFall_7 ⟨Nat.le_of_ble_eq_true rfl, Nat.le_of_ble_eq_true rfl⟩ (fun H locs hP hS => ?_)
      refine lv_icmp_ge (tgt := 81) hx hb dX0_letMissingFall_10 (by decide) (fun cb1 => ?_) (fun cb1 => ?_)
      · have cb1 : nn ≤ n := zn_ge_t (a := n) (b := nn) (by omega) (by omega) cb1
        exact z_vret u hx hb hr hlocks hS dX0_letMissingFall_81 hP (by obtain rfl : n = nn := (by omega); exact hu)
      · have cb1 : ¬ (nn ≤ n) := zn_ge_f (a := n) (b := nn) (by omega) (by omega) cb1
        refine lv_iload_n hx hb dX0_letMissingFall_13 rfl (lv_at hl 1 rfl) ?_
        refine lv_bipush (v := nI 12) hx hb dX0_letMissingFall_14 (by decide) ?_
        refine lv_icmp_ge (tgt := 81) hx hb dX0_letMissingFall_16 (by decide) (fun cb2 => ?_) (fun cb2 => ?_)
        · have cb2 : 12 ≤ n := zn_ge_t (a := n) (b := 12) (by omega) (by omega) cb2
          exact absurd cb2 (by omega)
        · have cb2 : ¬ (12 ≤ n) := zn_ge_f (a := n) (b := 12) (by omega) (by omega) cb2
          rcases (hQ n (by omega)).2 with hpl | ⟨r, hrn, hpl, hld⟩
          · skip
            refine lv_aload_n hx hb dX0_letMissingFall_19 rfl (lv_at hl 0 rfl) ?_
            refine va_get (D := D) (ci := 0) (v := .ref q) (C := RX0) (T := TX0) (N := 7) hx hb hts in_wsX0_letMissingFall_X0 hown hK.1 hP 0 rfl rfl 1 (by decide) (hts _ lk154_wsX0_letMissingFall) (fun _ h9 => h9) rfl dX0_letMissingFall_20 ?_
            refine lv_iload_n hx hb dX0_letMissingFall_23 rfl (lv_at hl 1 rfl) ?_
            refine z_callV (b := q) (As := [.int (nI n)]) (rest := []) ⟨hx, hb, hml, hown, hts⟩ hK hP hS (c_X3_aboveOf (i := 2) (j := 3) rfl rfl hn (z := n) (by omega)) (cwV 1 hts gX0_letMissingFall_X3_aboveOf rfl rfl rfl k_yX3_aboveOf ⟨Nat.le_of_ble_eq_true rfl, Nat.le_of_ble_eq_true rfl⟩) 2 3 rfl rfl rfl rfl hl.1 rfl rfl dX0_letMissingFall_24 ⟨Nat.le_of_ble_eq_true rfl, Nat.le_of_ble_eq_true rfl⟩ (fun H locs hP hS => ?_)
            refine z_top (y := (-1 : Int32)) hpl ?_
            refine lv_istore_n (lv' := [(2, .int ((-1 : Int32))), (0, .ref A), (1, .int (nI n))]) hx hb dX0_letMissingFall_27 rfl hl (by decide) rfl (fun ls hl => ?_)
            refine lv_aload_n hx hb dX0_letMissingFall_28 rfl (lv_at hl 1 rfl) ?_
            refine va_get (D := D) (ci := 0) (v := .ref e3) (C := RX0) (T := TX0) (N := 7) hx hb hts in_wsX0_letMissingFall_X0 hown hK.1 hP 0 rfl rfl 5 (by decide) (hts _ lk156_wsX0_letMissingFall) (fun _ h9 => h9) rfl dX0_letMissingFall_29 ?_
            refine lv_iload_n hx hb dX0_letMissingFall_32 rfl (lv_at hl 2 rfl) ?_
            refine lv_aload_n hx hb dX0_letMissingFall_33 rfl (lv_at hl 1 rfl) ?_
            refine va_get (D := D) (ci := 0) (v := .ref e3) (C := RX0) (T := TX0) (N := 7) hx hb hts in_wsX0_letMissingFall_X0 hown hK.1 hP 0 rfl rfl 5 (by decide) (hts _ lk156_wsX0_letMissingFall) (fun _ h9 => h9) rfl dX0_letMissingFall_34 ?_
            refine lv_iload_n hx hb dX0_letMissingFall_37 rfl (lv_at hl 2 rfl) ?_
            refine z_zald (v := bI (aFl ab al m1 n n)) hx hb hK.1 hP 1 1 rfl rfl (k := n) (by omega) (by decide) (hu n (by omega)) dX0_letMissingFall_38 ?_
            refine lv_if_ne (tgt := 69) hx hb dX0_letMissingFall_39 (by decide) (fun cb3 => ?_) (fun cb3 => ?_)
            · have cb3 : (aFl ab al m1 n n) = true := bI_f0 cb3
              refine lv_iconst (v := nI 1) hx hb dX0_letMissingFall_69 (by decide) ?_
              refine lv_goto (tgt := 74) hx hb dX0_letMissingFall_70 (by decide) ?_
              refine z_zast (g := upd u n (nI 1)) hx hb hK.1 hP hD hS 1 1 rfl rfl (k := n) (by omega) (by decide) (by decide) (fun _ _ => rfl) dX0_letMissingFall_74 (fun H locs hP hD hS => ?_)
              have hP : va_P D vwCl [(A, .inr (0, [.ref g, .ref q, .ref P, .ref e1, .ref e2, .ref e3, .int (bI (al))])), (e3, .inl (cy.2.1, 12, .inl (upd u n (nI 1)))), (q, .inr (3, [.ref a, .ref b, .int ty, .int (nI nn)])), (a, .inl (cy.1, 12, .inl ab)), (b, .inl (cy.1, 12, .inl (fun z => nI (sl z))))] H := hP
              have hD : va_D (zIn [(A, .inr (0, [.ref g, .ref q, .ref P, .ref e1, .ref e2, .ref e3, .int (bI (al))])), (e3, .inl (cy.2.1, 12, .inl miA)), (q, .inr (3, [.ref a, .ref b, .int ty, .int (nI nn)])), (a, .inl (cy.1, 12, .inl ab)), (b, .inl (cy.1, 12, .inl (fun z => nI (sl z))))]) [(A, .inr (0, [.ref g, .ref q, .ref P, .ref e1, .ref e2, .ref e3, .int (bI (al))])), (e3, .inl (cy.2.1, 12, .inl (upd u n (nI 1)))), (q, .inr (3, [.ref a, .ref b, .int ty, .int (nI nn)])), (a, .inl (cy.1, 12, .inl ab)), (b, .inl (cy.1, 12, .inl (fun z => nI (sl z))))] := hD
              have hst : (aFl ab al m1 n n || al || (!decide (ab n = -1) && aFl ab al m1 n (ab n).toNatClampNeg)) = true := zo1 cb3
              refine lv_iinc (v := nI (n + 1)) (lv' := [(1, .int (nI (n + 1))), (2, .int ((-1 : Int32))), (0, .ref A)]) hx hb dX0_letMissingFall_75 hl (k := 2) rfl (z_inc _) (by decide) rfl (fun ls hl => ?_)
              refine lv_goto (tgt := 2) hx hb dX0_letMissingFall_78 (by decide) ?_
              exact ih_lo (n + 1) (upd u n (nI 1)) (by omega) (by omega) (z_updB (by rw [hst]; rfl) hu) _ _ _ hP hD hS (lv_sub hl [2, 0] rfl)
            · have cb3 : (aFl ab al m1 n n) = false := bI_t0 cb3
              refine lv_aload_n hx hb dX0_letMissingFall_42 rfl (lv_at hl 1 rfl) ?_
              refine va_get (D := D) (ci := 0) (v := .int (bI (al))) (C := RX0) (T := TX0) (N := 7) hx hb hts in_wsX0_letMissingFall_X0 hown hK.1 hP 0 rfl rfl 6 (by decide) (hts _ lk157_wsX0_letMissingFall) (fun _ h9 => h9) rfl dX0_letMissingFall_43 ?_
              refine lv_if_ne (tgt := 69) hx hb dX0_letMissingFall_46 (by decide) (fun cb4 => ?_) (fun cb4 => ?_)
              · have cb4 : (al) = true := bI_f0 cb4
                refine lv_iconst (v := nI 1) hx hb dX0_letMissingFall_69 (by decide) ?_
                refine lv_goto (tgt := 74) hx hb dX0_letMissingFall_70 (by decide) ?_
                refine z_zast (g := upd u n (nI 1)) hx hb hK.1 hP hD hS 1 1 rfl rfl (k := n) (by omega) (by decide) (by decide) (fun _ _ => rfl) dX0_letMissingFall_74 (fun H locs hP hD hS => ?_)
                have hP : va_P D vwCl [(A, .inr (0, [.ref g, .ref q, .ref P, .ref e1, .ref e2, .ref e3, .int (bI (al))])), (e3, .inl (cy.2.1, 12, .inl (upd u n (nI 1)))), (q, .inr (3, [.ref a, .ref b, .int ty, .int (nI nn)])), (a, .inl (cy.1, 12, .inl ab)), (b, .inl (cy.1, 12, .inl (fun z => nI (sl z))))] H := hP
                have hD : va_D (zIn [(A, .inr (0, [.ref g, .ref q, .ref P, .ref e1, .ref e2, .ref e3, .int (bI (al))])), (e3, .inl (cy.2.1, 12, .inl miA)), (q, .inr (3, [.ref a, .ref b, .int ty, .int (nI nn)])), (a, .inl (cy.1, 12, .inl ab)), (b, .inl (cy.1, 12, .inl (fun z => nI (sl z))))]) [(A, .inr (0, [.ref g, .ref q, .ref P, .ref e1, .ref e2, .ref e3, .int (bI (al))])), (e3, .inl (cy.2.1, 12, .inl (upd u n (nI 1)))), (q, .inr (3, [.ref a, .ref b, .int ty, .int (nI nn)])), (a, .inl (cy.1, 12, .inl ab)), (b, .inl (cy.1, 12, .inl (fun z => nI (sl z))))] := hD
                have hst : (aFl ab al m1 n n || al || (!decide (ab n = -1) && aFl ab al m1 n (ab n).toNatClampNeg)) = true := zo2 cb4
                refine lv_iinc (v := nI (n + 1)) (lv' := [(1, .int (nI (n + 1))), (2, .int ((-1 : Int32))), (0, .ref A)]) hx hb dX0_letMissingFall_75 hl (k := 2) rfl (z_inc _) (by decide) rfl (fun ls hl => ?_)
                refine lv_goto (tgt := 2) hx hb dX0_letMissingFall_78 (by decide) ?_
                exact ih_lo (n + 1) (upd u n (nI 1)) (by omega) (by omega) (z_updB (by rw [hst]; rfl) hu) _ _ _ hP hD hS (lv_sub hl [2, 0] rfl)
              · have cb4 : (al) = false := bI_t0 cb4
                refine lv_aload_n hx hb dX0_letMissingFall_49 rfl (lv_at hl 1 rfl) ?_
                refine va_get (D := D) (ci := 0) (v := .ref q) (C := RX0) (T := TX0) (N := 7) hx hb hts in_wsX0_letMissingFall_X0 hown hK.1 hP 0 rfl rfl 1 (by decide) (hts _ lk154_wsX0_letMissingFall) (fun _ h9 => h9) rfl dX0_letMissingFall_50 ?_
                refine lv_iload_n hx hb dX0_letMissingFall_53 rfl (lv_at hl 0 rfl) ?_
                refine z_callV (b := q) (As := [.int ((-1 : Int32))]) (rest := [.int (nI n), .ref e3]) ⟨hx, hb, hml, hown, hts⟩ hK hP hS (c_X3_has_m1 (i := 2) rfl hn) (cwV 1 hts gX0_letMissingFall_X3_has rfl rfl rfl k_yX3_has ⟨Nat.le_of_ble_eq_true rfl, Nat.le_of_ble_eq_true rfl⟩) 2 3 rfl rfl rfl rfl hl.1 rfl rfl dX0_letMissingFall_54 ⟨Nat.le_of_ble_eq_true rfl, Nat.le_of_ble_eq_true rfl⟩ (fun H locs hP hS => ?_)
                refine lv_if_eq (tgt := 73) hx hb dX0_letMissingFall_57 (by decide) (fun cb5 => ?_) (fun cb5 => ?_)
                · have cb5 : 0 = 0 := zn_eq_t (a := 0) (b := 0) (by omega) (by omega) cb5
                  refine lv_iconst (v := nI 0) hx hb dX0_letMissingFall_73 (by decide) ?_
                  refine z_zast (g := upd u n (nI 0)) hx hb hK.1 hP hD hS 1 1 rfl rfl (k := n) (by omega) (by decide) (by decide) (fun _ _ => rfl) dX0_letMissingFall_74 (fun H locs hP hD hS => ?_)
                  have hP : va_P D vwCl [(A, .inr (0, [.ref g, .ref q, .ref P, .ref e1, .ref e2, .ref e3, .int (bI (al))])), (e3, .inl (cy.2.1, 12, .inl (upd u n (nI 0)))), (q, .inr (3, [.ref a, .ref b, .int ty, .int (nI nn)])), (a, .inl (cy.1, 12, .inl ab)), (b, .inl (cy.1, 12, .inl (fun z => nI (sl z))))] H := hP
                  have hD : va_D (zIn [(A, .inr (0, [.ref g, .ref q, .ref P, .ref e1, .ref e2, .ref e3, .int (bI (al))])), (e3, .inl (cy.2.1, 12, .inl miA)), (q, .inr (3, [.ref a, .ref b, .int ty, .int (nI nn)])), (a, .inl (cy.1, 12, .inl ab)), (b, .inl (cy.1, 12, .inl (fun z => nI (sl z))))]) [(A, .inr (0, [.ref g, .ref q, .ref P, .ref e1, .ref e2, .ref e3, .int (bI (al))])), (e3, .inl (cy.2.1, 12, .inl (upd u n (nI 0)))), (q, .inr (3, [.ref a, .ref b, .int ty, .int (nI nn)])), (a, .inl (cy.1, 12, .inl ab)), (b, .inl (cy.1, 12, .inl (fun z => nI (sl z))))] := hD
                  have hst : (aFl ab al m1 n n || al || (!decide (ab n = -1) && aFl ab al m1 n (ab n).toNatClampNeg)) = false := zo0 cb3 cb4 (by rw [decide_eq_true hpl]; rfl)
                  refine lv_iinc (v := nI (n + 1)) (lv' := [(1, .int (nI (n + 1))), (2, .int ((-1 : Int32))), (0, .ref A)]) hx hb dX0_letMissingFall_75 hl (k := 2) rfl (z_inc _) (by decide) rfl (fun ls hl => ?_)
                  refine lv_goto (tgt := 2) hx hb dX0_letMissingFall_78 (by decide) ?_
                  exact ih_lo (n + 1) (upd u n (nI 0)) (by omega) (by omega) (z_updB (by rw [hst]; rfl) hu) _ _ _ hP hD hS (lv_sub hl [2, 0] rfl)
                · have cb5 : ¬ (0 = 0) := zn_eq_f (a := 0) (b := 0) (by omega) (by omega) cb5
                  exact absurd cb5 (by decide)
          · skip
            refine lv_aload_n hx hb dX0_letMissingFall_19 rfl (lv_at hl 0 rfl) ?_
            refine va_get (D := D) (ci := 0) (v := .ref q) (C := RX0) (T := TX0) (N := 7) hx hb hts in_wsX0_letMissingFall_X0 hown hK.1 hP 0 rfl rfl 1 (by decide) (hts _ lk154_wsX0_letMissingFall) (fun _ h9 => h9) rfl dX0_letMissingFall_20 ?_
            refine lv_iload_n hx hb dX0_letMissingFall_23 rfl (lv_at hl 1 rfl) ?_
            refine z_callV (b := q) (As := [.int (nI n)]) (rest := []) ⟨hx, hb, hml, hown, hts⟩ hK hP hS (c_X3_aboveOf (i := 2) (j := 3) rfl rfl hn (z := n) (by omega)) (cwV 1 hts gX0_letMissingFall_X3_aboveOf rfl rfl rfl k_yX3_aboveOf ⟨Nat.le_of_ble_eq_true rfl, Nat.le_of_ble_eq_true rfl⟩) 2 3 rfl rfl rfl rfl hl.1 rfl rfl dX0_letMissingFall_24 ⟨Nat.le_of_ble_eq_true rfl, Nat.le_of_ble_eq_true rfl⟩ (fun H locs hP hS => ?_)
            refine z_top (y := nI r) hpl ?_
            refine lv_istore_n (lv' := [(2, .int (nI r)), (0, .ref A), (1, .int (nI n))]) hx hb dX0_letMissingFall_27 rfl hl (by decide) rfl (fun ls hl => ?_)
            refine lv_aload_n hx hb dX0_letMissingFall_28 rfl (lv_at hl 1 rfl) ?_
            refine va_get (D := D) (ci := 0) (v := .ref e3) (C := RX0) (T := TX0) (N := 7) hx hb hts in_wsX0_letMissingFall_X0 hown hK.1 hP 0 rfl rfl 5 (by decide) (hts _ lk156_wsX0_letMissingFall) (fun _ h9 => h9) rfl dX0_letMissingFall_29 ?_
            refine lv_iload_n hx hb dX0_letMissingFall_32 rfl (lv_at hl 2 rfl) ?_
            refine lv_aload_n hx hb dX0_letMissingFall_33 rfl (lv_at hl 1 rfl) ?_
            refine va_get (D := D) (ci := 0) (v := .ref e3) (C := RX0) (T := TX0) (N := 7) hx hb hts in_wsX0_letMissingFall_X0 hown hK.1 hP 0 rfl rfl 5 (by decide) (hts _ lk156_wsX0_letMissingFall) (fun _ h9 => h9) rfl dX0_letMissingFall_34 ?_
            refine lv_iload_n hx hb dX0_letMissingFall_37 rfl (lv_at hl 2 rfl) ?_
            refine z_zald (v := bI (aFl ab al m1 n n)) hx hb hK.1 hP 1 1 rfl rfl (k := n) (by omega) (by decide) (hu n (by omega)) dX0_letMissingFall_38 ?_
            refine lv_if_ne (tgt := 69) hx hb dX0_letMissingFall_39 (by decide) (fun cb6 => ?_) (fun cb6 => ?_)
            · have cb6 : (aFl ab al m1 n n) = true := bI_f0 cb6
              refine lv_iconst (v := nI 1) hx hb dX0_letMissingFall_69 (by decide) ?_
              refine lv_goto (tgt := 74) hx hb dX0_letMissingFall_70 (by decide) ?_
              refine z_zast (g := upd u n (nI 1)) hx hb hK.1 hP hD hS 1 1 rfl rfl (k := n) (by omega) (by decide) (by decide) (fun _ _ => rfl) dX0_letMissingFall_74 (fun H locs hP hD hS => ?_)
              have hP : va_P D vwCl [(A, .inr (0, [.ref g, .ref q, .ref P, .ref e1, .ref e2, .ref e3, .int (bI (al))])), (e3, .inl (cy.2.1, 12, .inl (upd u n (nI 1)))), (q, .inr (3, [.ref a, .ref b, .int ty, .int (nI nn)])), (a, .inl (cy.1, 12, .inl ab)), (b, .inl (cy.1, 12, .inl (fun z => nI (sl z))))] H := hP
              have hD : va_D (zIn [(A, .inr (0, [.ref g, .ref q, .ref P, .ref e1, .ref e2, .ref e3, .int (bI (al))])), (e3, .inl (cy.2.1, 12, .inl miA)), (q, .inr (3, [.ref a, .ref b, .int ty, .int (nI nn)])), (a, .inl (cy.1, 12, .inl ab)), (b, .inl (cy.1, 12, .inl (fun z => nI (sl z))))]) [(A, .inr (0, [.ref g, .ref q, .ref P, .ref e1, .ref e2, .ref e3, .int (bI (al))])), (e3, .inl (cy.2.1, 12, .inl (upd u n (nI 1)))), (q, .inr (3, [.ref a, .ref b, .int ty, .int (nI nn)])), (a, .inl (cy.1, 12, .inl ab)), (b, .inl (cy.1, 12, .inl (fun z => nI (sl z))))] := hD
              have hst : (aFl ab al m1 n n || al || (!decide (ab n = -1) && aFl ab al m1 n (ab n).toNatClampNeg)) = true := zo1 cb6
              refine lv_iinc (v := nI (n + 1)) (lv' := [(1, .int (nI (n + 1))), (2, .int (nI r)), (0, .ref A)]) hx hb dX0_letMissingFall_75 hl (k := 2) rfl (z_inc _) (by decide) rfl (fun ls hl => ?_)
              refine lv_goto (tgt := 2) hx hb dX0_letMissingFall_78 (by decide) ?_
              exact ih_lo (n + 1) (upd u n (nI 1)) (by omega) (by omega) (z_updB (by rw [hst]; rfl) hu) _ _ _ hP hD hS (lv_sub hl [2, 0] rfl)
            · have cb6 : (aFl ab al m1 n n) = false := bI_t0 cb6
              refine lv_aload_n hx hb dX0_letMissingFall_42 rfl (lv_at hl 1 rfl) ?_
              refine va_get (D := D) (ci := 0) (v := .int (bI (al))) (C := RX0) (T := TX0) (N := 7) hx hb hts in_wsX0_letMissingFall_X0 hown hK.1 hP 0 rfl rfl 6 (by decide) (hts _ lk157_wsX0_letMissingFall) (fun _ h9 => h9) rfl dX0_letMissingFall_43 ?_
              refine lv_if_ne (tgt := 69) hx hb dX0_letMissingFall_46 (by decide) (fun cb7 => ?_) (fun cb7 => ?_)
              · have cb7 : (al) = true := bI_f0 cb7
                refine lv_iconst (v := nI 1) hx hb dX0_letMissingFall_69 (by decide) ?_
                refine lv_goto (tgt := 74) hx hb dX0_letMissingFall_70 (by decide) ?_
                refine z_zast (g := upd u n (nI 1)) hx hb hK.1 hP hD hS 1 1 rfl rfl (k := n) (by omega) (by decide) (by decide) (fun _ _ => rfl) dX0_letMissingFall_74 (fun H locs hP hD hS => ?_)
                have hP : va_P D vwCl [(A, .inr (0, [.ref g, .ref q, .ref P, .ref e1, .ref e2, .ref e3, .int (bI (al))])), (e3, .inl (cy.2.1, 12, .inl (upd u n (nI 1)))), (q, .inr (3, [.ref a, .ref b, .int ty, .int (nI nn)])), (a, .inl (cy.1, 12, .inl ab)), (b, .inl (cy.1, 12, .inl (fun z => nI (sl z))))] H := hP
                have hD : va_D (zIn [(A, .inr (0, [.ref g, .ref q, .ref P, .ref e1, .ref e2, .ref e3, .int (bI (al))])), (e3, .inl (cy.2.1, 12, .inl miA)), (q, .inr (3, [.ref a, .ref b, .int ty, .int (nI nn)])), (a, .inl (cy.1, 12, .inl ab)), (b, .inl (cy.1, 12, .inl (fun z => nI (sl z))))]) [(A, .inr (0, [.ref g, .ref q, .ref P, .ref e1, .ref e2, .ref e3, .int (bI (al))])), (e3, .inl (cy.2.1, 12, .inl (upd u n (nI 1)))), (q, .inr (3, [.ref a, .ref b, .int ty, .int (nI nn)])), (a, .inl (cy.1, 12, .inl ab)), (b, .inl (cy.1, 12, .inl (fun z => nI (sl z))))] := hD
                have hst : (aFl ab al m1 n n || al || (!decide (ab n = -1) && aFl ab al m1 n (ab n).toNatClampNeg)) = true := zo2 cb7
                refine lv_iinc (v := nI (n + 1)) (lv' := [(1, .int (nI (n + 1))), (2, .int (nI r)), (0, .ref A)]) hx hb dX0_letMissingFall_75 hl (k := 2) rfl (z_inc _) (by decide) rfl (fun ls hl => ?_)
                refine lv_goto (tgt := 2) hx hb dX0_letMissingFall_78 (by decide) ?_
                exact ih_lo (n + 1) (upd u n (nI 1)) (by omega) (by omega) (z_updB (by rw [hst]; rfl) hu) _ _ _ hP hD hS (lv_sub hl [2, 0] rfl)
              · have cb7 : (al) = false := bI_t0 cb7
                refine lv_aload_n hx hb dX0_letMissingFall_49 rfl (lv_at hl 1 rfl) ?_
                refine va_get (D := D) (ci := 0) (v := .ref q) (C := RX0) (T := TX0) (N := 7) hx hb hts in_wsX0_letMissingFall_X0 hown hK.1 hP 0 rfl rfl 1 (by decide) (hts _ lk154_wsX0_letMissingFall) (fun _ h9 => h9) rfl dX0_letMissingFall_50 ?_
                refine lv_iload_n hx hb dX0_letMissingFall_53 rfl (lv_at hl 0 rfl) ?_
                refine z_callV (b := q) (As := [.int (nI r)]) (rest := [.int (nI n), .ref e3]) ⟨hx, hb, hml, hown, hts⟩ hK hP hS (c_X3_has_in (i := 2) rfl hn (k := r) (by omega)) (cwV 1 hts gX0_letMissingFall_X3_has rfl rfl rfl k_yX3_has ⟨Nat.le_of_ble_eq_true rfl, Nat.le_of_ble_eq_true rfl⟩) 2 3 rfl rfl rfl rfl hl.1 rfl rfl dX0_letMissingFall_54 ⟨Nat.le_of_ble_eq_true rfl, Nat.le_of_ble_eq_true rfl⟩ (fun H locs hP hS => ?_)
                refine lv_if_eq (tgt := 73) hx hb dX0_letMissingFall_57 (by decide) (fun cb8 => ?_) (fun cb8 => ?_)
                · have cb8 : 1 = 0 := zn_eq_t (a := 1) (b := 0) (by omega) (by omega) cb8
                  exact absurd cb8 (by decide)
                · have cb8 : ¬ (1 = 0) := zn_eq_f (a := 1) (b := 0) (by omega) (by omega) cb8
                  refine lv_aload_n hx hb dX0_letMissingFall_60 rfl (lv_at hl 1 rfl) ?_
                  refine va_get (D := D) (ci := 0) (v := .ref e3) (C := RX0) (T := TX0) (N := 7) hx hb hts in_wsX0_letMissingFall_X0 hown hK.1 hP 0 rfl rfl 5 (by decide) (hts _ lk156_wsX0_letMissingFall) (fun _ h9 => h9) rfl dX0_letMissingFall_61 ?_
                  refine lv_iload_n hx hb dX0_letMissingFall_64 rfl (lv_at hl 0 rfl) ?_
                  refine z_zald (v := bI (aFl ab al m1 n r)) hx hb hK.1 hP 1 1 rfl rfl (k := r) (by omega) (by decide) (hu r (by omega)) dX0_letMissingFall_65 ?_
                  refine lv_if_eq (tgt := 73) hx hb dX0_letMissingFall_66 (by decide) (fun cb9 => ?_) (fun cb9 => ?_)
                  · have cb9 : (aFl ab al m1 n r) = false := bI_t0 cb9
                    refine lv_iconst (v := nI 0) hx hb dX0_letMissingFall_73 (by decide) ?_
                    refine z_zast (g := upd u n (nI 0)) hx hb hK.1 hP hD hS 1 1 rfl rfl (k := n) (by omega) (by decide) (by decide) (fun _ _ => rfl) dX0_letMissingFall_74 (fun H locs hP hD hS => ?_)
                    have hP : va_P D vwCl [(A, .inr (0, [.ref g, .ref q, .ref P, .ref e1, .ref e2, .ref e3, .int (bI (al))])), (e3, .inl (cy.2.1, 12, .inl (upd u n (nI 0)))), (q, .inr (3, [.ref a, .ref b, .int ty, .int (nI nn)])), (a, .inl (cy.1, 12, .inl ab)), (b, .inl (cy.1, 12, .inl (fun z => nI (sl z))))] H := hP
                    have hD : va_D (zIn [(A, .inr (0, [.ref g, .ref q, .ref P, .ref e1, .ref e2, .ref e3, .int (bI (al))])), (e3, .inl (cy.2.1, 12, .inl miA)), (q, .inr (3, [.ref a, .ref b, .int ty, .int (nI nn)])), (a, .inl (cy.1, 12, .inl ab)), (b, .inl (cy.1, 12, .inl (fun z => nI (sl z))))]) [(A, .inr (0, [.ref g, .ref q, .ref P, .ref e1, .ref e2, .ref e3, .int (bI (al))])), (e3, .inl (cy.2.1, 12, .inl (upd u n (nI 0)))), (q, .inr (3, [.ref a, .ref b, .int ty, .int (nI nn)])), (a, .inl (cy.1, 12, .inl ab)), (b, .inl (cy.1, 12, .inl (fun z => nI (sl z))))] := hD
                    have hst : (aFl ab al m1 n n || al || (!decide (ab n = -1) && aFl ab al m1 n (ab n).toNatClampNeg)) = false := zo0 cb6 cb7 (by rw [decide_eq_false (fun z => nI_m1 (show r < 2 ^ 31 by omega) (hpl ▸ z)), hpl, nI_clamp (by omega), cb9]; rfl)
                    refine lv_iinc (v := nI (n + 1)) (lv' := [(1, .int (nI (n + 1))), (2, .int (nI r)), (0, .ref A)]) hx hb dX0_letMissingFall_75 hl (k := 2) rfl (z_inc _) (by decide) rfl (fun ls hl => ?_)
                    refine lv_goto (tgt := 2) hx hb dX0_letMissingFall_78 (by decide) ?_
                    exact ih_lo (n + 1) (upd u n (nI 0)) (by omega) (by omega) (z_updB (by rw [hst]; rfl) hu) _ _ _ hP hD hS (lv_sub hl [2, 0] rfl)
                  · have cb9 : (aFl ab al m1 n r) = true := bI_f0 cb9
                    refine lv_iconst (v := nI 1) hx hb dX0_letMissingFall_69 (by decide) ?_
                    refine lv_goto (tgt := 74) hx hb dX0_letMissingFall_70 (by decide) ?_
                    refine z_zast (g := upd u n (nI 1)) hx hb hK.1 hP hD hS 1 1 rfl rfl (k := n) (by omega) (by decide) (by decide) (fun _ _ => rfl) dX0_letMissingFall_74 (fun H locs hP hD hS => ?_)
                    have hP : va_P D vwCl [(A, .inr (0, [.ref g, .ref q, .ref P, .ref e1, .ref e2, .ref e3, .int (bI (al))])), (e3, .inl (cy.2.1, 12, .inl (upd u n (nI 1)))), (q, .inr (3, [.ref a, .ref b, .int ty, .int (nI nn)])), (a, .inl (cy.1, 12, .inl ab)), (b, .inl (cy.1, 12, .inl (fun z => nI (sl z))))] H := hP
                    have hD : va_D (zIn [(A, .inr (0, [.ref g, .ref q, .ref P, .ref e1, .ref e2, .ref e3, .int (bI (al))])), (e3, .inl (cy.2.1, 12, .inl miA)), (q, .inr (3, [.ref a, .ref b, .int ty, .int (nI nn)])), (a, .inl (cy.1, 12, .inl ab)), (b, .inl (cy.1, 12, .inl (fun z => nI (sl z))))]) [(A, .inr (0, [.ref g, .ref q, .ref P, .ref e1, .ref e2, .ref e3, .int (bI (al))])), (e3, .inl (cy.2.1, 12, .inl (upd u n (nI 1)))), (q, .inr (3, [.ref a, .ref b, .int ty, .int (nI nn)])), (a, .inl (cy.1, 12, .inl ab)), (b, .inl (cy.1, 12, .inl (fun z => nI (sl z))))] := hD
                    have hst : (aFl ab al m1 n n || al || (!decide (ab n = -1) && aFl ab al m1 n (ab n).toNatClampNeg)) = true := zo3 (by rw [decide_eq_false (fun z => nI_m1 (show r < 2 ^ 31 by omega) (hpl ▸ z)), hpl, nI_clamp (by omega), cb9]; rfl)
                    refine lv_iinc (v := nI (n + 1)) (lv' := [(1, .int (nI (n + 1))), (2, .int (nI r)), (0, .ref A)]) hx hb dX0_letMissingFall_75 hl (k := 2) rfl (z_inc _) (by decide) rfl (fun ls hl => ?_)
                    refine lv_goto (tgt := 2) hx hb dX0_letMissingFall_78 (by decide) ?_
                    exact ih_lo (n + 1) (upd u n (nI 1)) (by omega) (by omega) (z_updB (by rw [hst]; rfl) hu) _ _ _ hP hD hS (lv_sub hl [2, 0] rfl)
  exact lo (nn + 1) 0 miA (by omega) (by omega) hm1 _ _ _ hP hD hS (lv_sub hl [1, 0] rfl)
theorem k_yX0_readValues : yX0_readValues.cls = RX0 ∧ yX0_readValues.cls ≠ "java/lang/invoke/MethodHandle" ∧ yX0_readValues.cls ≠ "java/lang/invoke/VarHandle" ∧ (parseMethodDescriptor yX0_readValues.desc).map (fun d => d.parameters.length) = some 2 := by decide +kernel
theorem k_yX0_letMissingClimb : yX0_letMissingClimb.cls = RX0 ∧ yX0_letMissingClimb.cls ≠ "java/lang/invoke/MethodHandle" ∧ yX0_letMissingClimb.cls ≠ "java/lang/invoke/VarHandle" ∧ (parseMethodDescriptor yX0_letMissingClimb.desc).map (fun d => d.parameters.length) = some 0 := by decide +kernel
theorem k_yX0_letMissingFall : yX0_letMissingFall.cls = RX0 ∧ yX0_letMissingFall.cls ≠ "java/lang/invoke/MethodHandle" ∧ yX0_letMissingFall.cls ≠ "java/lang/invoke/VarHandle" ∧ (parseMethodDescriptor yX0_letMissingFall.desc).map (fun d => d.parameters.length) = some 0 := by decide +kernel
abbrev rmX0_read : Room := { frames := 3, cells := 0, slots := 0, locals := 68 }
set_option maxHeartbeats 4000000 in
set_option maxRecDepth 100000 in
theorem c_X0_read {l : Launch} {D : va_G} {cy : zCy} {A g q P e1 e2 e3 a b p1 p2 p3 p4 a1 a2 a3 a4 a5 nn : Nat} {am : Bool} {ty cnt ln kn th fa : Int32} {enA vaA miA ab svA ld : Nat → Int32} {sl sv : Nat → Nat} {vl : Nat → Nat → Int32} {rq : Nat → Bool} {fl key : Nat} (hn : nn ≤ 12) (hQ : zQok nn ab sl ld) (hV : zVok vl ld) (hsv : ∀ n, n < nn → svA n = nI (sv n) ∧ sv n < 4) (hfl : fl < 16) (hkey : key < 20) : zV ((Nat → Int32) × (Nat → Int32) × (Nat → Int32) × Bool) l yX0_read wsX0_read rmX0_read D cy [(A, .inr (0, [.ref g, .ref q, .ref P, .ref e1, .ref e2, .ref e3, .int (bI (am))])), (e1, .inl (cy.1, 12, .inl enA)), (e2, .inl (cy.1, 12, .inl vaA)), (e3, .inl (cy.2.1, 12, .inl miA)), (q, .inr (3, [.ref a, .ref b, .int ty, .int (nI nn)])), (a, .inl (cy.1, 12, .inl ab)), (b, .inl (cy.1, 12, .inl (fun z => nI (sl z)))), (P, .inr (2, [.ref g, .ref q, .ref p1, .ref p2, .ref p3, .ref p4, .int cnt, .int ln, .int kn, .int th])), (p4, .inl (cy.1, 12, .inl svA)), (g, .inr (1, [.ref a1, .ref a2, .ref a3, .ref a4, .ref a5, .int fa])), (a3, .inl (cy.2.1, 32, .inl (fun z => bI (rq z)))), (a5, .inl (cy.1, 640, .inl (fun z => vl (z / 20) (z % 20))))] [.ref A, .int (nI key), .int (nI fl)] (fun u => (∀ k, k < nn → u.1 k = aEN ab sl sv vl fl key k ∧ u.2.1 k = aRV ab sl sv vl fl key k ∧ u.2.2.1 k = bI (aMIS nn ab sl rq sv vl fl key k)) ∧ u.2.2.2 = aALL nn ab sl rq sv vl fl key) (fun u => [(A, .inr (0, [.ref g, .ref q, .ref P, .ref e1, .ref e2, .ref e3, .int (bI (u.2.2.2))])), (e1, .inl (cy.1, 12, .inl u.1)), (e2, .inl (cy.1, 12, .inl u.2.1)), (e3, .inl (cy.2.1, 12, .inl u.2.2.1)), (q, .inr (3, [.ref a, .ref b, .int ty, .int (nI nn)])), (a, .inl (cy.1, 12, .inl ab)), (b, .inl (cy.1, 12, .inl (fun z => nI (sl z)))), (P, .inr (2, [.ref g, .ref q, .ref p1, .ref p2, .ref p3, .ref p4, .int cnt, .int ln, .int kn, .int th])), (p4, .inl (cy.1, 12, .inl svA)), (g, .inr (1, [.ref a1, .ref a2, .ref a3, .ref a4, .ref a5, .int fa])), (a3, .inl (cy.2.1, 32, .inl (fun z => bI (rq z)))), (a5, .inl (cy.1, 640, .inl (fun z => vl (z / 20) (z % 20))))]) := by
  refine zV.of (cc := cX0_read) (maxL := 3) (ret := none) (by decide) rfl rfl ?_
  intro p e s m below meth c ls C hP hK hD hl
  obtain ⟨hx, hb, hr, hml, hts, hown, hlocks⟩ := C
  have hS : va_S (zIn [(A, .inr (0, [.ref g, .ref q, .ref P, .ref e1, .ref e2, .ref e3, .int (bI (am))])), (e1, .inl (cy.1, 12, .inl enA)), (e2, .inl (cy.1, 12, .inl vaA)), (e3, .inl (cy.2.1, 12, .inl miA)), (q, .inr (3, [.ref a, .ref b, .int ty, .int (nI nn)])), (a, .inl (cy.1, 12, .inl ab)), (b, .inl (cy.1, 12, .inl (fun z => nI (sl z)))), (P, .inr (2, [.ref g, .ref q, .ref p1, .ref p2, .ref p3, .ref p4, .int cnt, .int ln, .int kn, .int th])), (p4, .inl (cy.1, 12, .inl svA)), (g, .inr (1, [.ref a1, .ref a2, .ref a3, .ref a4, .ref a5, .int fa])), (a3, .inl (cy.2.1, 32, .inl (fun z => bI (rq z)))), (a5, .inl (cy.1, 640, .inl (fun z => vl (z / 20) (z % 20))))]) s.heap s.heap [] := va_S.rf
  have hl : lv_has ls 3 [(0, .ref A), (1, .int (nI key)), (2, .int (nI fl))] := hl
  refine lv_aload_n hx hb dX0_read_0 rfl (lv_at hl 0 rfl) ?_
  refine lv_iload_n hx hb dX0_read_1 rfl (lv_at hl 1 rfl) ?_
  refine lv_iload_n hx hb dX0_read_2 rfl (lv_at hl 2 rfl) ?_
  refine z_callVV (b := A) (As := [.int (nI key), .int (nI fl)]) (rest := []) [(a3, .inl (cy.2.1, 32, .inl (fun z => bI (rq z))))] ⟨hx, hb, hml, hown, hts⟩ hK hP hD hS (c_X0_readValues hn hQ hV hsv hfl hkey) (cwV 2 hts gX0_read_X0_readValues rfl rfl rfl k_yX0_readValues ⟨Nat.le_of_ble_eq_true rfl, Nat.le_of_ble_eq_true rfl⟩) [0, 1, 2, 3, 4, 5, 6, 7, 8, 9, 11] [10] rfl rfl rfl (fun _ => rfl) 0 0 rfl rfl rfl rfl hl.1 rfl rfl dX0_read_3 ⟨Nat.le_of_ble_eq_true rfl, Nat.le_of_ble_eq_true rfl⟩ (fun uu0 H locs hp1 hP hD hS => ?_)
  obtain ⟨v1, v2, v3⟩ := uu0
  have hr1 := hp1
  have hP : va_P D vwCl [(a3, .inl (cy.2.1, 32, .inl (fun z => bI (rq z)))), (A, .inr (0, [.ref g, .ref q, .ref P, .ref e1, .ref e2, .ref e3, .int (bI (am))])), (e1, .inl (cy.1, 12, .inl v1)), (e2, .inl (cy.1, 12, .inl v2)), (e3, .inl (cy.2.1, 12, .inl v3)), (q, .inr (3, [.ref a, .ref b, .int ty, .int (nI nn)])), (a, .inl (cy.1, 12, .inl ab)), (b, .inl (cy.1, 12, .inl (fun z => nI (sl z)))), (P, .inr (2, [.ref g, .ref q, .ref p1, .ref p2, .ref p3, .ref p4, .int cnt, .int ln, .int kn, .int th])), (p4, .inl (cy.1, 12, .inl svA)), (g, .inr (1, [.ref a1, .ref a2, .ref a3, .ref a4, .ref a5, .int fa])), (a5, .inl (cy.1, 640, .inl (fun z => vl (z / 20) (z % 20))))] H := hP
  have hD : va_D (zIn [(A, .inr (0, [.ref g, .ref q, .ref P, .ref e1, .ref e2, .ref e3, .int (bI (am))])), (e1, .inl (cy.1, 12, .inl enA)), (e2, .inl (cy.1, 12, .inl vaA)), (e3, .inl (cy.2.1, 12, .inl miA)), (q, .inr (3, [.ref a, .ref b, .int ty, .int (nI nn)])), (a, .inl (cy.1, 12, .inl ab)), (b, .inl (cy.1, 12, .inl (fun z => nI (sl z)))), (P, .inr (2, [.ref g, .ref q, .ref p1, .ref p2, .ref p3, .ref p4, .int cnt, .int ln, .int kn, .int th])), (p4, .inl (cy.1, 12, .inl svA)), (g, .inr (1, [.ref a1, .ref a2, .ref a3, .ref a4, .ref a5, .int fa])), (a3, .inl (cy.2.1, 32, .inl (fun z => bI (rq z)))), (a5, .inl (cy.1, 640, .inl (fun z => vl (z / 20) (z % 20))))]) [(a3, .inl (cy.2.1, 32, .inl (fun z => bI (rq z)))), (A, .inr (0, [.ref g, .ref q, .ref P, .ref e1, .ref e2, .ref e3, .int (bI (am))])), (e1, .inl (cy.1, 12, .inl v1)), (e2, .inl (cy.1, 12, .inl v2)), (e3, .inl (cy.2.1, 12, .inl v3)), (q, .inr (3, [.ref a, .ref b, .int ty, .int (nI nn)])), (a, .inl (cy.1, 12, .inl ab)), (b, .inl (cy.1, 12, .inl (fun z => nI (sl z)))), (P, .inr (2, [.ref g, .ref q, .ref p1, .ref p2, .ref p3, .ref p4, .int cnt, .int ln, .int kn, .int th])), (p4, .inl (cy.1, 12, .inl svA)), (g, .inr (1, [.ref a1, .ref a2, .ref a3, .ref a4, .ref a5, .int fa])), (a5, .inl (cy.1, 640, .inl (fun z => vl (z / 20) (z % 20))))] := hD
  refine lv_aload_n hx hb dX0_read_6 rfl (lv_at hl 0 rfl) ?_
  refine z_callVV (b := A) (As := []) (rest := []) [(e1, .inl (cy.1, 12, .inl v1)), (e2, .inl (cy.1, 12, .inl v2)), (P, .inr (2, [.ref g, .ref q, .ref p1, .ref p2, .ref p3, .ref p4, .int cnt, .int ln, .int kn, .int th])), (p4, .inl (cy.1, 12, .inl svA)), (a5, .inl (cy.1, 640, .inl (fun z => vl (z / 20) (z % 20))))] ⟨hx, hb, hml, hown, hts⟩ hK hP hD hS (c_X0_letMissingClimb (m0 := aM0 ab sl sv vl fl key) hn hQ (fun k hk => (hr1 k hk).2.2)) (cwV 0 hts gX0_read_X0_letMissingClimb rfl rfl rfl k_yX0_letMissingClimb ⟨Nat.le_of_ble_eq_true rfl, Nat.le_of_ble_eq_true rfl⟩) [1, 4, 5, 6, 7, 10, 0] [2, 3, 8, 9, 11] rfl rfl rfl (fun _ => rfl) 1 0 rfl rfl rfl rfl hl.1 rfl rfl dX0_read_7 ⟨Nat.le_of_ble_eq_true rfl, Nat.le_of_ble_eq_true rfl⟩ (fun uu1 H locs hp2 hP hD hS => ?_)
  obtain ⟨v4, al4⟩ := uu1
  obtain ⟨hr2, hr3⟩ := hp2
  have hP : va_P D vwCl [(e1, .inl (cy.1, 12, .inl v1)), (e2, .inl (cy.1, 12, .inl v2)), (P, .inr (2, [.ref g, .ref q, .ref p1, .ref p2, .ref p3, .ref p4, .int cnt, .int ln, .int kn, .int th])), (p4, .inl (cy.1, 12, .inl svA)), (a5, .inl (cy.1, 640, .inl (fun z => vl (z / 20) (z % 20)))), (A, .inr (0, [.ref g, .ref q, .ref P, .ref e1, .ref e2, .ref e3, .int (bI (al4))])), (e3, .inl (cy.2.1, 12, .inl v4)), (q, .inr (3, [.ref a, .ref b, .int ty, .int (nI nn)])), (a, .inl (cy.1, 12, .inl ab)), (b, .inl (cy.1, 12, .inl (fun z => nI (sl z)))), (g, .inr (1, [.ref a1, .ref a2, .ref a3, .ref a4, .ref a5, .int fa])), (a3, .inl (cy.2.1, 32, .inl (fun z => bI (rq z))))] H := hP
  have hD : va_D (zIn [(A, .inr (0, [.ref g, .ref q, .ref P, .ref e1, .ref e2, .ref e3, .int (bI (am))])), (e1, .inl (cy.1, 12, .inl enA)), (e2, .inl (cy.1, 12, .inl vaA)), (e3, .inl (cy.2.1, 12, .inl miA)), (q, .inr (3, [.ref a, .ref b, .int ty, .int (nI nn)])), (a, .inl (cy.1, 12, .inl ab)), (b, .inl (cy.1, 12, .inl (fun z => nI (sl z)))), (P, .inr (2, [.ref g, .ref q, .ref p1, .ref p2, .ref p3, .ref p4, .int cnt, .int ln, .int kn, .int th])), (p4, .inl (cy.1, 12, .inl svA)), (g, .inr (1, [.ref a1, .ref a2, .ref a3, .ref a4, .ref a5, .int fa])), (a3, .inl (cy.2.1, 32, .inl (fun z => bI (rq z)))), (a5, .inl (cy.1, 640, .inl (fun z => vl (z / 20) (z % 20))))]) [(e1, .inl (cy.1, 12, .inl v1)), (e2, .inl (cy.1, 12, .inl v2)), (P, .inr (2, [.ref g, .ref q, .ref p1, .ref p2, .ref p3, .ref p4, .int cnt, .int ln, .int kn, .int th])), (p4, .inl (cy.1, 12, .inl svA)), (a5, .inl (cy.1, 640, .inl (fun z => vl (z / 20) (z % 20)))), (A, .inr (0, [.ref g, .ref q, .ref P, .ref e1, .ref e2, .ref e3, .int (bI (al4))])), (e3, .inl (cy.2.1, 12, .inl v4)), (q, .inr (3, [.ref a, .ref b, .int ty, .int (nI nn)])), (a, .inl (cy.1, 12, .inl ab)), (b, .inl (cy.1, 12, .inl (fun z => nI (sl z)))), (g, .inr (1, [.ref a1, .ref a2, .ref a3, .ref a4, .ref a5, .int fa])), (a3, .inl (cy.2.1, 32, .inl (fun z => bI (rq z))))] := hD
  refine lv_aload_n hx hb dX0_read_10 rfl (lv_at hl 0 rfl) ?_
  refine z_callVV (b := A) (As := []) (rest := []) [(e1, .inl (cy.1, 12, .inl v1)), (e2, .inl (cy.1, 12, .inl v2)), (P, .inr (2, [.ref g, .ref q, .ref p1, .ref p2, .ref p3, .ref p4, .int cnt, .int ln, .int kn, .int th])), (p4, .inl (cy.1, 12, .inl svA)), (a5, .inl (cy.1, 640, .inl (fun z => vl (z / 20) (z % 20)))), (g, .inr (1, [.ref a1, .ref a2, .ref a3, .ref a4, .ref a5, .int fa])), (a3, .inl (cy.2.1, 32, .inl (fun z => bI (rq z))))] ⟨hx, hb, hml, hown, hts⟩ hK hP hD hS (c_X0_letMissingFall (m1 := (aCl nn ab sl rq (aM0 ab sl sv vl fl key) nn).1) hn hQ hr2) (cwV 0 hts gX0_read_X0_letMissingFall rfl rfl rfl k_yX0_letMissingFall ⟨Nat.le_of_ble_eq_true rfl, Nat.le_of_ble_eq_true rfl⟩) [5, 6, 7, 8, 9] [0, 1, 2, 3, 4, 10, 11] rfl rfl rfl (fun _ => rfl) 5 0 rfl rfl rfl rfl hl.1 rfl rfl dX0_read_11 ⟨Nat.le_of_ble_eq_true rfl, Nat.le_of_ble_eq_true rfl⟩ (fun v5 H locs hp3 hP hD hS => ?_)
  have hr4 := hp3
  have hP : va_P D vwCl [(e1, .inl (cy.1, 12, .inl v1)), (e2, .inl (cy.1, 12, .inl v2)), (P, .inr (2, [.ref g, .ref q, .ref p1, .ref p2, .ref p3, .ref p4, .int cnt, .int ln, .int kn, .int th])), (p4, .inl (cy.1, 12, .inl svA)), (a5, .inl (cy.1, 640, .inl (fun z => vl (z / 20) (z % 20)))), (g, .inr (1, [.ref a1, .ref a2, .ref a3, .ref a4, .ref a5, .int fa])), (a3, .inl (cy.2.1, 32, .inl (fun z => bI (rq z)))), (A, .inr (0, [.ref g, .ref q, .ref P, .ref e1, .ref e2, .ref e3, .int (bI (al4))])), (e3, .inl (cy.2.1, 12, .inl v5)), (q, .inr (3, [.ref a, .ref b, .int ty, .int (nI nn)])), (a, .inl (cy.1, 12, .inl ab)), (b, .inl (cy.1, 12, .inl (fun z => nI (sl z))))] H := hP
  have hD : va_D (zIn [(A, .inr (0, [.ref g, .ref q, .ref P, .ref e1, .ref e2, .ref e3, .int (bI (am))])), (e1, .inl (cy.1, 12, .inl enA)), (e2, .inl (cy.1, 12, .inl vaA)), (e3, .inl (cy.2.1, 12, .inl miA)), (q, .inr (3, [.ref a, .ref b, .int ty, .int (nI nn)])), (a, .inl (cy.1, 12, .inl ab)), (b, .inl (cy.1, 12, .inl (fun z => nI (sl z)))), (P, .inr (2, [.ref g, .ref q, .ref p1, .ref p2, .ref p3, .ref p4, .int cnt, .int ln, .int kn, .int th])), (p4, .inl (cy.1, 12, .inl svA)), (g, .inr (1, [.ref a1, .ref a2, .ref a3, .ref a4, .ref a5, .int fa])), (a3, .inl (cy.2.1, 32, .inl (fun z => bI (rq z)))), (a5, .inl (cy.1, 640, .inl (fun z => vl (z / 20) (z % 20))))]) [(e1, .inl (cy.1, 12, .inl v1)), (e2, .inl (cy.1, 12, .inl v2)), (P, .inr (2, [.ref g, .ref q, .ref p1, .ref p2, .ref p3, .ref p4, .int cnt, .int ln, .int kn, .int th])), (p4, .inl (cy.1, 12, .inl svA)), (a5, .inl (cy.1, 640, .inl (fun z => vl (z / 20) (z % 20)))), (g, .inr (1, [.ref a1, .ref a2, .ref a3, .ref a4, .ref a5, .int fa])), (a3, .inl (cy.2.1, 32, .inl (fun z => bI (rq z)))), (A, .inr (0, [.ref g, .ref q, .ref P, .ref e1, .ref e2, .ref e3, .int (bI (al4))])), (e3, .inl (cy.2.1, 12, .inl v5)), (q, .inr (3, [.ref a, .ref b, .int ty, .int (nI nn)])), (a, .inl (cy.1, 12, .inl ab)), (b, .inl (cy.1, 12, .inl (fun z => nI (sl z))))] := hD
  have hP := hP.sub (ws' := [(A, .inr (0, [.ref g, .ref q, .ref P, .ref e1, .ref e2, .ref e3, .int (bI (al4))])), (e1, .inl (cy.1, 12, .inl v1)), (e2, .inl (cy.1, 12, .inl v2)), (e3, .inl (cy.2.1, 12, .inl v5)), (q, .inr (3, [.ref a, .ref b, .int ty, .int (nI nn)])), (a, .inl (cy.1, 12, .inl ab)), (b, .inl (cy.1, 12, .inl (fun z => nI (sl z)))), (P, .inr (2, [.ref g, .ref q, .ref p1, .ref p2, .ref p3, .ref p4, .int cnt, .int ln, .int kn, .int th])), (p4, .inl (cy.1, 12, .inl svA)), (g, .inr (1, [.ref a1, .ref a2, .ref a3, .ref a4, .ref a5, .int fa])), (a3, .inl (cy.2.1, 32, .inl (fun z => bI (rq z)))), (a5, .inl (cy.1, 640, .inl (fun z => vl (z / 20) (z % 20))))]) [7, 0, 1, 8, 9, 10, 11, 2, 3, 5, 6, 4] rfl
  have hD := hD.sub (ws' := [(A, .inr (0, [.ref g, .ref q, .ref P, .ref e1, .ref e2, .ref e3, .int (bI (al4))])), (e1, .inl (cy.1, 12, .inl v1)), (e2, .inl (cy.1, 12, .inl v2)), (e3, .inl (cy.2.1, 12, .inl v5)), (q, .inr (3, [.ref a, .ref b, .int ty, .int (nI nn)])), (a, .inl (cy.1, 12, .inl ab)), (b, .inl (cy.1, 12, .inl (fun z => nI (sl z)))), (P, .inr (2, [.ref g, .ref q, .ref p1, .ref p2, .ref p3, .ref p4, .int cnt, .int ln, .int kn, .int th])), (p4, .inl (cy.1, 12, .inl svA)), (g, .inr (1, [.ref a1, .ref a2, .ref a3, .ref a4, .ref a5, .int fa])), (a3, .inl (cy.2.1, 32, .inl (fun z => bI (rq z)))), (a5, .inl (cy.1, 640, .inl (fun z => vl (z / 20) (z % 20))))]) [7, 0, 1, 8, 9, 10, 11, 2, 3, 5, 6, 4] (by decide) rfl
  exact z_vret (v1, v2, v5, al4) hx hb hr hlocks hS dX0_read_14 hP ⟨fun k hk => ⟨(hr1 k hk).1, (hr1 k hk).2.1, by show v5 k = _; rw [hr4 k hk, show al4 = _ from hr3]; rfl⟩, hr3⟩
set_option maxRecDepth 20000 in
theorem lk161_wsX0_isAllMissing : Cond.fieldLink RX0 44 "QueryGateway$Answer" "allMissing" "Z" ∈ wsX0_isAllMissing := by decide +kernel
set_option maxRecDepth 20000 in
theorem in_wsX0_isAllMissing_X0 : ∀ w ∈ wsX00, w ∈ wsX0_isAllMissing := by decide +kernel
abbrev rmX0_isAllMissing : Room := { frames := 0, cells := 0, slots := 0, locals := 0 }
set_option maxHeartbeats 4000000 in
set_option maxRecDepth 100000 in
theorem c_X0_isAllMissing {l : Launch} {D : va_G} {cy : zCy} {w : va_W} {i A g q P e1 e2 e3 : Nat} {am : Bool} (h : w[i]? = some (A, .inr (0, [.ref g, .ref q, .ref P, .ref e1, .ref e2, .ref e3, .int (bI (am))]))) : zR l yX0_isAllMissing wsX0_isAllMissing rmX0_isAllMissing D cy w [.ref A] (bI am) := by
  refine zR.of (cc := cX0_isAllMissing) (maxL := 1) (ret := (some .boolean)) (by decide) rfl rfl ?_
  intro p e s m below meth c ls C hP hK hl
  obtain ⟨hx, hb, hr, hml, hts, hown, hlocks⟩ := C
  have hS : va_S zF s.heap s.heap [] := va_S.rf
  have hl : lv_has ls 1 [(0, .ref A)] := hl
  refine lv_aload_n hx hb dX0_isAllMissing_0 rfl (lv_at hl 0 rfl) ?_
  refine va_get (D := D) (ci := 0) (v := .int (bI (am))) (C := RX0) (T := TX0) (N := 7) hx hb hts in_wsX0_isAllMissing_X0 hown hK.1 hP i h rfl 6 (by decide) (hts _ lk161_wsX0_isAllMissing) (fun _ h9 => h9) rfl dX0_isAllMissing_1 ?_
  exact z_zret hx hb hr hlocks hS dX0_isAllMissing_4 rfl (bI01 _)
set_option maxRecDepth 20000 in
theorem lk163_wsX0_told : Cond.fieldLink RX0 15 "QueryGateway$Answer" "query" "LQueryGateway$Query;" ∈ wsX0_told := by decide +kernel
set_option maxRecDepth 20000 in
theorem in_wsX0_told_X0 : ∀ w ∈ wsX00, w ∈ wsX0_told := by decide +kernel
set_option maxRecDepth 20000 in
theorem lk165_wsX0_told : Cond.fieldLink RX0 30 "QueryGateway$Answer" "missing" "[Z" ∈ wsX0_told := by decide +kernel
set_option maxRecDepth 20000 in
theorem lk166_wsX0_told : Cond.fieldLink RX0 27 "QueryGateway$Answer" "values" "[I" ∈ wsX0_told := by decide +kernel
abbrev rmX0_told : Room := { frames := 1, cells := 0, slots := 0, locals := 21 }
set_option maxHeartbeats 4000000 in
set_option maxRecDepth 100000 in
theorem c_X0_told {l : Launch} {D : va_G} {cy : zCy} {w : va_W} {i A g q P e1 e2 e3 : Nat} {am : Bool} (h : w[i]? = some (A, .inr (0, [.ref g, .ref q, .ref P, .ref e1, .ref e2, .ref e3, .int (bI (am))]))) {i2 : Nat} {vaA : Nat → Int32} (h2 : w[i2]? = some (e2, .inl (cy.1, 12, .inl vaA))) {i3 : Nat} {miA : Nat → Int32} (h3 : w[i3]? = some (e3, .inl (cy.2.1, 12, .inl miA))) {iq a b nn : Nat} {ty : Int32} (hq : w[iq]? = some (q, .inr (3, [.ref a, .ref b, .int ty, .int (nI nn)]))) (hn : nn ≤ 12) {k : Nat} (hk : k < nn) {mb : Bool} (hmi : miA k = bI mb) : zR l yX0_told wsX0_told rmX0_told D cy w [.ref A, .int (nI k)] (if mb then -1 else vaA k) := by
  refine zR.of (cc := cX0_told) (maxL := 2) (ret := (some .int)) (by decide) rfl rfl ?_
  intro p e s m below meth c ls C hP hK hl
  obtain ⟨hx, hb, hr, hml, hts, hown, hlocks⟩ := C
  have hS : va_S zF s.heap s.heap [] := va_S.rf
  have hl : lv_has ls 2 [(0, .ref A), (1, .int (nI k))] := hl
  refine lv_aload_n hx hb dX0_told_0 rfl (lv_at hl 0 rfl) ?_
  refine va_get (D := D) (ci := 0) (v := .ref q) (C := RX0) (T := TX0) (N := 7) hx hb hts in_wsX0_told_X0 hown hK.1 hP i h rfl 1 (by decide) (hts _ lk163_wsX0_told) (fun _ h9 => h9) rfl dX0_told_1 ?_
  refine lv_iload_n hx hb dX0_told_4 rfl (lv_at hl 1 rfl) ?_
  refine z_callV (b := q) (As := [.int (nI k)]) (rest := []) ⟨hx, hb, hml, hown, hts⟩ hK hP hS (c_X3_has_in hq hn hk) (cwV 1 hts gX0_told_X3_has rfl rfl rfl k_yX3_has ⟨Nat.le_of_ble_eq_true rfl, Nat.le_of_ble_eq_true rfl⟩) iq 3 hq rfl rfl rfl hl.1 rfl rfl dX0_told_5 ⟨Nat.le_of_ble_eq_true rfl, Nat.le_of_ble_eq_true rfl⟩ (fun H locs hP hS => ?_)
  refine lv_if_eq (tgt := 29) hx hb dX0_told_8 (by decide) (fun cb1 => ?_) (fun cb1 => ?_)
  · have cb1 : 1 = 0 := zn_eq_t (a := 1) (b := 0) (by omega) (by omega) cb1
    exact absurd cb1 (by decide)
  · have cb1 : ¬ (1 = 0) := zn_eq_f (a := 1) (b := 0) (by omega) (by omega) cb1
    refine lv_aload_n hx hb dX0_told_11 rfl (lv_at hl 0 rfl) ?_
    refine va_get (D := D) (ci := 0) (v := .ref e3) (C := RX0) (T := TX0) (N := 7) hx hb hts in_wsX0_told_X0 hown hK.1 hP i h rfl 5 (by decide) (hts _ lk165_wsX0_told) (fun _ h9 => h9) rfl dX0_told_12 ?_
    refine lv_iload_n hx hb dX0_told_15 rfl (lv_at hl 1 rfl) ?_
    refine z_zald (v := bI (mb)) hx hb hK.1 hP i3 1 h3 rfl (k := k) (by omega) (by decide) hmi dX0_told_16 ?_
    refine lv_if_ne (tgt := 29) hx hb dX0_told_17 (by decide) (fun cb2 => ?_) (fun cb2 => ?_)
    · have cb2 : (mb) = true := bI_f0 cb2
      refine lv_iconst (v := (-1 : Int32)) hx hb dX0_told_29 (by decide) ?_
      exact z_iret hx hb hr hlocks hS dX0_told_30 (by rw [cb2]; rfl)
    · have cb2 : (mb) = false := bI_t0 cb2
      refine lv_aload_n hx hb dX0_told_20 rfl (lv_at hl 0 rfl) ?_
      refine va_get (D := D) (ci := 0) (v := .ref e2) (C := RX0) (T := TX0) (N := 7) hx hb hts in_wsX0_told_X0 hown hK.1 hP i h rfl 4 (by decide) (hts _ lk166_wsX0_told) (fun _ h9 => h9) rfl dX0_told_21 ?_
      refine lv_iload_n hx hb dX0_told_24 rfl (lv_at hl 1 rfl) ?_
      refine z_iald (v := vaA k) hx hb hK.1 hP i2 0 h2 rfl (k := k) (by omega) (by decide) rfl dX0_told_25 ?_
      refine lv_goto (tgt := 30) hx hb dX0_told_26 (by decide) ?_
      exact z_iret hx hb hr hlocks hS dX0_told_30 (by rw [cb2]; rfl)
set_option maxRecDepth 20000 in
theorem lk167_wsX0_countFaults : Cond.fieldLink RX0 15 "QueryGateway$Answer" "query" "LQueryGateway$Query;" ∈ wsX0_countFaults := by decide +kernel
set_option maxRecDepth 20000 in
theorem in_wsX0_countFaults_X0 : ∀ w ∈ wsX00, w ∈ wsX0_countFaults := by decide +kernel
set_option maxRecDepth 20000 in
theorem lk169_wsX0_countFaults : Cond.fieldLink RX0 23 "QueryGateway$Answer" "entities" "[I" ∈ wsX0_countFaults := by decide +kernel
set_option maxRecDepth 20000 in
theorem lk170_wsX0_countFaults : Cond.fieldLink RX0 27 "QueryGateway$Answer" "values" "[I" ∈ wsX0_countFaults := by decide +kernel
abbrev rmX0_countFaults : Room := { frames := 1, cells := 0, slots := 0, locals := 20 }
set_option maxHeartbeats 4000000 in
set_option maxRecDepth 100000 in
theorem c_X0_countFaults {l : Launch} {D : va_G} {cy : zCy} {w : va_W} {i A g q P e1 e2 e3 : Nat} {am : Bool} (h : w[i]? = some (A, .inr (0, [.ref g, .ref q, .ref P, .ref e1, .ref e2, .ref e3, .int (bI (am))]))) {i1 : Nat} {enA : Nat → Int32} (h1 : w[i1]? = some (e1, .inl (cy.1, 12, .inl enA))) {i2 : Nat} {vaA : Nat → Int32} (h2 : w[i2]? = some (e2, .inl (cy.1, 12, .inl vaA))) {iq a b nn : Nat} {ty : Int32} (hq : w[iq]? = some (q, .inr (3, [.ref a, .ref b, .int ty, .int (nI nn)]))) (hn : nn ≤ 12) : zR l yX0_countFaults wsX0_countFaults rmX0_countFaults D cy w [.ref A] (nI (zcnt (fun k => decide (¬ enA k = -1 ∧ vaA k = -1)) nn)) := by
  refine zR.of (cc := cX0_countFaults) (maxL := 3) (ret := (some .int)) (by decide) rfl rfl ?_
  intro p e s m below meth c ls C hP hK hl
  obtain ⟨hx, hb, hr, hml, hts, hown, hlocks⟩ := C
  have hS : va_S zF s.heap s.heap [] := va_S.rf
  have hl : lv_has ls 3 [(0, .ref A)] := hl
  refine lv_iconst (v := nI 0) hx hb dX0_countFaults_0 (by decide) ?_
  refine lv_istore_n (lv' := [(1, .int (nI 0)), (0, .ref A)]) hx hb dX0_countFaults_1 rfl hl (by decide) rfl (fun ls hl => ?_)
  refine lv_iconst (v := nI 0) hx hb dX0_countFaults_2 (by decide) ?_
  refine lv_istore_n (lv' := [(2, .int (nI 0)), (1, .int (nI 0)), (0, .ref A)]) hx hb dX0_countFaults_3 rfl hl (by decide) rfl (fun ls hl => ?_)
  have lo : ∀ (fuel : Nat) (n t : Nat), nn + 1 ≤ n + fuel → n ≤ nn → (t = zcnt (fun k => decide (¬ enA k = -1 ∧ vaA k = -1)) n) → ∀ (H : Heap) (locs : List Loc) (ls : Array Slot), va_P D vwCl w H → va_S zF s.heap H locs → lv_has ls 3 [(0, .ref A), (1, .int (nI t)), (2, .int (nI n))] → W p l e rmX0_countFaults s m [.ref A].toArray below meth c H locs 0 0 (zRQ below [.ref A].toArray s (nI (zcnt (fun k => decide (¬ enA k = -1 ∧ vaA k = -1)) nn))) (F0 m 4 ls []) := by
    intro fuel
    induction fuel with
    | zero => intro n t hfu hi ht; exact absurd hfu (by omega)
    | succ fuel ih_lo =>
      intro n t hfu hi ht H locs ls hP hS hl
      refine lv_iload_n hx hb dX0_countFaults_4 rfl (lv_at hl 2 rfl) ?_
      refine lv_aload_n hx hb dX0_countFaults_5 rfl (lv_at hl 0 rfl) ?_
      refine va_get (D := D) (ci := 0) (v := .ref q) (C := RX0) (T := TX0) (N := 7) hx hb hts in_wsX0_countFaults_X0 hown hK.1 hP i h rfl 1 (by decide) (hts _ lk167_wsX0_countFaults) (fun _ h9 => h9) rfl dX0_countFaults_6 ?_
      refine z_callV (b := q) (As := []) (rest := [.int (nI n)]) ⟨hx, hb, hml, hown, hts⟩ hK hP hS (c_X3_size hq) (cwV 0 hts gX0_countFaults_X3_size rfl rfl rfl k_yX3_size ⟨Nat.le_of_ble_eq_true rfl, Nat.le_of_ble_eq_true rfl⟩) iq 3 hq rfl rfl rfl hl.1 rfl rfl dX0_countFaults_9 ⟨Nat.le_of_ble_eq_true rfl, Nat.le_of_ble_eq_true rfl⟩ (fun H locs hP hS => ?_)
      refine lv_icmp_ge (tgt := 50) hx hb dX0_countFaults_12 (by decide) (fun cb1 => ?_) (fun cb1 => ?_)
      · have cb1 : nn ≤ n := zn_ge_t (a := n) (b := nn) (by omega) (by omega) cb1
        refine lv_iload_n hx hb dX0_countFaults_50 rfl (lv_at hl 1 rfl) ?_
        exact z_iret hx hb hr hlocks hS dX0_countFaults_51 (by obtain rfl : n = nn := (by omega); rw [ht])
      · have cb1 : ¬ (nn ≤ n) := zn_ge_f (a := n) (b := nn) (by omega) (by omega) cb1
        refine lv_iload_n hx hb dX0_countFaults_15 rfl (lv_at hl 2 rfl) ?_
        refine lv_bipush (v := nI 12) hx hb dX0_countFaults_16 (by decide) ?_
        refine lv_icmp_ge (tgt := 50) hx hb dX0_countFaults_18 (by decide) (fun cb2 => ?_) (fun cb2 => ?_)
        · have cb2 : 12 ≤ n := zn_ge_t (a := n) (b := 12) (by omega) (by omega) cb2
          exact absurd cb2 (by omega)
        · have cb2 : ¬ (12 ≤ n) := zn_ge_f (a := n) (b := 12) (by omega) (by omega) cb2
          refine lv_aload_n hx hb dX0_countFaults_21 rfl (lv_at hl 0 rfl) ?_
          refine va_get (D := D) (ci := 0) (v := .ref e1) (C := RX0) (T := TX0) (N := 7) hx hb hts in_wsX0_countFaults_X0 hown hK.1 hP i h rfl 3 (by decide) (hts _ lk169_wsX0_countFaults) (fun _ h9 => h9) rfl dX0_countFaults_22 ?_
          refine lv_iload_n hx hb dX0_countFaults_25 rfl (lv_at hl 2 rfl) ?_
          refine z_iald (v := enA n) hx hb hK.1 hP i1 0 h1 rfl (k := n) (by omega) (by decide) rfl dX0_countFaults_26 ?_
          refine lv_iconst (v := (-1 : Int32)) hx hb dX0_countFaults_27 (by decide) ?_
          refine lv_icmp_eq (tgt := 44) hx hb dX0_countFaults_28 (by decide) (fun cb3 => ?_) (fun cb3 => ?_)
          · skip
            refine lv_iinc (v := nI (n + 1)) (lv' := [(2, .int (nI (n + 1))), (0, .ref A), (1, .int (nI t))]) hx hb dX0_countFaults_44 hl (k := 2) rfl (z_inc _) (by decide) rfl (fun ls hl => ?_)
            refine lv_goto (tgt := 4) hx hb dX0_countFaults_47 (by decide) ?_
            exact ih_lo (n + 1) (t) (by omega) (by omega) (by unfold zcnt; rw [if_neg (fun z => (of_decide_eq_true z).1 cb3), ← ht]; rfl) _ _ _ hP hS (lv_sub hl [1, 2, 0] rfl)
          · skip
            refine lv_aload_n hx hb dX0_countFaults_31 rfl (lv_at hl 0 rfl) ?_
            refine va_get (D := D) (ci := 0) (v := .ref e2) (C := RX0) (T := TX0) (N := 7) hx hb hts in_wsX0_countFaults_X0 hown hK.1 hP i h rfl 4 (by decide) (hts _ lk170_wsX0_countFaults) (fun _ h9 => h9) rfl dX0_countFaults_32 ?_
            refine lv_iload_n hx hb dX0_countFaults_35 rfl (lv_at hl 2 rfl) ?_
            refine z_iald (v := vaA n) hx hb hK.1 hP i2 0 h2 rfl (k := n) (by omega) (by decide) rfl dX0_countFaults_36 ?_
            refine lv_iconst (v := (-1 : Int32)) hx hb dX0_countFaults_37 (by decide) ?_
            refine lv_icmp_ne (tgt := 44) hx hb dX0_countFaults_38 (by decide) (fun cb4 => ?_) (fun cb4 => ?_)
            · skip
              refine lv_iinc (v := nI (n + 1)) (lv' := [(2, .int (nI (n + 1))), (0, .ref A), (1, .int (nI t))]) hx hb dX0_countFaults_44 hl (k := 2) rfl (z_inc _) (by decide) rfl (fun ls hl => ?_)
              refine lv_goto (tgt := 4) hx hb dX0_countFaults_47 (by decide) ?_
              exact ih_lo (n + 1) (t) (by omega) (by omega) (by unfold zcnt; rw [if_neg (fun z => cb4 (of_decide_eq_true z).2), ← ht]; rfl) _ _ _ hP hS (lv_sub hl [1, 2, 0] rfl)
            · skip
              refine lv_iinc (v := nI (t + 1)) (lv' := [(1, .int (nI (t + 1))), (0, .ref A), (2, .int (nI n))]) hx hb dX0_countFaults_41 hl (k := 1) rfl (z_inc _) (by decide) rfl (fun ls hl => ?_)
              refine lv_iinc (v := nI (n + 1)) (lv' := [(2, .int (nI (n + 1))), (1, .int (nI (t + 1))), (0, .ref A)]) hx hb dX0_countFaults_44 hl (k := 2) rfl (z_inc _) (by decide) rfl (fun ls hl => ?_)
              refine lv_goto (tgt := 4) hx hb dX0_countFaults_47 (by decide) ?_
              exact ih_lo (n + 1) (t + 1) (by omega) (by omega) (by unfold zcnt; rw [if_pos (decide_eq_true ⟨cb3, cb4⟩), ← ht]) _ _ _ hP hS (lv_sub hl [2, 1, 0] rfl)
  exact lo (nn + 1) 0 0 (by omega) (by omega) rfl _ _ _ hP hS (lv_sub hl [2, 1, 0] rfl)
set_option maxRecDepth 20000 in
theorem lk171_wsX0_differsFrom : Cond.fieldLink RX0 44 "QueryGateway$Answer" "allMissing" "Z" ∈ wsX0_differsFrom := by decide +kernel
set_option maxRecDepth 20000 in
theorem in_wsX0_differsFrom_X0 : ∀ w ∈ wsX00, w ∈ wsX0_differsFrom := by decide +kernel
theorem k_yX0_isAllMissing : yX0_isAllMissing.cls = RX0 ∧ yX0_isAllMissing.cls ≠ "java/lang/invoke/MethodHandle" ∧ yX0_isAllMissing.cls ≠ "java/lang/invoke/VarHandle" ∧ (parseMethodDescriptor yX0_isAllMissing.desc).map (fun d => d.parameters.length) = some 0 := by decide +kernel
set_option maxRecDepth 20000 in
theorem lk174_wsX0_differsFrom : Cond.fieldLink RX0 15 "QueryGateway$Answer" "query" "LQueryGateway$Query;" ∈ wsX0_differsFrom := by decide +kernel
theorem k_yX0_told : yX0_told.cls = RX0 ∧ yX0_told.cls ≠ "java/lang/invoke/MethodHandle" ∧ yX0_told.cls ≠ "java/lang/invoke/VarHandle" ∧ (parseMethodDescriptor yX0_told.desc).map (fun d => d.parameters.length) = some 1 := by decide +kernel
abbrev rmX0_differsFrom : Room := { frames := 2, cells := 0, slots := 0, locals := 42 }
set_option maxHeartbeats 4000000 in
set_option maxRecDepth 100000 in
theorem c_X0_differsFrom {l : Launch} {D : va_G} {cy : zCy} {w : va_W} {i A g q P e1 e2 e3 : Nat} {am : Bool} (h : w[i]? = some (A, .inr (0, [.ref g, .ref q, .ref P, .ref e1, .ref e2, .ref e3, .int (bI (am))]))) {i2 : Nat} {vaA : Nat → Int32} (h2 : w[i2]? = some (e2, .inl (cy.1, 12, .inl vaA))) {i3 : Nat} {miA : Nat → Int32} (h3 : w[i3]? = some (e3, .inl (cy.2.1, 12, .inl miA))) {j A2 f1 f2 f3 : Nat} {am2 : Bool} (k0 : w[j]? = some (A2, .inr (0, [.ref g, .ref q, .ref P, .ref f1, .ref f2, .ref f3, .int (bI (am2))]))) {j2 : Nat} {vaB : Nat → Int32} (k2 : w[j2]? = some (f2, .inl (cy.1, 12, .inl vaB))) {j3 : Nat} {miB : Nat → Int32} (k3 : w[j3]? = some (f3, .inl (cy.2.1, 12, .inl miB))) {iq a b nn : Nat} {ty : Int32} (hq : w[iq]? = some (q, .inr (3, [.ref a, .ref b, .int ty, .int (nI nn)]))) (hn : nn ≤ 12) {mi mj : Nat → Bool} (hmi : ∀ k, k < nn → miA k = bI (mi k)) (hmj : ∀ k, k < nn → miB k = bI (mj k)) : zR l yX0_differsFrom wsX0_differsFrom rmX0_differsFrom D cy w [.ref A, .ref A2] (bI (decide (am ≠ am2 ∨ ∃ k, k < nn ∧ (if mi k then (-1 : Int32) else vaA k) ≠ (if mj k then (-1 : Int32) else vaB k)))) := by
  refine zR.of (cc := cX0_differsFrom) (maxL := 4) (ret := (some .boolean)) (by decide) rfl rfl ?_
  intro p e s m below meth c ls C hP hK hl
  obtain ⟨hx, hb, hr, hml, hts, hown, hlocks⟩ := C
  have hS : va_S zF s.heap s.heap [] := va_S.rf
  have hl : lv_has ls 4 [(0, .ref A), (1, .ref A2)] := hl
  refine lv_aload_n hx hb dX0_differsFrom_0 rfl (lv_at hl 0 rfl) ?_
  refine va_get (D := D) (ci := 0) (v := .int (bI (am))) (C := RX0) (T := TX0) (N := 7) hx hb hts in_wsX0_differsFrom_X0 hown hK.1 hP i h rfl 6 (by decide) (hts _ lk171_wsX0_differsFrom) (fun _ h9 => h9) rfl dX0_differsFrom_1 ?_
  refine lv_aload_n hx hb dX0_differsFrom_4 rfl (lv_at hl 1 rfl) ?_
  refine z_callV (b := A2) (As := []) (rest := [.int (bI (am))]) ⟨hx, hb, hml, hown, hts⟩ hK hP hS (c_X0_isAllMissing k0) (cwV 0 hts gX0_differsFrom_X0_isAllMissing rfl rfl rfl k_yX0_isAllMissing ⟨Nat.le_of_ble_eq_true rfl, Nat.le_of_ble_eq_true rfl⟩) j 0 k0 rfl rfl rfl hl.1 rfl rfl dX0_differsFrom_5 ⟨Nat.le_of_ble_eq_true rfl, Nat.le_of_ble_eq_true rfl⟩ (fun H locs hP hS => ?_)
  refine lv_icmp_eq (tgt := 15) hx hb dX0_differsFrom_8 (by decide) (fun cb1 => ?_) (fun cb1 => ?_)
  · skip
    have hal := bI_eq cb1
    refine lv_iconst (v := nI 0) hx hb dX0_differsFrom_15 (by decide) ?_
    refine lv_istore_n (lv' := [(2, .int (nI 0)), (0, .ref A), (1, .ref A2)]) hx hb dX0_differsFrom_16 rfl hl (by decide) rfl (fun ls hl => ?_)
    refine lv_iconst (v := nI 0) hx hb dX0_differsFrom_17 (by decide) ?_
    refine lv_istore_n (lv' := [(3, .int (nI 0)), (2, .int (nI 0)), (0, .ref A), (1, .ref A2)]) hx hb dX0_differsFrom_18 rfl hl (by decide) rfl (fun ls hl => ?_)
    have lo : ∀ (fuel : Nat) (n : Nat) (T : Bool), nn + 1 ≤ n + fuel → n ≤ nn → (T = decide (am ≠ am2 ∨ ∃ k, k < n ∧ (if mi k then (-1 : Int32) else vaA k) ≠ (if mj k then (-1 : Int32) else vaB k))) → ∀ (H : Heap) (locs : List Loc) (ls : Array Slot), va_P D vwCl w H → va_S zF s.heap H locs → lv_has ls 4 [(0, .ref A), (1, .ref A2), (2, .int (bI (T))), (3, .int (nI n))] → W p l e rmX0_differsFrom s m [.ref A, .ref A2].toArray below meth c H locs 0 0 (zRQ below [.ref A, .ref A2].toArray s (bI (decide (am ≠ am2 ∨ ∃ k, k < nn ∧ (if mi k then (-1 : Int32) else vaA k) ≠ (if mj k then (-1 : Int32) else vaB k))))) (F0 m 19 ls []) := by
      intro fuel
      induction fuel with
      | zero => intro n T hfu hi hA; exact absurd hfu (by omega)
      | succ fuel ih_lo =>
        intro n T hfu hi hA H locs ls hP hS hl
        refine lv_iload_n hx hb dX0_differsFrom_19 rfl (lv_at hl 3 rfl) ?_
        refine lv_aload_n hx hb dX0_differsFrom_20 rfl (lv_at hl 0 rfl) ?_
        refine va_get (D := D) (ci := 0) (v := .ref q) (C := RX0) (T := TX0) (N := 7) hx hb hts in_wsX0_differsFrom_X0 hown hK.1 hP i h rfl 1 (by decide) (hts _ lk174_wsX0_differsFrom) (fun _ h9 => h9) rfl dX0_differsFrom_21 ?_
        refine z_callV (b := q) (As := []) (rest := [.int (nI n)]) ⟨hx, hb, hml, hown, hts⟩ hK hP hS (c_X3_size hq) (cwV 0 hts gX0_differsFrom_X3_size rfl rfl rfl k_yX3_size ⟨Nat.le_of_ble_eq_true rfl, Nat.le_of_ble_eq_true rfl⟩) iq 3 hq rfl rfl rfl hl.1 rfl rfl dX0_differsFrom_24 ⟨Nat.le_of_ble_eq_true rfl, Nat.le_of_ble_eq_true rfl⟩ (fun H locs hP hS => ?_)
        refine lv_icmp_ge (tgt := 59) hx hb dX0_differsFrom_27 (by decide) (fun cb2 => ?_) (fun cb2 => ?_)
        · have cb2 : nn ≤ n := zn_ge_t (a := n) (b := nn) (by omega) (by omega) cb2
          refine lv_iload_n hx hb dX0_differsFrom_59 rfl (lv_at hl 2 rfl) ?_
          exact z_zret hx hb hr hlocks hS dX0_differsFrom_60 (by obtain rfl : n = nn := (by omega); rw [hA]) (bI01 _)
        · have cb2 : ¬ (nn ≤ n) := zn_ge_f (a := n) (b := nn) (by omega) (by omega) cb2
          refine lv_iload_n hx hb dX0_differsFrom_30 rfl (lv_at hl 2 rfl) ?_
          refine lv_if_ne (tgt := 47) hx hb dX0_differsFrom_31 (by decide) (fun cb3 => ?_) (fun cb3 => ?_)
          · have cb3 : (T) = true := bI_f0 cb3
            refine lv_iconst (v := nI 1) hx hb dX0_differsFrom_47 (by decide) ?_
            refine lv_goto (tgt := 52) hx hb dX0_differsFrom_48 (by decide) ?_
            refine lv_istore_n (lv' := [(2, .int (nI 1)), (0, .ref A), (1, .ref A2), (3, .int (nI n))]) hx hb dX0_differsFrom_52 rfl hl (by decide) rfl (fun ls hl => ?_)
            refine lv_iinc (v := nI (n + 1)) (lv' := [(3, .int (nI (n + 1))), (2, .int (nI 1)), (0, .ref A), (1, .ref A2)]) hx hb dX0_differsFrom_53 hl (k := 3) rfl (z_inc _) (by decide) rfl (fun ls hl => ?_)
            refine lv_goto (tgt := 19) hx hb dX0_differsFrom_56 (by decide) ?_
            exact ih_lo (n + 1) true (by omega) (by omega) (decide_eq_true ((of_decide_eq_true (hA.symm.trans cb3)).imp id (fun ⟨k, h1, h2⟩ => ⟨k, by omega, h2⟩))).symm _ _ _ hP hS (lv_sub hl [2, 3, 1, 0] rfl)
          · have cb3 : (T) = false := bI_t0 cb3
            refine lv_aload_n hx hb dX0_differsFrom_34 rfl (lv_at hl 0 rfl) ?_
            refine lv_iload_n hx hb dX0_differsFrom_35 rfl (lv_at hl 3 rfl) ?_
            refine z_callV (b := A) (As := [.int (nI n)]) (rest := []) ⟨hx, hb, hml, hown, hts⟩ hK hP hS (c_X0_told h h2 h3 hq hn (k := n) (by omega) (hmi n (by omega))) (cwV 1 hts gX0_differsFrom_X0_told rfl rfl rfl k_yX0_told ⟨Nat.le_of_ble_eq_true rfl, Nat.le_of_ble_eq_true rfl⟩) i 0 h rfl rfl rfl hl.1 rfl rfl dX0_differsFrom_36 ⟨Nat.le_of_ble_eq_true rfl, Nat.le_of_ble_eq_true rfl⟩ (fun H locs hP hS => ?_)
            refine lv_aload_n hx hb dX0_differsFrom_39 rfl (lv_at hl 1 rfl) ?_
            refine lv_iload_n hx hb dX0_differsFrom_40 rfl (lv_at hl 3 rfl) ?_
            refine z_callV (b := A2) (As := [.int (nI n)]) (rest := [.int ((if mi n then -1 else vaA n))]) ⟨hx, hb, hml, hown, hts⟩ hK hP hS (c_X0_told k0 k2 k3 hq hn (k := n) (by omega) (hmj n (by omega))) (cwV 1 hts gX0_differsFrom_X0_told rfl rfl rfl k_yX0_told ⟨Nat.le_of_ble_eq_true rfl, Nat.le_of_ble_eq_true rfl⟩) j 0 k0 rfl rfl rfl hl.1 rfl rfl dX0_differsFrom_41 ⟨Nat.le_of_ble_eq_true rfl, Nat.le_of_ble_eq_true rfl⟩ (fun H locs hP hS => ?_)
            refine lv_icmp_eq (tgt := 51) hx hb dX0_differsFrom_44 (by decide) (fun cb4 => ?_) (fun cb4 => ?_)
            · skip
              refine lv_iconst (v := nI 0) hx hb dX0_differsFrom_51 (by decide) ?_
              refine lv_istore_n (lv' := [(2, .int (nI 0)), (0, .ref A), (1, .ref A2), (3, .int (nI n))]) hx hb dX0_differsFrom_52 rfl hl (by decide) rfl (fun ls hl => ?_)
              refine lv_iinc (v := nI (n + 1)) (lv' := [(3, .int (nI (n + 1))), (2, .int (nI 0)), (0, .ref A), (1, .ref A2)]) hx hb dX0_differsFrom_53 hl (k := 3) rfl (z_inc _) (by decide) rfl (fun ls hl => ?_)
              refine lv_goto (tgt := 19) hx hb dX0_differsFrom_56 (by decide) ?_
              exact ih_lo (n + 1) false (by omega) (by omega) (decide_eq_false (fun z => of_decide_eq_false (hA.symm.trans cb3) (z.imp id (fun ⟨k, h1, h2⟩ => (Nat.lt_or_ge k n).elim (fun y => ⟨k, y, h2⟩) (fun y => by obtain rfl : k = n := (by omega); exact absurd cb4 h2))))).symm _ _ _ hP hS (lv_sub hl [2, 3, 1, 0] rfl)
            · skip
              refine lv_iconst (v := nI 1) hx hb dX0_differsFrom_47 (by decide) ?_
              refine lv_goto (tgt := 52) hx hb dX0_differsFrom_48 (by decide) ?_
              refine lv_istore_n (lv' := [(2, .int (nI 1)), (0, .ref A), (1, .ref A2), (3, .int (nI n))]) hx hb dX0_differsFrom_52 rfl hl (by decide) rfl (fun ls hl => ?_)
              refine lv_iinc (v := nI (n + 1)) (lv' := [(3, .int (nI (n + 1))), (2, .int (nI 1)), (0, .ref A), (1, .ref A2)]) hx hb dX0_differsFrom_53 hl (k := 3) rfl (z_inc _) (by decide) rfl (fun ls hl => ?_)
              refine lv_goto (tgt := 19) hx hb dX0_differsFrom_56 (by decide) ?_
              exact ih_lo (n + 1) true (by omega) (by omega) (decide_eq_true (Or.inr ⟨n, by omega, cb4⟩)).symm _ _ _ hP hS (lv_sub hl [2, 3, 1, 0] rfl)
    exact lo (nn + 1) 0 false (by omega) (by omega) (decide_eq_false (fun z => z.elim (fun y => y hal) (fun ⟨k, h1, _⟩ => absurd h1 (by omega)))).symm _ _ _ hP hS (lv_sub hl [2, 3, 1, 0] rfl)
  · skip
    refine lv_iconst (v := nI 1) hx hb dX0_differsFrom_11 (by decide) ?_
    refine lv_goto (tgt := 16) hx hb dX0_differsFrom_12 (by decide) ?_
    refine lv_istore_n (lv' := [(2, .int (nI 1)), (0, .ref A), (1, .ref A2)]) hx hb dX0_differsFrom_16 rfl hl (by decide) rfl (fun ls hl => ?_)
    refine lv_iconst (v := nI 0) hx hb dX0_differsFrom_17 (by decide) ?_
    refine lv_istore_n (lv' := [(3, .int (nI 0)), (2, .int (nI 1)), (0, .ref A), (1, .ref A2)]) hx hb dX0_differsFrom_18 rfl hl (by decide) rfl (fun ls hl => ?_)
    have lo : ∀ (fuel : Nat) (n : Nat) (T : Bool), nn + 1 ≤ n + fuel → n ≤ nn → (T = decide (am ≠ am2 ∨ ∃ k, k < n ∧ (if mi k then (-1 : Int32) else vaA k) ≠ (if mj k then (-1 : Int32) else vaB k))) → ∀ (H : Heap) (locs : List Loc) (ls : Array Slot), va_P D vwCl w H → va_S zF s.heap H locs → lv_has ls 4 [(0, .ref A), (1, .ref A2), (2, .int (bI (T))), (3, .int (nI n))] → W p l e rmX0_differsFrom s m [.ref A, .ref A2].toArray below meth c H locs 0 0 (zRQ below [.ref A, .ref A2].toArray s (bI (decide (am ≠ am2 ∨ ∃ k, k < nn ∧ (if mi k then (-1 : Int32) else vaA k) ≠ (if mj k then (-1 : Int32) else vaB k))))) (F0 m 19 ls []) := by
      intro fuel
      induction fuel with
      | zero => intro n T hfu hi hA; exact absurd hfu (by omega)
      | succ fuel ih_lo =>
        intro n T hfu hi hA H locs ls hP hS hl
        refine lv_iload_n hx hb dX0_differsFrom_19 rfl (lv_at hl 3 rfl) ?_
        refine lv_aload_n hx hb dX0_differsFrom_20 rfl (lv_at hl 0 rfl) ?_
        refine va_get (D := D) (ci := 0) (v := .ref q) (C := RX0) (T := TX0) (N := 7) hx hb hts in_wsX0_differsFrom_X0 hown hK.1 hP i h rfl 1 (by decide) (hts _ lk174_wsX0_differsFrom) (fun _ h9 => h9) rfl dX0_differsFrom_21 ?_
        refine z_callV (b := q) (As := []) (rest := [.int (nI n)]) ⟨hx, hb, hml, hown, hts⟩ hK hP hS (c_X3_size hq) (cwV 0 hts gX0_differsFrom_X3_size rfl rfl rfl k_yX3_size ⟨Nat.le_of_ble_eq_true rfl, Nat.le_of_ble_eq_true rfl⟩) iq 3 hq rfl rfl rfl hl.1 rfl rfl dX0_differsFrom_24 ⟨Nat.le_of_ble_eq_true rfl, Nat.le_of_ble_eq_true rfl⟩ (fun H locs hP hS => ?_)
        refine lv_icmp_ge (tgt := 59) hx hb dX0_differsFrom_27 (by decide) (fun cb5 => ?_) (fun cb5 => ?_)
        · have cb5 : nn ≤ n := zn_ge_t (a := n) (b := nn) (by omega) (by omega) cb5
          refine lv_iload_n hx hb dX0_differsFrom_59 rfl (lv_at hl 2 rfl) ?_
          exact z_zret hx hb hr hlocks hS dX0_differsFrom_60 (by obtain rfl : n = nn := (by omega); rw [hA]) (bI01 _)
        · have cb5 : ¬ (nn ≤ n) := zn_ge_f (a := n) (b := nn) (by omega) (by omega) cb5
          refine lv_iload_n hx hb dX0_differsFrom_30 rfl (lv_at hl 2 rfl) ?_
          refine lv_if_ne (tgt := 47) hx hb dX0_differsFrom_31 (by decide) (fun cb6 => ?_) (fun cb6 => ?_)
          · have cb6 : (T) = true := bI_f0 cb6
            refine lv_iconst (v := nI 1) hx hb dX0_differsFrom_47 (by decide) ?_
            refine lv_goto (tgt := 52) hx hb dX0_differsFrom_48 (by decide) ?_
            refine lv_istore_n (lv' := [(2, .int (nI 1)), (0, .ref A), (1, .ref A2), (3, .int (nI n))]) hx hb dX0_differsFrom_52 rfl hl (by decide) rfl (fun ls hl => ?_)
            refine lv_iinc (v := nI (n + 1)) (lv' := [(3, .int (nI (n + 1))), (2, .int (nI 1)), (0, .ref A), (1, .ref A2)]) hx hb dX0_differsFrom_53 hl (k := 3) rfl (z_inc _) (by decide) rfl (fun ls hl => ?_)
            refine lv_goto (tgt := 19) hx hb dX0_differsFrom_56 (by decide) ?_
            exact ih_lo (n + 1) true (by omega) (by omega) (decide_eq_true ((of_decide_eq_true (hA.symm.trans cb6)).imp id (fun ⟨k, h1, h2⟩ => ⟨k, by omega, h2⟩))).symm _ _ _ hP hS (lv_sub hl [2, 3, 1, 0] rfl)
          · have cb6 : (T) = false := bI_t0 cb6
            refine lv_aload_n hx hb dX0_differsFrom_34 rfl (lv_at hl 0 rfl) ?_
            refine lv_iload_n hx hb dX0_differsFrom_35 rfl (lv_at hl 3 rfl) ?_
            refine z_callV (b := A) (As := [.int (nI n)]) (rest := []) ⟨hx, hb, hml, hown, hts⟩ hK hP hS (c_X0_told h h2 h3 hq hn (k := n) (by omega) (hmi n (by omega))) (cwV 1 hts gX0_differsFrom_X0_told rfl rfl rfl k_yX0_told ⟨Nat.le_of_ble_eq_true rfl, Nat.le_of_ble_eq_true rfl⟩) i 0 h rfl rfl rfl hl.1 rfl rfl dX0_differsFrom_36 ⟨Nat.le_of_ble_eq_true rfl, Nat.le_of_ble_eq_true rfl⟩ (fun H locs hP hS => ?_)
            refine lv_aload_n hx hb dX0_differsFrom_39 rfl (lv_at hl 1 rfl) ?_
            refine lv_iload_n hx hb dX0_differsFrom_40 rfl (lv_at hl 3 rfl) ?_
            refine z_callV (b := A2) (As := [.int (nI n)]) (rest := [.int ((if mi n then -1 else vaA n))]) ⟨hx, hb, hml, hown, hts⟩ hK hP hS (c_X0_told k0 k2 k3 hq hn (k := n) (by omega) (hmj n (by omega))) (cwV 1 hts gX0_differsFrom_X0_told rfl rfl rfl k_yX0_told ⟨Nat.le_of_ble_eq_true rfl, Nat.le_of_ble_eq_true rfl⟩) j 0 k0 rfl rfl rfl hl.1 rfl rfl dX0_differsFrom_41 ⟨Nat.le_of_ble_eq_true rfl, Nat.le_of_ble_eq_true rfl⟩ (fun H locs hP hS => ?_)
            refine lv_icmp_eq (tgt := 51) hx hb dX0_differsFrom_44 (by decide) (fun cb7 => ?_) (fun cb7 => ?_)
            · skip
              refine lv_iconst (v := nI 0) hx hb dX0_differsFrom_51 (by decide) ?_
              refine lv_istore_n (lv' := [(2, .int (nI 0)), (0, .ref A), (1, .ref A2), (3, .int (nI n))]) hx hb dX0_differsFrom_52 rfl hl (by decide) rfl (fun ls hl => ?_)
              refine lv_iinc (v := nI (n + 1)) (lv' := [(3, .int (nI (n + 1))), (2, .int (nI 0)), (0, .ref A), (1, .ref A2)]) hx hb dX0_differsFrom_53 hl (k := 3) rfl (z_inc _) (by decide) rfl (fun ls hl => ?_)
              refine lv_goto (tgt := 19) hx hb dX0_differsFrom_56 (by decide) ?_
              exact ih_lo (n + 1) false (by omega) (by omega) (decide_eq_false (fun z => of_decide_eq_false (hA.symm.trans cb6) (z.imp id (fun ⟨k, h1, h2⟩ => (Nat.lt_or_ge k n).elim (fun y => ⟨k, y, h2⟩) (fun y => by obtain rfl : k = n := (by omega); exact absurd cb7 h2))))).symm _ _ _ hP hS (lv_sub hl [2, 3, 1, 0] rfl)
            · skip
              refine lv_iconst (v := nI 1) hx hb dX0_differsFrom_47 (by decide) ?_
              refine lv_goto (tgt := 52) hx hb dX0_differsFrom_48 (by decide) ?_
              refine lv_istore_n (lv' := [(2, .int (nI 1)), (0, .ref A), (1, .ref A2), (3, .int (nI n))]) hx hb dX0_differsFrom_52 rfl hl (by decide) rfl (fun ls hl => ?_)
              refine lv_iinc (v := nI (n + 1)) (lv' := [(3, .int (nI (n + 1))), (2, .int (nI 1)), (0, .ref A), (1, .ref A2)]) hx hb dX0_differsFrom_53 hl (k := 3) rfl (z_inc _) (by decide) rfl (fun ls hl => ?_)
              refine lv_goto (tgt := 19) hx hb dX0_differsFrom_56 (by decide) ?_
              exact ih_lo (n + 1) true (by omega) (by omega) (decide_eq_true (Or.inr ⟨n, by omega, cb7⟩)).symm _ _ _ hP hS (lv_sub hl [2, 3, 1, 0] rfl)
    exact lo (nn + 1) 0 true (by omega) (by omega) (Eq.symm (decide_eq_true (Or.inl (fun y => cb1 (by rw [y]))))) _ _ _ hP hS (lv_sub hl [2, 3, 1, 0] rfl)
