set_option maxRecDepth 20000 in
theorem lk108_wsX2_openChoices : Cond.fieldLink RX2 15 "QueryGateway$Plan" "query" "LQueryGateway$Query;" ∈ wsX2_openChoices := by decide +kernel
set_option maxRecDepth 20000 in
theorem in_wsX2_openChoices_X2 : ∀ w ∈ wsX20, w ∈ wsX2_openChoices := by decide +kernel
theorem k_yX3_size : yX3_size.cls = RX3 ∧ yX3_size.cls ≠ "java/lang/invoke/MethodHandle" ∧ yX3_size.cls ≠ "java/lang/invoke/VarHandle" ∧ (parseMethodDescriptor yX3_size.desc).map (fun d => d.parameters.length) = some 0 := by decide +kernel
set_option maxRecDepth 20000 in
theorem lk111_wsX2_openChoices : Cond.methodLink RX2 67 Lib.Math.min.name ∈ wsX2_openChoices := by decide +kernel
set_option maxRecDepth 20000 in
theorem lk112_wsX2_openChoices : Cond.static Lib.Math.min.name ∈ wsX2_openChoices := by decide +kernel
set_option maxRecDepth 20000 in
theorem lk113_wsX2_openChoices : Cond.initialized "java/lang/Math" ∈ wsX2_openChoices := by decide +kernel
set_option maxRecDepth 20000 in
theorem lk114_wsX2_openChoices : Cond.code Lib.Math.min.name Lib.Math.min.code 2 (some .int) ∈ wsX2_openChoices := by decide +kernel
set_option maxRecDepth 20000 in
theorem lk115_wsX2_openChoices : Cond.fieldLink RX2 72 "QueryGateway$Plan" "count" "I" ∈ wsX2_openChoices := by decide +kernel
set_option maxRecDepth 20000 in
theorem lk116_wsX2_openChoices : Cond.fieldLink RX2 19 "QueryGateway$Plan" "places" "[I" ∈ wsX2_openChoices := by decide +kernel
set_option maxRecDepth 20000 in
theorem lk117_wsX2_openChoices : Cond.fieldLink RX2 23 "QueryGateway$Plan" "choices" "[I" ∈ wsX2_openChoices := by decide +kernel
set_option maxRecDepth 20000 in
theorem lk118_wsX2_openChoices : Cond.fieldLink RX2 9 "QueryGateway$Plan" "graph" "LQueryGateway$Graph;" ∈ wsX2_openChoices := by decide +kernel
theorem k_yX1_ownersOf : yX1_ownersOf.cls = RX1 ∧ yX1_ownersOf.cls ≠ "java/lang/invoke/MethodHandle" ∧ yX1_ownersOf.cls ≠ "java/lang/invoke/VarHandle" ∧ (parseMethodDescriptor yX1_ownersOf.desc).map (fun d => d.parameters.length) = some 1 := by decide +kernel
abbrev rmX2_openChoices : Room := { frames := 2, cells := 0, slots := 0, locals := 42 }
set_option maxHeartbeats 4000000 in
set_option maxRecDepth 100000 in
theorem c_X2_openChoices {l : Launch} {D : va_G} {cy : zCy} {P g q p1 p2 p3 p4 a b a1 a2 a3 a4 a5 nn : Nat} {ty cnt ln kn th fa : Int32} {pl chA ab : Nat → Int32} {sl ow : Nat → Nat} (hn : nn ≤ 12) (hsl : ∀ n, n < nn → sl n < 32) (how : ∀ n, n < nn → ow (sl n) < 16) : zW ((Nat → Int32) × (Nat → Int32)) l yX2_openChoices wsX2_openChoices rmX2_openChoices D cy [(P, .inr (2, [.ref g, .ref q, .ref p1, .ref p2, .ref p3, .ref p4, .int cnt, .int ln, .int kn, .int th])), (p1, .inl (cy.1, 12, .inl pl)), (p2, .inl (cy.1, 12, .inl chA)), (q, .inr (3, [.ref a, .ref b, .int ty, .int (nI nn)])), (a, .inl (cy.1, 12, .inl ab)), (b, .inl (cy.1, 12, .inl (fun z => nI (sl z)))), (g, .inr (1, [.ref a1, .ref a2, .ref a3, .ref a4, .ref a5, .int fa])), (a4, .inl (cy.1, 32, .inl (fun z => nI (ow z))))] [.ref P] (fun r u => r = bI (decide (∀ n, n < nn → ow (sl n) ≠ 0)) ∧ ∀ n, n < nn → u.1 n = ab n ∧ u.2 n = nI (ow (sl n))) (fun u => [(P, .inr (2, [.ref g, .ref q, .ref p1, .ref p2, .ref p3, .ref p4, .int (nI nn), .int ln, .int kn, .int th])), (p1, .inl (cy.1, 12, .inl u.1)), (p2, .inl (cy.1, 12, .inl u.2)), (q, .inr (3, [.ref a, .ref b, .int ty, .int (nI nn)])), (a, .inl (cy.1, 12, .inl ab)), (b, .inl (cy.1, 12, .inl (fun z => nI (sl z)))), (g, .inr (1, [.ref a1, .ref a2, .ref a3, .ref a4, .ref a5, .int fa])), (a4, .inl (cy.1, 32, .inl (fun z => nI (ow z))))]) := by
  refine zW.of (cc := cX2_openChoices) (maxL := 3) (ret := (some .boolean)) (by decide) rfl rfl ?_
  intro p e s m below meth c ls C hP hK hD hl
  obtain ⟨hx, hb, hr, hml, hts, hown, hlocks⟩ := C
  have hS : va_S (zIn [(P, .inr (2, [.ref g, .ref q, .ref p1, .ref p2, .ref p3, .ref p4, .int cnt, .int ln, .int kn, .int th])), (p1, .inl (cy.1, 12, .inl pl)), (p2, .inl (cy.1, 12, .inl chA)), (q, .inr (3, [.ref a, .ref b, .int ty, .int (nI nn)])), (a, .inl (cy.1, 12, .inl ab)), (b, .inl (cy.1, 12, .inl (fun z => nI (sl z)))), (g, .inr (1, [.ref a1, .ref a2, .ref a3, .ref a4, .ref a5, .int fa])), (a4, .inl (cy.1, 32, .inl (fun z => nI (ow z))))]) s.heap s.heap [] := va_S.rf
  have hl : lv_has ls 3 [(0, .ref P)] := hl
  refine lv_iconst (v := nI 1) hx hb dX2_openChoices_0 (by decide) ?_
  refine lv_istore_n (lv' := [(1, .int (nI 1)), (0, .ref P)]) hx hb dX2_openChoices_1 rfl hl (by decide) rfl (fun ls hl => ?_)
  refine lv_aload_n hx hb dX2_openChoices_2 rfl (lv_at hl 1 rfl) ?_
  refine lv_aload_n hx hb dX2_openChoices_3 rfl (lv_at hl 1 rfl) ?_
  refine va_get (D := D) (ci := 2) (v := .ref q) (C := RX2) (T := TX2) (N := 10) hx hb hts in_wsX2_openChoices_X2 hown hK.1 hP 0 rfl rfl 1 (by decide) (hts _ lk108_wsX2_openChoices) (fun _ h9 => h9) rfl dX2_openChoices_4 ?_
  refine z_callV (b := q) (As := []) (rest := [.ref P]) ⟨hx, hb, hml, hown, hts⟩ hK hP hS (c_X3_size (i := 3) rfl) (cwV 0 hts gX2_openChoices_X3_size rfl rfl rfl k_yX3_size ⟨Nat.le_of_ble_eq_true rfl, Nat.le_of_ble_eq_true rfl⟩) 3 3 rfl rfl rfl rfl hl.1 rfl rfl dX2_openChoices_7 ⟨Nat.le_of_ble_eq_true rfl, Nat.le_of_ble_eq_true rfl⟩ (fun H locs hP hS => ?_)
  refine lv_bipush (v := nI 12) hx hb dX2_openChoices_10 (by decide) ?_
  refine va_mmin hx hb (hml.trans hl.1.symm) hown (hts _ lk111_wsX2_openChoices) (hts _ lk112_wsX2_openChoices) (hts _ lk113_wsX2_openChoices) (hts _ lk114_wsX2_openChoices) (by decide) (Nat.le_of_ble_eq_true rfl) (Nat.le_of_ble_eq_true rfl) (Nat.le_of_ble_eq_true rfl) dX2_openChoices_12 ?_
  refine z_top (y := nI nn) (by rw [z_min (by omega) (by omega), Nat.min_eq_left hn]) ?_
  refine va_put (D := D) (ci := 2) (v := .int (nI nn)) (ty := .int) (C := RX2) (T := TX2) (N := 10) hx hb hts in_wsX2_openChoices_X2 tyX2 tyX2_ok nmX2 hown hK.1 hP hD hS 0 rfl rfl 6 (by decide) (hts _ lk115_wsX2_openChoices) (fun _ h9 => h9) rfl (by decide +kernel) rfl rfl (Nat.le_of_ble_eq_true rfl) dX2_openChoices_15 (fun H locs hP hD hS => ?_)
  have hP : va_P D vwCl [(P, .inr (2, [.ref g, .ref q, .ref p1, .ref p2, .ref p3, .ref p4, .int (nI nn), .int ln, .int kn, .int th])), (p1, .inl (cy.1, 12, .inl pl)), (p2, .inl (cy.1, 12, .inl chA)), (q, .inr (3, [.ref a, .ref b, .int ty, .int (nI nn)])), (a, .inl (cy.1, 12, .inl ab)), (b, .inl (cy.1, 12, .inl (fun z => nI (sl z)))), (g, .inr (1, [.ref a1, .ref a2, .ref a3, .ref a4, .ref a5, .int fa])), (a4, .inl (cy.1, 32, .inl (fun z => nI (ow z))))] H := hP
  have hD : va_D (zIn [(P, .inr (2, [.ref g, .ref q, .ref p1, .ref p2, .ref p3, .ref p4, .int cnt, .int ln, .int kn, .int th])), (p1, .inl (cy.1, 12, .inl pl)), (p2, .inl (cy.1, 12, .inl chA)), (q, .inr (3, [.ref a, .ref b, .int ty, .int (nI nn)])), (a, .inl (cy.1, 12, .inl ab)), (b, .inl (cy.1, 12, .inl (fun z => nI (sl z)))), (g, .inr (1, [.ref a1, .ref a2, .ref a3, .ref a4, .ref a5, .int fa])), (a4, .inl (cy.1, 32, .inl (fun z => nI (ow z))))]) [(P, .inr (2, [.ref g, .ref q, .ref p1, .ref p2, .ref p3, .ref p4, .int (nI nn), .int ln, .int kn, .int th])), (p1, .inl (cy.1, 12, .inl pl)), (p2, .inl (cy.1, 12, .inl chA)), (q, .inr (3, [.ref a, .ref b, .int ty, .int (nI nn)])), (a, .inl (cy.1, 12, .inl ab)), (b, .inl (cy.1, 12, .inl (fun z => nI (sl z)))), (g, .inr (1, [.ref a1, .ref a2, .ref a3, .ref a4, .ref a5, .int fa])), (a4, .inl (cy.1, 32, .inl (fun z => nI (ow z))))] := hD
  refine lv_iconst (v := nI 0) hx hb dX2_openChoices_18 (by decide) ?_
  refine lv_istore_n (lv' := [(2, .int (nI 0)), (1, .int (nI 1)), (0, .ref P)]) hx hb dX2_openChoices_19 rfl hl (by decide) rfl (fun ls hl => ?_)
  have lo : ∀ (fuel : Nat) (n : Nat) (A : Bool) (u1 c1 : Nat → Int32), nn + 1 ≤ n + fuel → n ≤ nn → (A = decide (∀ k, k < n → ow (sl k) ≠ 0)) → (∀ k, k < n → u1 k = ab k ∧ c1 k = nI (ow (sl k))) → ∀ (H : Heap) (locs : List Loc) (ls : Array Slot), va_P D vwCl [(P, .inr (2, [.ref g, .ref q, .ref p1, .ref p2, .ref p3, .ref p4, .int (nI nn), .int ln, .int kn, .int th])), (p1, .inl (cy.1, 12, .inl u1)), (p2, .inl (cy.1, 12, .inl c1)), (q, .inr (3, [.ref a, .ref b, .int ty, .int (nI nn)])), (a, .inl (cy.1, 12, .inl ab)), (b, .inl (cy.1, 12, .inl (fun z => nI (sl z)))), (g, .inr (1, [.ref a1, .ref a2, .ref a3, .ref a4, .ref a5, .int fa])), (a4, .inl (cy.1, 32, .inl (fun z => nI (ow z))))] H → va_D (zIn [(P, .inr (2, [.ref g, .ref q, .ref p1, .ref p2, .ref p3, .ref p4, .int cnt, .int ln, .int kn, .int th])), (p1, .inl (cy.1, 12, .inl pl)), (p2, .inl (cy.1, 12, .inl chA)), (q, .inr (3, [.ref a, .ref b, .int ty, .int (nI nn)])), (a, .inl (cy.1, 12, .inl ab)), (b, .inl (cy.1, 12, .inl (fun z => nI (sl z)))), (g, .inr (1, [.ref a1, .ref a2, .ref a3, .ref a4, .ref a5, .int fa])), (a4, .inl (cy.1, 32, .inl (fun z => nI (ow z))))]) [(P, .inr (2, [.ref g, .ref q, .ref p1, .ref p2, .ref p3, .ref p4, .int (nI nn), .int ln, .int kn, .int th])), (p1, .inl (cy.1, 12, .inl u1)), (p2, .inl (cy.1, 12, .inl c1)), (q, .inr (3, [.ref a, .ref b, .int ty, .int (nI nn)])), (a, .inl (cy.1, 12, .inl ab)), (b, .inl (cy.1, 12, .inl (fun z => nI (sl z)))), (g, .inr (1, [.ref a1, .ref a2, .ref a3, .ref a4, .ref a5, .int fa])), (a4, .inl (cy.1, 32, .inl (fun z => nI (ow z))))] → va_S (zIn [(P, .inr (2, [.ref g, .ref q, .ref p1, .ref p2, .ref p3, .ref p4, .int cnt, .int ln, .int kn, .int th])), (p1, .inl (cy.1, 12, .inl pl)), (p2, .inl (cy.1, 12, .inl chA)), (q, .inr (3, [.ref a, .ref b, .int ty, .int (nI nn)])), (a, .inl (cy.1, 12, .inl ab)), (b, .inl (cy.1, 12, .inl (fun z => nI (sl z)))), (g, .inr (1, [.ref a1, .ref a2, .ref a3, .ref a4, .ref a5, .int fa])), (a4, .inl (cy.1, 32, .inl (fun z => nI (ow z))))]) s.heap H locs → lv_has ls 3 [(0, .ref P), (1, .int (bI (A))), (2, .int (nI n))] → W p l e rmX2_openChoices s m [.ref P].toArray below meth c H locs 0 0 (zWQ ((Nat → Int32) × (Nat → Int32)) D below [.ref P].toArray s [(P, .inr (2, [.ref g, .ref q, .ref p1, .ref p2, .ref p3, .ref p4, .int cnt, .int ln, .int kn, .int th])), (p1, .inl (cy.1, 12, .inl pl)), (p2, .inl (cy.1, 12, .inl chA)), (q, .inr (3, [.ref a, .ref b, .int ty, .int (nI nn)])), (a, .inl (cy.1, 12, .inl ab)), (b, .inl (cy.1, 12, .inl (fun z => nI (sl z)))), (g, .inr (1, [.ref a1, .ref a2, .ref a3, .ref a4, .ref a5, .int fa])), (a4, .inl (cy.1, 32, .inl (fun z => nI (ow z))))] (fun r u => r = bI (decide (∀ n, n < nn → ow (sl n) ≠ 0)) ∧ ∀ n, n < nn → u.1 n = ab n ∧ u.2 n = nI (ow (sl n))) (fun u => [(P, .inr (2, [.ref g, .ref q, .ref p1, .ref p2, .ref p3, .ref p4, .int (nI nn), .int ln, .int kn, .int th])), (p1, .inl (cy.1, 12, .inl u.1)), (p2, .inl (cy.1, 12, .inl u.2)), (q, .inr (3, [.ref a, .ref b, .int ty, .int (nI nn)])), (a, .inl (cy.1, 12, .inl ab)), (b, .inl (cy.1, 12, .inl (fun z => nI (sl z)))), (g, .inr (1, [.ref a1, .ref a2, .ref a3, .ref a4, .ref a5, .int fa])), (a4, .inl (cy.1, 32, .inl (fun z => nI (ow z))))])) (F0 m 20 ls []) := by
    intro fuel
    induction fuel with
    | zero => intro n A u1 c1 hfu hi hA hcp; exact absurd hfu (by omega)
    | succ fuel ih_lo =>
      intro n A u1 c1 hfu hi hA hcp H locs ls hP hD hS hl
      refine lv_iload_n hx hb dX2_openChoices_20 rfl (lv_at hl 2 rfl) ?_
      refine lv_aload_n hx hb dX2_openChoices_21 rfl (lv_at hl 0 rfl) ?_
      refine va_get (D := D) (ci := 2) (v := .int (nI nn)) (C := RX2) (T := TX2) (N := 10) hx hb hts in_wsX2_openChoices_X2 hown hK.1 hP 0 rfl rfl 6 (by decide) (hts _ lk115_wsX2_openChoices) (fun _ h9 => h9) rfl dX2_openChoices_22 ?_
      refine lv_icmp_ge (tgt := 88) hx hb dX2_openChoices_25 (by decide) (fun cb1 => ?_) (fun cb1 => ?_)
      · have cb1 : nn ≤ n := zn_ge_t (a := n) (b := nn) (by omega) (by omega) cb1
        refine lv_iload_n hx hb dX2_openChoices_88 rfl (lv_at hl 1 rfl) ?_
        exact z_zretW (u1, c1) hx hb hr hlocks hS dX2_openChoices_89 hP ⟨by obtain rfl : n = nn := (by omega); rw [hA], fun k hk => hcp k (by omega)⟩ (bI01 _)
      · have cb1 : ¬ (nn ≤ n) := zn_ge_f (a := n) (b := nn) (by omega) (by omega) cb1
        refine lv_aload_n hx hb dX2_openChoices_28 rfl (lv_at hl 0 rfl) ?_
        refine va_get (D := D) (ci := 2) (v := .ref p1) (C := RX2) (T := TX2) (N := 10) hx hb hts in_wsX2_openChoices_X2 hown hK.1 hP 0 rfl rfl 2 (by decide) (hts _ lk116_wsX2_openChoices) (fun _ h9 => h9) rfl dX2_openChoices_29 ?_
        refine lv_iload_n hx hb dX2_openChoices_32 rfl (lv_at hl 2 rfl) ?_
        refine lv_aload_n hx hb dX2_openChoices_33 rfl (lv_at hl 0 rfl) ?_
        refine va_get (D := D) (ci := 2) (v := .ref q) (C := RX2) (T := TX2) (N := 10) hx hb hts in_wsX2_openChoices_X2 hown hK.1 hP 0 rfl rfl 1 (by decide) (hts _ lk108_wsX2_openChoices) (fun _ h9 => h9) rfl dX2_openChoices_34 ?_
        refine lv_iload_n hx hb dX2_openChoices_37 rfl (lv_at hl 2 rfl) ?_
        refine z_callV (b := q) (As := [.int (nI n)]) (rest := [.int (nI n), .ref p1]) ⟨hx, hb, hml, hown, hts⟩ hK hP hS (c_X3_aboveOf (i := 3) (j := 4) rfl rfl hn (z := n) (by omega)) (cwV 1 hts gX2_openChoices_X3_aboveOf rfl rfl rfl k_yX3_aboveOf ⟨Nat.le_of_ble_eq_true rfl, Nat.le_of_ble_eq_true rfl⟩) 3 3 rfl rfl rfl rfl hl.1 rfl rfl dX2_openChoices_38 ⟨Nat.le_of_ble_eq_true rfl, Nat.le_of_ble_eq_true rfl⟩ (fun H locs hP hS => ?_)
        refine z_iast (g := upd u1 n ((ab n))) hx hb hK.1 hP hD hS 1 0 rfl rfl (k := n) (by omega) (by decide) (fun _ _ => rfl) dX2_openChoices_41 (fun H locs hP hD hS => ?_)
        have hP : va_P D vwCl [(P, .inr (2, [.ref g, .ref q, .ref p1, .ref p2, .ref p3, .ref p4, .int (nI nn), .int ln, .int kn, .int th])), (p1, .inl (cy.1, 12, .inl (upd u1 n ((ab n))))), (p2, .inl (cy.1, 12, .inl c1)), (q, .inr (3, [.ref a, .ref b, .int ty, .int (nI nn)])), (a, .inl (cy.1, 12, .inl ab)), (b, .inl (cy.1, 12, .inl (fun z => nI (sl z)))), (g, .inr (1, [.ref a1, .ref a2, .ref a3, .ref a4, .ref a5, .int fa])), (a4, .inl (cy.1, 32, .inl (fun z => nI (ow z))))] H := hP
        have hD : va_D (zIn [(P, .inr (2, [.ref g, .ref q, .ref p1, .ref p2, .ref p3, .ref p4, .int cnt, .int ln, .int kn, .int th])), (p1, .inl (cy.1, 12, .inl pl)), (p2, .inl (cy.1, 12, .inl chA)), (q, .inr (3, [.ref a, .ref b, .int ty, .int (nI nn)])), (a, .inl (cy.1, 12, .inl ab)), (b, .inl (cy.1, 12, .inl (fun z => nI (sl z)))), (g, .inr (1, [.ref a1, .ref a2, .ref a3, .ref a4, .ref a5, .int fa])), (a4, .inl (cy.1, 32, .inl (fun z => nI (ow z))))]) [(P, .inr (2, [.ref g, .ref q, .ref p1, .ref p2, .ref p3, .ref p4, .int (nI nn), .int ln, .int kn, .int th])), (p1, .inl (cy.1, 12, .inl (upd u1 n ((ab n))))), (p2, .inl (cy.1, 12, .inl c1)), (q, .inr (3, [.ref a, .ref b, .int ty, .int (nI nn)])), (a, .inl (cy.1, 12, .inl ab)), (b, .inl (cy.1, 12, .inl (fun z => nI (sl z)))), (g, .inr (1, [.ref a1, .ref a2, .ref a3, .ref a4, .ref a5, .int fa])), (a4, .inl (cy.1, 32, .inl (fun z => nI (ow z))))] := hD
        refine lv_aload_n hx hb dX2_openChoices_42 rfl (lv_at hl 0 rfl) ?_
        refine va_get (D := D) (ci := 2) (v := .ref p2) (C := RX2) (T := TX2) (N := 10) hx hb hts in_wsX2_openChoices_X2 hown hK.1 hP 0 rfl rfl 3 (by decide) (hts _ lk117_wsX2_openChoices) (fun _ h9 => h9) rfl dX2_openChoices_43 ?_
        refine lv_iload_n hx hb dX2_openChoices_46 rfl (lv_at hl 2 rfl) ?_
        refine lv_aload_n hx hb dX2_openChoices_47 rfl (lv_at hl 0 rfl) ?_
        refine va_get (D := D) (ci := 2) (v := .ref g) (C := RX2) (T := TX2) (N := 10) hx hb hts in_wsX2_openChoices_X2 hown hK.1 hP 0 rfl rfl 0 (by decide) (hts _ lk118_wsX2_openChoices) (fun _ h9 => h9) rfl dX2_openChoices_48 ?_
        refine lv_aload_n hx hb dX2_openChoices_51 rfl (lv_at hl 0 rfl) ?_
        refine va_get (D := D) (ci := 2) (v := .ref q) (C := RX2) (T := TX2) (N := 10) hx hb hts in_wsX2_openChoices_X2 hown hK.1 hP 0 rfl rfl 1 (by decide) (hts _ lk108_wsX2_openChoices) (fun _ h9 => h9) rfl dX2_openChoices_52 ?_
        refine lv_iload_n hx hb dX2_openChoices_55 rfl (lv_at hl 2 rfl) ?_
        refine z_callV (b := q) (As := [.int (nI n)]) (rest := [.ref g, .int (nI n), .ref p2]) ⟨hx, hb, hml, hown, hts⟩ hK hP hS (c_X3_slotAt (i := 3) (j := 5) rfl rfl hn (z := n) (by omega)) (cwV 1 hts gX2_openChoices_X3_slotAt rfl rfl rfl k_yX3_slotAt ⟨Nat.le_of_ble_eq_true rfl, Nat.le_of_ble_eq_true rfl⟩) 3 3 rfl rfl rfl rfl hl.1 rfl rfl dX2_openChoices_56 ⟨Nat.le_of_ble_eq_true rfl, Nat.le_of_ble_eq_true rfl⟩ (fun H locs hP hS => ?_)
        refine z_callV (b := g) (As := [.int (nI (sl n))]) (rest := [.int (nI n), .ref p2]) ⟨hx, hb, hml, hown, hts⟩ hK hP hS (c_X1_ownersOf (i := 6) (j := 7) rfl rfl (t := sl n) (hsl n (by omega))) (cwV 1 hts gX2_openChoices_X1_ownersOf rfl rfl rfl k_yX1_ownersOf ⟨Nat.le_of_ble_eq_true rfl, Nat.le_of_ble_eq_true rfl⟩) 6 1 rfl rfl rfl rfl hl.1 rfl rfl dX2_openChoices_59 ⟨Nat.le_of_ble_eq_true rfl, Nat.le_of_ble_eq_true rfl⟩ (fun H locs hP hS => ?_)
        refine z_iast (g := upd c1 n (nI (ow (sl n)))) hx hb hK.1 hP hD hS 2 0 rfl rfl (k := n) (by omega) (by decide) (fun _ _ => rfl) dX2_openChoices_62 (fun H locs hP hD hS => ?_)
        have hP : va_P D vwCl [(P, .inr (2, [.ref g, .ref q, .ref p1, .ref p2, .ref p3, .ref p4, .int (nI nn), .int ln, .int kn, .int th])), (p1, .inl (cy.1, 12, .inl (upd u1 n ((ab n))))), (p2, .inl (cy.1, 12, .inl (upd c1 n (nI (ow (sl n)))))), (q, .inr (3, [.ref a, .ref b, .int ty, .int (nI nn)])), (a, .inl (cy.1, 12, .inl ab)), (b, .inl (cy.1, 12, .inl (fun z => nI (sl z)))), (g, .inr (1, [.ref a1, .ref a2, .ref a3, .ref a4, .ref a5, .int fa])), (a4, .inl (cy.1, 32, .inl (fun z => nI (ow z))))] H := hP
        have hD : va_D (zIn [(P, .inr (2, [.ref g, .ref q, .ref p1, .ref p2, .ref p3, .ref p4, .int cnt, .int ln, .int kn, .int th])), (p1, .inl (cy.1, 12, .inl pl)), (p2, .inl (cy.1, 12, .inl chA)), (q, .inr (3, [.ref a, .ref b, .int ty, .int (nI nn)])), (a, .inl (cy.1, 12, .inl ab)), (b, .inl (cy.1, 12, .inl (fun z => nI (sl z)))), (g, .inr (1, [.ref a1, .ref a2, .ref a3, .ref a4, .ref a5, .int fa])), (a4, .inl (cy.1, 32, .inl (fun z => nI (ow z))))]) [(P, .inr (2, [.ref g, .ref q, .ref p1, .ref p2, .ref p3, .ref p4, .int (nI nn), .int ln, .int kn, .int th])), (p1, .inl (cy.1, 12, .inl (upd u1 n ((ab n))))), (p2, .inl (cy.1, 12, .inl (upd c1 n (nI (ow (sl n)))))), (q, .inr (3, [.ref a, .ref b, .int ty, .int (nI nn)])), (a, .inl (cy.1, 12, .inl ab)), (b, .inl (cy.1, 12, .inl (fun z => nI (sl z)))), (g, .inr (1, [.ref a1, .ref a2, .ref a3, .ref a4, .ref a5, .int fa])), (a4, .inl (cy.1, 32, .inl (fun z => nI (ow z))))] := hD
        refine lv_iload_n hx hb dX2_openChoices_63 rfl (lv_at hl 1 rfl) ?_
        refine lv_if_eq (tgt := 80) hx hb dX2_openChoices_64 (by decide) (fun cb2 => ?_) (fun cb2 => ?_)
        · have cb2 : (A) = false := bI_t0 cb2
          refine lv_iconst (v := nI 0) hx hb dX2_openChoices_80 (by decide) ?_
          refine lv_istore_n (lv' := [(1, .int (nI 0)), (0, .ref P), (2, .int (nI n))]) hx hb dX2_openChoices_81 rfl hl (by decide) rfl (fun ls hl => ?_)
          refine lv_iinc (v := nI (n + 1)) (lv' := [(2, .int (nI (n + 1))), (1, .int (nI 0)), (0, .ref P)]) hx hb dX2_openChoices_82 hl (k := 2) rfl (z_inc _) (by decide) rfl (fun ls hl => ?_)
          refine lv_goto (tgt := 20) hx hb dX2_openChoices_85 (by decide) ?_
          exact ih_lo (n + 1) false (upd u1 n (ab n)) (upd c1 n (nI (ow (sl n)))) (by omega) (by omega) (by rw [cb2] at hA; exact (decide_eq_false (fun z => of_decide_eq_false hA.symm (fun k hk => z k (by omega)))).symm) (lt_s (fun k hk => by unfold upd; rw [if_neg (by omega), if_neg (by omega)]; exact hcp k hk) (by unfold upd; rw [if_pos rfl, if_pos rfl]; exact ⟨rfl, rfl⟩)) _ _ _ hP hD hS (lv_sub hl [2, 1, 0] rfl)
        · have cb2 : (A) = true := bI_f0 cb2
          refine lv_aload_n hx hb dX2_openChoices_67 rfl (lv_at hl 0 rfl) ?_
          refine va_get (D := D) (ci := 2) (v := .ref p2) (C := RX2) (T := TX2) (N := 10) hx hb hts in_wsX2_openChoices_X2 hown hK.1 hP 0 rfl rfl 3 (by decide) (hts _ lk117_wsX2_openChoices) (fun _ h9 => h9) rfl dX2_openChoices_68 ?_
          refine lv_iload_n hx hb dX2_openChoices_71 rfl (lv_at hl 2 rfl) ?_
          refine z_iald (v := nI (ow (sl n))) hx hb hK.1 hP 2 0 rfl rfl (k := n) (by omega) (by decide) (by show upd c1 n _ n = _; unfold upd; rw [if_pos rfl]) dX2_openChoices_72 ?_
          have how1 := how n (by omega)
          refine lv_if_eq (tgt := 80) hx hb dX2_openChoices_73 (by decide) (fun cb3 => ?_) (fun cb3 => ?_)
          · have cb3 : (ow (sl n)) = 0 := zn_eq_t (a := (ow (sl n))) (b := 0) (by omega) (by omega) cb3
            refine lv_iconst (v := nI 0) hx hb dX2_openChoices_80 (by decide) ?_
            refine lv_istore_n (lv' := [(1, .int (nI 0)), (0, .ref P), (2, .int (nI n))]) hx hb dX2_openChoices_81 rfl hl (by decide) rfl (fun ls hl => ?_)
            refine lv_iinc (v := nI (n + 1)) (lv' := [(2, .int (nI (n + 1))), (1, .int (nI 0)), (0, .ref P)]) hx hb dX2_openChoices_82 hl (k := 2) rfl (z_inc _) (by decide) rfl (fun ls hl => ?_)
            refine lv_goto (tgt := 20) hx hb dX2_openChoices_85 (by decide) ?_
            exact ih_lo (n + 1) false (upd u1 n (ab n)) (upd c1 n (nI (ow (sl n)))) (by omega) (by omega) (decide_eq_false (fun z => z n (by omega) (by omega))).symm (lt_s (fun k hk => by unfold upd; rw [if_neg (by omega), if_neg (by omega)]; exact hcp k hk) (by unfold upd; rw [if_pos rfl, if_pos rfl]; exact ⟨rfl, rfl⟩)) _ _ _ hP hD hS (lv_sub hl [2, 1, 0] rfl)
          · have cb3 : ¬ ((ow (sl n)) = 0) := zn_eq_f (a := (ow (sl n))) (b := 0) (by omega) (by omega) cb3
            refine lv_iconst (v := nI 1) hx hb dX2_openChoices_76 (by decide) ?_
            refine lv_goto (tgt := 81) hx hb dX2_openChoices_77 (by decide) ?_
            refine lv_istore_n (lv' := [(1, .int (nI 1)), (0, .ref P), (2, .int (nI n))]) hx hb dX2_openChoices_81 rfl hl (by decide) rfl (fun ls hl => ?_)
            refine lv_iinc (v := nI (n + 1)) (lv' := [(2, .int (nI (n + 1))), (1, .int (nI 1)), (0, .ref P)]) hx hb dX2_openChoices_82 hl (k := 2) rfl (z_inc _) (by decide) rfl (fun ls hl => ?_)
            refine lv_goto (tgt := 20) hx hb dX2_openChoices_85 (by decide) ?_
            exact ih_lo (n + 1) true (upd u1 n (ab n)) (upd c1 n (nI (ow (sl n)))) (by omega) (by omega) (by rw [cb2] at hA; exact (decide_eq_true (lt_s (of_decide_eq_true hA.symm) (by omega))).symm) (lt_s (fun k hk => by unfold upd; rw [if_neg (by omega), if_neg (by omega)]; exact hcp k hk) (by unfold upd; rw [if_pos rfl, if_pos rfl]; exact ⟨rfl, rfl⟩)) _ _ _ hP hD hS (lv_sub hl [2, 1, 0] rfl)
  exact lo (nn + 1) 0 true pl chA (by omega) (by omega) (decide_eq_true (fun k hk => absurd hk (by omega))).symm (fun k hk => absurd hk (by omega)) _ _ _ hP hD hS (lv_sub hl [2, 1, 0] rfl)
theorem zSeq_lt {cn : Nat} {pl : Nat → Int32} {c0 : Nat → Nat} (h : ∀ m, m < cn → c0 m < 16) : ∀ n m, m < cn → (zSeq cn pl c0 n).1 m < 16
  | 0, m, hm => h m hm
  | n + 1, m, hm => by
    show zTry (zSeq cn pl c0 n).1 n _ m < 16
    unfold zTry va_up
    split
    · rename_i e; subst e; exact z_andlt _ (zSeq_lt h m m hm)
    · exact zSeq_lt h n m hm
set_option maxRecDepth 20000 in
theorem lk120_wsX2_chooseServices : Cond.fieldLink RX2 72 "QueryGateway$Plan" "count" "I" ∈ wsX2_chooseServices := by decide +kernel
set_option maxRecDepth 20000 in
theorem in_wsX2_chooseServices_X2 : ∀ w ∈ wsX20, w ∈ wsX2_chooseServices := by decide +kernel
set_option maxRecDepth 20000 in
theorem lk122_wsX2_chooseServices : Cond.fieldLink RX2 19 "QueryGateway$Plan" "places" "[I" ∈ wsX2_chooseServices := by decide +kernel
theorem k_yX2_serviceOf : yX2_serviceOf.cls = RX2 ∧ yX2_serviceOf.cls ≠ "java/lang/invoke/MethodHandle" ∧ yX2_serviceOf.cls ≠ "java/lang/invoke/VarHandle" ∧ (parseMethodDescriptor yX2_serviceOf.desc).map (fun d => d.parameters.length) = some 1 := by decide +kernel
set_option maxRecDepth 20000 in
theorem lk124_wsX2_chooseServices : Cond.fieldLink RX2 23 "QueryGateway$Plan" "choices" "[I" ∈ wsX2_chooseServices := by decide +kernel
set_option maxRecDepth 20000 in
theorem lk125_wsX2_chooseServices : Cond.initialized RX4 ∈ wsX2_chooseServices := by decide +kernel
set_option maxRecDepth 20000 in
theorem lk126_wsX2_chooseServices : Cond.static yX4_bit ∈ wsX2_chooseServices := by decide +kernel
set_option maxRecDepth 20000 in
theorem lk127_wsX2_chooseServices : Cond.fieldLink RX2 29 "QueryGateway$Plan" "services" "[I" ∈ wsX2_chooseServices := by decide +kernel
abbrev rmX2_chooseServices : Room := { frames := 3, cells := 0, slots := 0, locals := 71 }
set_option maxHeartbeats 4000000 in
set_option maxRecDepth 100000 in
theorem c_X2_chooseServices {l : Launch} {D : va_G} {cy : zCy} {P g q p1 p2 p3 p4 a b cn : Nat} {ty ln kn th : Int32} {pl chA hbA svA : Nat → Int32} {c0 : Nat → Nat} (hcn : cn ≤ 12) (hT : zTree cn pl) (hch : ∀ n, n < cn → chA n = nI (c0 n) ∧ c0 n < 16) (hhb : ∀ n, n < cn → ∀ v, v < 4 → hbA (n * 4 + v) = nI (zH cn pl c0 n v)) : zV ((Nat → Int32) × (Nat → Int32)) l yX2_chooseServices wsX2_chooseServices rmX2_chooseServices D cy [(P, .inr (2, [.ref g, .ref q, .ref p1, .ref p2, .ref p3, .ref p4, .int (nI cn), .int ln, .int kn, .int th])), (p1, .inl (cy.1, 12, .inl pl)), (p2, .inl (cy.1, 12, .inl chA)), (p3, .inl (cy.1, 48, .inl hbA)), (p4, .inl (cy.1, 12, .inl svA)), (q, .inr (3, [.ref a, .ref b, .int ty, .int (nI cn)]))] [.ref P] (fun u => ∀ n, n < cn → u.2 n = nI (zSV cn pl c0 n)) (fun u => [(P, .inr (2, [.ref g, .ref q, .ref p1, .ref p2, .ref p3, .ref p4, .int (nI cn), .int ln, .int kn, .int th])), (p1, .inl (cy.1, 12, .inl pl)), (p2, .inl (cy.1, 12, .inl u.1)), (p3, .inl (cy.1, 48, .inl hbA)), (p4, .inl (cy.1, 12, .inl u.2)), (q, .inr (3, [.ref a, .ref b, .int ty, .int (nI cn)]))]) := by
  refine zV.of (cc := cX2_chooseServices) (maxL := 7) (ret := none) (by decide) rfl rfl ?_
  intro p e s m below meth c ls C hP hK hD hl
  obtain ⟨hx, hb, hr, hml, hts, hown, hlocks⟩ := C
  have hS : va_S (zIn [(P, .inr (2, [.ref g, .ref q, .ref p1, .ref p2, .ref p3, .ref p4, .int (nI cn), .int ln, .int kn, .int th])), (p1, .inl (cy.1, 12, .inl pl)), (p2, .inl (cy.1, 12, .inl chA)), (p3, .inl (cy.1, 48, .inl hbA)), (p4, .inl (cy.1, 12, .inl svA)), (q, .inr (3, [.ref a, .ref b, .int ty, .int (nI cn)]))]) s.heap s.heap [] := va_S.rf
  have hl : lv_has ls 7 [(0, .ref P)] := hl
  refine lv_iconst (v := nI 0) hx hb dX2_chooseServices_0 (by decide) ?_
  refine lv_istore_n (lv' := [(1, .int (nI 0)), (0, .ref P)]) hx hb dX2_chooseServices_1 rfl hl (by decide) rfl (fun ls hl => ?_)
  have lo : ∀ (fuel : Nat) (n : Nat) (ch1 sv1 : Nat → Int32), cn + 1 ≤ n + fuel → n ≤ cn → (∀ k, k < cn → ch1 k = nI ((zSeq cn pl c0 n).1 k)) → (∀ k, k < n → sv1 k = nI (zSV cn pl c0 k)) → ∀ (H : Heap) (locs : List Loc) (ls : Array Slot), va_P D vwCl [(P, .inr (2, [.ref g, .ref q, .ref p1, .ref p2, .ref p3, .ref p4, .int (nI cn), .int ln, .int kn, .int th])), (p1, .inl (cy.1, 12, .inl pl)), (p2, .inl (cy.1, 12, .inl ch1)), (p3, .inl (cy.1, 48, .inl hbA)), (p4, .inl (cy.1, 12, .inl sv1)), (q, .inr (3, [.ref a, .ref b, .int ty, .int (nI cn)]))] H → va_D (zIn [(P, .inr (2, [.ref g, .ref q, .ref p1, .ref p2, .ref p3, .ref p4, .int (nI cn), .int ln, .int kn, .int th])), (p1, .inl (cy.1, 12, .inl pl)), (p2, .inl (cy.1, 12, .inl chA)), (p3, .inl (cy.1, 48, .inl hbA)), (p4, .inl (cy.1, 12, .inl svA)), (q, .inr (3, [.ref a, .ref b, .int ty, .int (nI cn)]))]) [(P, .inr (2, [.ref g, .ref q, .ref p1, .ref p2, .ref p3, .ref p4, .int (nI cn), .int ln, .int kn, .int th])), (p1, .inl (cy.1, 12, .inl pl)), (p2, .inl (cy.1, 12, .inl ch1)), (p3, .inl (cy.1, 48, .inl hbA)), (p4, .inl (cy.1, 12, .inl sv1)), (q, .inr (3, [.ref a, .ref b, .int ty, .int (nI cn)]))] → va_S (zIn [(P, .inr (2, [.ref g, .ref q, .ref p1, .ref p2, .ref p3, .ref p4, .int (nI cn), .int ln, .int kn, .int th])), (p1, .inl (cy.1, 12, .inl pl)), (p2, .inl (cy.1, 12, .inl chA)), (p3, .inl (cy.1, 48, .inl hbA)), (p4, .inl (cy.1, 12, .inl svA)), (q, .inr (3, [.ref a, .ref b, .int ty, .int (nI cn)]))]) s.heap H locs → lv_has ls 7 [(0, .ref P), (1, .int (nI n))] → W p l e rmX2_chooseServices s m [.ref P].toArray below meth c H locs 0 0 (zVQ ((Nat → Int32) × (Nat → Int32)) D below [.ref P].toArray s [(P, .inr (2, [.ref g, .ref q, .ref p1, .ref p2, .ref p3, .ref p4, .int (nI cn), .int ln, .int kn, .int th])), (p1, .inl (cy.1, 12, .inl pl)), (p2, .inl (cy.1, 12, .inl chA)), (p3, .inl (cy.1, 48, .inl hbA)), (p4, .inl (cy.1, 12, .inl svA)), (q, .inr (3, [.ref a, .ref b, .int ty, .int (nI cn)]))] (fun u => ∀ n, n < cn → u.2 n = nI (zSV cn pl c0 n)) (fun u => [(P, .inr (2, [.ref g, .ref q, .ref p1, .ref p2, .ref p3, .ref p4, .int (nI cn), .int ln, .int kn, .int th])), (p1, .inl (cy.1, 12, .inl pl)), (p2, .inl (cy.1, 12, .inl u.1)), (p3, .inl (cy.1, 48, .inl hbA)), (p4, .inl (cy.1, 12, .inl u.2)), (q, .inr (3, [.ref a, .ref b, .int ty, .int (nI cn)]))])) (F0 m 2 ls []) := by
    intro fuel
    induction fuel with
    | zero => intro n ch1 sv1 hfu hi hch1 hsv1; exact absurd hfu (by omega)
    | succ fuel ih_lo =>
      intro n ch1 sv1 hfu hi hch1 hsv1 H locs ls hP hD hS hl
      refine lv_iload_n hx hb dX2_chooseServices_2 rfl (lv_at hl 1 rfl) ?_
      refine lv_aload_n hx hb dX2_chooseServices_3 rfl (lv_at hl 0 rfl) ?_
      refine va_get (D := D) (ci := 2) (v := .int (nI cn)) (C := RX2) (T := TX2) (N := 10) hx hb hts in_wsX2_chooseServices_X2 hown hK.1 hP 0 rfl rfl 6 (by decide) (hts _ lk120_wsX2_chooseServices) (fun _ h9 => h9) rfl dX2_chooseServices_4 ?_
      refine lv_icmp_ge (tgt := 114) hx hb dX2_chooseServices_7 (by decide) (fun cb1 => ?_) (fun cb1 => ?_)
      · have cb1 : cn ≤ n := zn_ge_t (a := n) (b := cn) (by omega) (by omega) cb1
        exact z_vret (ch1, sv1) hx hb hr hlocks hS dX2_chooseServices_114 hP (fun k hk => hsv1 k (by omega))
      · have cb1 : ¬ (cn ≤ n) := zn_ge_f (a := n) (b := cn) (by omega) (by omega) cb1
        have hlt16 := zSeq_lt (pl := pl) (fun k hk => (hch k hk).2) n
        rcases hT n (by omega) with hpl | ⟨r, hrn, hpl⟩
        · have ehm : zHome pl (zSeq cn pl c0 n).2 n = 4 := zHome_top hpl
          refine lv_aload_n hx hb dX2_chooseServices_10 rfl (lv_at hl 0 rfl) ?_
          refine lv_aload_n hx hb dX2_chooseServices_11 rfl (lv_at hl 0 rfl) ?_
          refine va_get (D := D) (ci := 2) (v := .ref p1) (C := RX2) (T := TX2) (N := 10) hx hb hts in_wsX2_chooseServices_X2 hown hK.1 hP 0 rfl rfl 2 (by decide) (hts _ lk122_wsX2_chooseServices) (fun _ h9 => h9) rfl dX2_chooseServices_12 ?_
          refine lv_iload_n hx hb dX2_chooseServices_15 rfl (lv_at hl 1 rfl) ?_
          refine z_iald (v := (-1 : Int32)) hx hb hK.1 hP 1 0 rfl rfl (k := n) (by omega) (by decide) hpl dX2_chooseServices_16 ?_
          refine z_callV (b := P) (As := [.int ((-1 : Int32))]) (rest := []) ⟨hx, hb, hml, hown, hts⟩ hK hP hS (c_X2_serviceOf_m1 (i := 0) (iq := 5) rfl rfl hcn) (cwV 1 hts gX2_chooseServices_X2_serviceOf rfl rfl rfl k_yX2_serviceOf ⟨Nat.le_of_ble_eq_true rfl, Nat.le_of_ble_eq_true rfl⟩) 0 2 rfl rfl rfl rfl hl.1 rfl rfl dX2_chooseServices_17 ⟨Nat.le_of_ble_eq_true rfl, Nat.le_of_ble_eq_true rfl⟩ (fun H locs hP hS => ?_)
          refine lv_istore_n (lv' := [(2, .int ((-1 : Int32))), (0, .ref P), (1, .int (nI n))]) hx hb dX2_chooseServices_20 rfl hl (by decide) rfl (fun ls hl => ?_)
          refine lv_aload_n hx hb dX2_chooseServices_21 rfl (lv_at hl 1 rfl) ?_
          refine lv_aload_n hx hb dX2_chooseServices_22 rfl (lv_at hl 1 rfl) ?_
          refine va_get (D := D) (ci := 2) (v := .ref p1) (C := RX2) (T := TX2) (N := 10) hx hb hts in_wsX2_chooseServices_X2 hown hK.1 hP 0 rfl rfl 2 (by decide) (hts _ lk122_wsX2_chooseServices) (fun _ h9 => h9) rfl dX2_chooseServices_23 ?_
          refine lv_iload_n hx hb dX2_chooseServices_26 rfl (lv_at hl 2 rfl) ?_
          refine z_iald (v := pl n) hx hb hK.1 hP 1 0 rfl rfl (k := n) (by omega) (by decide) rfl dX2_chooseServices_27 ?_
          refine lv_iload_n hx hb dX2_chooseServices_28 rfl (lv_at hl 0 rfl) ?_
          refine z_callV (b := P) (As := [.int (pl n), .int ((-1 : Int32))]) (rest := []) ⟨hx, hb, hml, hown, hts⟩ hK hP hS (c_X2_hopsAt_m1 (i := 0) (i1 := 1) (i2 := 2) (i3 := 3) rfl rfl rfl rfl (ch := (zSeq cn pl c0 n).1) (x := pl n) hcn (fun k hk => ⟨hch1 k hk, hlt16 k hk⟩) (fun k hk _ v hv => ⟨hhb k hk v hv, zH_cap hT hcn hk v⟩)) (cwV 2 hts gX2_chooseServices_X2_hopsAt rfl rfl rfl k_yX2_hopsAt ⟨Nat.le_of_ble_eq_true rfl, Nat.le_of_ble_eq_true rfl⟩) 0 2 rfl rfl rfl rfl hl.1 rfl rfl dX2_chooseServices_29 ⟨Nat.le_of_ble_eq_true rfl, Nat.le_of_ble_eq_true rfl⟩ (fun H locs hP hS => ?_)
          refine lv_istore_n (lv' := [(3, .int (nI (zA cn pl (zSeq cn pl c0 n).1 (zH cn pl c0) (pl n) 4))), (2, .int ((-1 : Int32))), (0, .ref P), (1, .int (nI n))]) hx hb dX2_chooseServices_32 rfl hl (by decide) rfl (fun ls hl => ?_)
          refine lv_aload_n hx hb dX2_chooseServices_33 rfl (lv_at hl 2 rfl) ?_
          refine va_get (D := D) (ci := 2) (v := .ref p2) (C := RX2) (T := TX2) (N := 10) hx hb hts in_wsX2_chooseServices_X2 hown hK.1 hP 0 rfl rfl 3 (by decide) (hts _ lk124_wsX2_chooseServices) (fun _ h9 => h9) rfl dX2_chooseServices_34 ?_
          refine lv_iload_n hx hb dX2_chooseServices_37 rfl (lv_at hl 3 rfl) ?_
          refine z_iald (v := nI ((zSeq cn pl c0 n).1 n)) hx hb hK.1 hP 2 0 rfl rfl (k := n) (by omega) (by decide) (hch1 n (by omega)) dX2_chooseServices_38 ?_
          refine lv_istore (lv' := [(4, .int (nI ((zSeq cn pl c0 n).1 n))), (3, .int (nI (zA cn pl (zSeq cn pl c0 n).1 (zH cn pl c0) (pl n) 4))), (2, .int ((-1 : Int32))), (0, .ref P), (1, .int (nI n))]) hx hb dX2_chooseServices_39 hl (by decide) rfl (fun ls hl => ?_)
          refine lv_iconst (v := nI 0) hx hb dX2_chooseServices_41 (by decide) ?_
          refine lv_istore (lv' := [(5, .int (nI 0)), (4, .int (nI ((zSeq cn pl c0 n).1 n))), (3, .int (nI (zA cn pl (zSeq cn pl c0 n).1 (zH cn pl c0) (pl n) 4))), (2, .int ((-1 : Int32))), (0, .ref P), (1, .int (nI n))]) hx hb dX2_chooseServices_42 hl (by decide) rfl (fun ls hl => ?_)
          refine lv_iconst (v := nI 0) hx hb dX2_chooseServices_44 (by decide) ?_
          refine lv_istore (lv' := [(6, .int (nI 0)), (5, .int (nI 0)), (4, .int (nI ((zSeq cn pl c0 n).1 n))), (3, .int (nI (zA cn pl (zSeq cn pl c0 n).1 (zH cn pl c0) (pl n) 4))), (2, .int ((-1 : Int32))), (0, .ref P), (1, .int (nI n))]) hx hb dX2_chooseServices_45 hl (by decide) rfl (fun ls hl => ?_)
          have li : ∀ (fuel : Nat) (v : Nat) (A : Bool) (ch2 sv2 : Nat → Int32), 5 ≤ v + fuel → v ≤ 4 → (A = false → ∀ t, t < v → ¬ (zA cn pl (zTry (zSeq cn pl c0 n).1 n t) (zH cn pl c0) (pl n) 4 = zA cn pl (zSeq cn pl c0 n).1 (zH cn pl c0) (pl n) 4)) → (A = true → 1 ≤ v ∧ zA cn pl (zTry (zSeq cn pl c0 n).1 n (v - 1)) (zH cn pl c0) (pl n) 4 = zA cn pl (zSeq cn pl c0 n).1 (zH cn pl c0) (pl n) 4 ∧ ∀ t, t < v - 1 → ¬ (zA cn pl (zTry (zSeq cn pl c0 n).1 n t) (zH cn pl c0) (pl n) 4 = zA cn pl (zSeq cn pl c0 n).1 (zH cn pl c0) (pl n) 4)) → (∀ k, k < cn → k ≠ n → ch2 k = nI ((zSeq cn pl c0 n).1 k)) → (∀ k, k < n → sv2 k = nI (zSV cn pl c0 k)) → (1 ≤ v → ch2 n = nI ((zSeq cn pl c0 n).1 n &&& 2 ^ (v - 1)) ∧ sv2 n = nI (v - 1)) → ∀ (H : Heap) (locs : List Loc) (ls : Array Slot), va_P D vwCl [(P, .inr (2, [.ref g, .ref q, .ref p1, .ref p2, .ref p3, .ref p4, .int (nI cn), .int ln, .int kn, .int th])), (p1, .inl (cy.1, 12, .inl pl)), (p2, .inl (cy.1, 12, .inl ch2)), (p3, .inl (cy.1, 48, .inl hbA)), (p4, .inl (cy.1, 12, .inl sv2)), (q, .inr (3, [.ref a, .ref b, .int ty, .int (nI cn)]))] H → va_D (zIn [(P, .inr (2, [.ref g, .ref q, .ref p1, .ref p2, .ref p3, .ref p4, .int (nI cn), .int ln, .int kn, .int th])), (p1, .inl (cy.1, 12, .inl pl)), (p2, .inl (cy.1, 12, .inl chA)), (p3, .inl (cy.1, 48, .inl hbA)), (p4, .inl (cy.1, 12, .inl svA)), (q, .inr (3, [.ref a, .ref b, .int ty, .int (nI cn)]))]) [(P, .inr (2, [.ref g, .ref q, .ref p1, .ref p2, .ref p3, .ref p4, .int (nI cn), .int ln, .int kn, .int th])), (p1, .inl (cy.1, 12, .inl pl)), (p2, .inl (cy.1, 12, .inl ch2)), (p3, .inl (cy.1, 48, .inl hbA)), (p4, .inl (cy.1, 12, .inl sv2)), (q, .inr (3, [.ref a, .ref b, .int ty, .int (nI cn)]))] → va_S (zIn [(P, .inr (2, [.ref g, .ref q, .ref p1, .ref p2, .ref p3, .ref p4, .int (nI cn), .int ln, .int kn, .int th])), (p1, .inl (cy.1, 12, .inl pl)), (p2, .inl (cy.1, 12, .inl chA)), (p3, .inl (cy.1, 48, .inl hbA)), (p4, .inl (cy.1, 12, .inl svA)), (q, .inr (3, [.ref a, .ref b, .int ty, .int (nI cn)]))]) s.heap H locs → lv_has ls 7 [(0, .ref P), (1, .int (nI n)), (2, .int ((-1 : Int32))), (3, .int (nI (zA cn pl (zSeq cn pl c0 n).1 (zH cn pl c0) (pl n) 4))), (4, .int (nI ((zSeq cn pl c0 n).1 n))), (5, .int (bI (A))), (6, .int (nI v))] → W p l e rmX2_chooseServices s m [.ref P].toArray below meth c H locs 0 0 (zVQ ((Nat → Int32) × (Nat → Int32)) D below [.ref P].toArray s [(P, .inr (2, [.ref g, .ref q, .ref p1, .ref p2, .ref p3, .ref p4, .int (nI cn), .int ln, .int kn, .int th])), (p1, .inl (cy.1, 12, .inl pl)), (p2, .inl (cy.1, 12, .inl chA)), (p3, .inl (cy.1, 48, .inl hbA)), (p4, .inl (cy.1, 12, .inl svA)), (q, .inr (3, [.ref a, .ref b, .int ty, .int (nI cn)]))] (fun u => ∀ n, n < cn → u.2 n = nI (zSV cn pl c0 n)) (fun u => [(P, .inr (2, [.ref g, .ref q, .ref p1, .ref p2, .ref p3, .ref p4, .int (nI cn), .int ln, .int kn, .int th])), (p1, .inl (cy.1, 12, .inl pl)), (p2, .inl (cy.1, 12, .inl u.1)), (p3, .inl (cy.1, 48, .inl hbA)), (p4, .inl (cy.1, 12, .inl u.2)), (q, .inr (3, [.ref a, .ref b, .int ty, .int (nI cn)]))])) (F0 m 47 ls []) := by
            intro fuel
            induction fuel with
            | zero => intro v A ch2 sv2 hfu hv hno hyes hch2 hsv2 hat; exact absurd hfu (by omega)
            | succ fuel ih_li =>
              intro v A ch2 sv2 hfu hv hno hyes hch2 hsv2 hat H locs ls hP hD hS hl
              refine lv_iload hx hb dX2_chooseServices_47 (lv_at hl 6 rfl) ?_
              refine lv_iconst (v := nI 4) hx hb dX2_chooseServices_49 (by decide) ?_
              refine lv_icmp_ge (tgt := 108) hx hb dX2_chooseServices_50 (by decide) (fun cb2 => ?_) (fun cb2 => ?_)
              · have cb2 : 4 ≤ v := zn_ge_t (a := v) (b := 4) (by omega) (by omega) cb2
                have hgd : ∀ t, zGood cn pl c0 (zSeq cn pl c0 n).1 (zSeq cn pl c0 n).2 n t = decide (zA cn pl (zTry (zSeq cn pl c0 n).1 n t) (zH cn pl c0) (pl n) 4 = zA cn pl (zSeq cn pl c0 n).1 (zH cn pl c0) (pl n) 4) := fun t => by unfold zGood; rw [ehm]
                have hpk : zSV cn pl c0 n = v - 1 ∧ 1 ≤ v := by
                  obtain rfl : v = 4 := (by omega)
                  refine ⟨?_, by omega⟩
                  cases A with
                  | true =>
                    obtain ⟨_, y2, y3⟩ := hyes rfl
                    exact zPick_eq (by omega) (by rw [hgd]; exact decide_eq_true y2) (fun t ht hb => y3 t ht (by rw [hgd] at hb; exact of_decide_eq_true hb))
                  | false =>
                    have hno4 := hno rfl
                    have hf : ∀ t, t < 4 → ¬ zGood cn pl c0 (zSeq cn pl c0 n).1 (zSeq cn pl c0 n).2 n t = true := fun t ht hb => hno4 t ht (by rw [hgd] at hb; exact of_decide_eq_true hb)
                    show zPick _ = 3
                    unfold zPick
                    rw [if_neg (hf 0 (by omega)), if_neg (hf 1 (by omega)), if_neg (hf 2 (by omega))]
                obtain ⟨hat1, hat2⟩ := hat hpk.2
                have hsv3n : sv2 n = nI (zSV cn pl c0 n) := by rw [hat2, hpk.1]
                have hch3 : ∀ k, k < cn → ch2 k = nI ((zSeq cn pl c0 (n + 1)).1 k) := fun k hk => by
                  show _ = nI (zTry (zSeq cn pl c0 n).1 n (zSV cn pl c0 n) k)
                  unfold zTry va_up
                  by_cases e : k = n
                  · subst e; rw [if_pos rfl, hat1, hpk.1]
                  · rw [if_neg e]; exact hch2 k hk e
                refine lv_iinc (v := nI (n + 1)) (lv' := [(1, .int (nI (n + 1))), (0, .ref P), (2, .int ((-1 : Int32))), (3, .int (nI (zA cn pl (zSeq cn pl c0 n).1 (zH cn pl c0) (pl n) 4))), (4, .int (nI ((zSeq cn pl c0 n).1 n))), (5, .int (bI (A))), (6, .int (nI v))]) hx hb dX2_chooseServices_108 hl (k := 1) rfl (z_inc _) (by decide) rfl (fun ls hl => ?_)
                refine lv_goto (tgt := 2) hx hb dX2_chooseServices_111 (by decide) ?_
                exact ih_lo (n + 1) ch2 sv2 (by omega) (by omega) hch3 (lt_s hsv2 hsv3n) _ _ _ hP hD hS (lv_sub hl [1, 0] rfl)
              · have cb2 : ¬ (4 ≤ v) := zn_ge_f (a := v) (b := 4) (by omega) (by omega) cb2
                refine lv_iload hx hb dX2_chooseServices_53 (lv_at hl 5 rfl) ?_
                refine lv_if_ne (tgt := 108) hx hb dX2_chooseServices_55 (by decide) (fun cb3 => ?_) (fun cb3 => ?_)
                · have cb3 : (A) = true := bI_f0 cb3
                  have hgd : ∀ t, zGood cn pl c0 (zSeq cn pl c0 n).1 (zSeq cn pl c0 n).2 n t = decide (zA cn pl (zTry (zSeq cn pl c0 n).1 n t) (zH cn pl c0) (pl n) 4 = zA cn pl (zSeq cn pl c0 n).1 (zH cn pl c0) (pl n) 4) := fun t => by unfold zGood; rw [ehm]
                  have hpk : zSV cn pl c0 n = v - 1 ∧ 1 ≤ v := by
                    obtain ⟨y1, y2, y3⟩ := hyes cb3
                    refine ⟨?_, y1⟩
                    exact zPick_eq (by omega) (by rw [hgd]; exact decide_eq_true y2) (fun t ht hb => y3 t ht (by rw [hgd] at hb; exact of_decide_eq_true hb))
                  obtain ⟨hat1, hat2⟩ := hat hpk.2
                  have hsv3n : sv2 n = nI (zSV cn pl c0 n) := by rw [hat2, hpk.1]
                  have hch3 : ∀ k, k < cn → ch2 k = nI ((zSeq cn pl c0 (n + 1)).1 k) := fun k hk => by
                    show _ = nI (zTry (zSeq cn pl c0 n).1 n (zSV cn pl c0 n) k)
                    unfold zTry va_up
                    by_cases e : k = n
                    · subst e; rw [if_pos rfl, hat1, hpk.1]
                    · rw [if_neg e]; exact hch2 k hk e
                  refine lv_iinc (v := nI (n + 1)) (lv' := [(1, .int (nI (n + 1))), (0, .ref P), (2, .int ((-1 : Int32))), (3, .int (nI (zA cn pl (zSeq cn pl c0 n).1 (zH cn pl c0) (pl n) 4))), (4, .int (nI ((zSeq cn pl c0 n).1 n))), (5, .int (bI (A))), (6, .int (nI v))]) hx hb dX2_chooseServices_108 hl (k := 1) rfl (z_inc _) (by decide) rfl (fun ls hl => ?_)
                  refine lv_goto (tgt := 2) hx hb dX2_chooseServices_111 (by decide) ?_
                  exact ih_lo (n + 1) ch2 sv2 (by omega) (by omega) hch3 (lt_s hsv2 hsv3n) _ _ _ hP hD hS (lv_sub hl [1, 0] rfl)
                · have cb3 : (A) = false := bI_t0 cb3
                  have hA0 := cb3
                  refine lv_aload_n hx hb dX2_chooseServices_58 rfl (lv_at hl 0 rfl) ?_
                  refine va_get (D := D) (ci := 2) (v := .ref p2) (C := RX2) (T := TX2) (N := 10) hx hb hts in_wsX2_chooseServices_X2 hown hK.1 hP 0 rfl rfl 3 (by decide) (hts _ lk124_wsX2_chooseServices) (fun _ h9 => h9) rfl dX2_chooseServices_59 ?_
                  refine lv_iload_n hx hb dX2_chooseServices_62 rfl (lv_at hl 1 rfl) ?_
                  refine lv_iload hx hb dX2_chooseServices_63 (lv_at hl 4 rfl) ?_
                  refine lv_iload hx hb dX2_chooseServices_65 (lv_at hl 6 rfl) ?_
                  refine z_callSN (As := [.int (nI v)]) (rest := [.int (nI ((zSeq cn pl c0 n).1 n)), .int (nI n), .ref p2]) ⟨hx, hb, hml, hown, hts⟩ hK hP hS (c_X4_bit (k := v) (by omega)) ⟨va_cnB 1 hts gX2_chooseServices_X4_bit_n90 rfl rfl rfl hK.2.2.2.2.2.2.1 (hts _ lk125_wsX2_chooseServices) k_yX4_bit ⟨Nat.le_of_ble_eq_true rfl, Nat.le_of_ble_eq_true rfl⟩, hts _ lk126_wsX2_chooseServices, trivial⟩ rfl hl.1 rfl rfl dX2_chooseServices_67 ⟨Nat.le_of_ble_eq_true rfl, Nat.le_of_ble_eq_true rfl⟩ (fun H locs hP hS => ?_)
                  refine lv_iand hx hb dX2_chooseServices_70 ?_
                  refine z_top (y := nI ((zSeq cn pl c0 n).1 n &&& 2 ^ v)) (z_and16 _ (hlt16 n (by omega)) _ (z_pow16 v (by omega))) ?_
                  refine z_iast (g := upd ch2 n (nI ((zSeq cn pl c0 n).1 n &&& 2 ^ v))) hx hb hK.1 hP hD hS 2 0 rfl rfl (k := n) (by omega) (by decide) (fun _ _ => rfl) dX2_chooseServices_71 (fun H locs hP hD hS => ?_)
                  have hP : va_P D vwCl [(P, .inr (2, [.ref g, .ref q, .ref p1, .ref p2, .ref p3, .ref p4, .int (nI cn), .int ln, .int kn, .int th])), (p1, .inl (cy.1, 12, .inl pl)), (p2, .inl (cy.1, 12, .inl (upd ch2 n (nI ((zSeq cn pl c0 n).1 n &&& 2 ^ v))))), (p3, .inl (cy.1, 48, .inl hbA)), (p4, .inl (cy.1, 12, .inl sv2)), (q, .inr (3, [.ref a, .ref b, .int ty, .int (nI cn)]))] H := hP
                  have hD : va_D (zIn [(P, .inr (2, [.ref g, .ref q, .ref p1, .ref p2, .ref p3, .ref p4, .int (nI cn), .int ln, .int kn, .int th])), (p1, .inl (cy.1, 12, .inl pl)), (p2, .inl (cy.1, 12, .inl chA)), (p3, .inl (cy.1, 48, .inl hbA)), (p4, .inl (cy.1, 12, .inl svA)), (q, .inr (3, [.ref a, .ref b, .int ty, .int (nI cn)]))]) [(P, .inr (2, [.ref g, .ref q, .ref p1, .ref p2, .ref p3, .ref p4, .int (nI cn), .int ln, .int kn, .int th])), (p1, .inl (cy.1, 12, .inl pl)), (p2, .inl (cy.1, 12, .inl (upd ch2 n (nI ((zSeq cn pl c0 n).1 n &&& 2 ^ v))))), (p3, .inl (cy.1, 48, .inl hbA)), (p4, .inl (cy.1, 12, .inl sv2)), (q, .inr (3, [.ref a, .ref b, .int ty, .int (nI cn)]))] := hD
                  have hchT : ∀ k, k < cn → upd ch2 n (nI ((zSeq cn pl c0 n).1 n &&& 2 ^ v)) k = nI (zTry (zSeq cn pl c0 n).1 n v k) ∧ zTry (zSeq cn pl c0 n).1 n v k < 16 := fun k hk => by
                    unfold upd zTry va_up
                    by_cases e : k = n
                    · subst e; rw [if_pos rfl, if_pos rfl]; exact ⟨rfl, z_andlt _ (hlt16 k hk)⟩
                    · rw [if_neg e, if_neg e]; exact ⟨hch2 k hk e, hlt16 k hk⟩
                  refine lv_aload_n hx hb dX2_chooseServices_72 rfl (lv_at hl 0 rfl) ?_
                  refine lv_aload_n hx hb dX2_chooseServices_73 rfl (lv_at hl 0 rfl) ?_
                  refine va_get (D := D) (ci := 2) (v := .ref p1) (C := RX2) (T := TX2) (N := 10) hx hb hts in_wsX2_chooseServices_X2 hown hK.1 hP 0 rfl rfl 2 (by decide) (hts _ lk122_wsX2_chooseServices) (fun _ h9 => h9) rfl dX2_chooseServices_74 ?_
                  refine lv_iload_n hx hb dX2_chooseServices_77 rfl (lv_at hl 1 rfl) ?_
                  refine z_iald (v := pl n) hx hb hK.1 hP 1 0 rfl rfl (k := n) (by omega) (by decide) rfl dX2_chooseServices_78 ?_
                  refine lv_iload_n hx hb dX2_chooseServices_79 rfl (lv_at hl 2 rfl) ?_
                  refine z_callV (b := P) (As := [.int (pl n), .int ((-1 : Int32))]) (rest := []) ⟨hx, hb, hml, hown, hts⟩ hK hP hS (c_X2_hopsAt_m1 (i := 0) (i1 := 1) (i2 := 2) (i3 := 3) rfl rfl rfl rfl (ch := (zTry (zSeq cn pl c0 n).1 n v)) (x := pl n) hcn hchT (fun k hk _ v hv => ⟨hhb k hk v hv, zH_cap hT hcn hk v⟩)) (cwV 2 hts gX2_chooseServices_X2_hopsAt rfl rfl rfl k_yX2_hopsAt ⟨Nat.le_of_ble_eq_true rfl, Nat.le_of_ble_eq_true rfl⟩) 0 2 rfl rfl rfl rfl hl.1 rfl rfl dX2_chooseServices_80 ⟨Nat.le_of_ble_eq_true rfl, Nat.le_of_ble_eq_true rfl⟩ (fun H locs hP hS => ?_)
                  refine lv_iload_n hx hb dX2_chooseServices_83 rfl (lv_at hl 3 rfl) ?_
                  have hca := @zA_cap cn pl (zTry (zSeq cn pl c0 n).1 n v) (zH cn pl c0) (pl n) 4
                  have hcb := @zA_cap cn pl (zSeq cn pl c0 n).1 (zH cn pl c0) (pl n) 4
                  refine lv_icmp_ne (tgt := 91) hx hb dX2_chooseServices_84 (by decide) (fun cb4 => ?_) (fun cb4 => ?_)
                  · have cb4 : ¬ ((zA cn pl (zTry (zSeq cn pl c0 n).1 n v) (zH cn pl c0) (pl n) 4) = (zA cn pl (zSeq cn pl c0 n).1 (zH cn pl c0) (pl n) 4)) := zn_ne_f (a := (zA cn pl (zTry (zSeq cn pl c0 n).1 n v) (zH cn pl c0) (pl n) 4)) (b := (zA cn pl (zSeq cn pl c0 n).1 (zH cn pl c0) (pl n) 4)) (by omega) (by omega) cb4
                    refine lv_iconst (v := nI 0) hx hb dX2_chooseServices_91 (by decide) ?_
                    refine lv_istore (lv' := [(5, .int (nI 0)), (0, .ref P), (1, .int (nI n)), (2, .int ((-1 : Int32))), (3, .int (nI (zA cn pl (zSeq cn pl c0 n).1 (zH cn pl c0) (pl n) 4))), (4, .int (nI ((zSeq cn pl c0 n).1 n))), (6, .int (nI v))]) hx hb dX2_chooseServices_92 hl (by decide) rfl (fun ls hl => ?_)
                    refine lv_aload_n hx hb dX2_chooseServices_94 rfl (lv_at hl 1 rfl) ?_
                    refine va_get (D := D) (ci := 2) (v := .ref p4) (C := RX2) (T := TX2) (N := 10) hx hb hts in_wsX2_chooseServices_X2 hown hK.1 hP 0 rfl rfl 5 (by decide) (hts _ lk127_wsX2_chooseServices) (fun _ h9 => h9) rfl dX2_chooseServices_95 ?_
                    refine lv_iload_n hx hb dX2_chooseServices_98 rfl (lv_at hl 2 rfl) ?_
                    refine lv_iload hx hb dX2_chooseServices_99 (lv_at hl 6 rfl) ?_
                    refine z_iast (g := upd sv2 n (nI v)) hx hb hK.1 hP hD hS 4 0 rfl rfl (k := n) (by omega) (by decide) (fun _ _ => rfl) dX2_chooseServices_101 (fun H locs hP hD hS => ?_)
                    have hP : va_P D vwCl [(P, .inr (2, [.ref g, .ref q, .ref p1, .ref p2, .ref p3, .ref p4, .int (nI cn), .int ln, .int kn, .int th])), (p1, .inl (cy.1, 12, .inl pl)), (p2, .inl (cy.1, 12, .inl (upd ch2 n (nI ((zSeq cn pl c0 n).1 n &&& 2 ^ v))))), (p3, .inl (cy.1, 48, .inl hbA)), (p4, .inl (cy.1, 12, .inl (upd sv2 n (nI v)))), (q, .inr (3, [.ref a, .ref b, .int ty, .int (nI cn)]))] H := hP
                    have hD : va_D (zIn [(P, .inr (2, [.ref g, .ref q, .ref p1, .ref p2, .ref p3, .ref p4, .int (nI cn), .int ln, .int kn, .int th])), (p1, .inl (cy.1, 12, .inl pl)), (p2, .inl (cy.1, 12, .inl chA)), (p3, .inl (cy.1, 48, .inl hbA)), (p4, .inl (cy.1, 12, .inl svA)), (q, .inr (3, [.ref a, .ref b, .int ty, .int (nI cn)]))]) [(P, .inr (2, [.ref g, .ref q, .ref p1, .ref p2, .ref p3, .ref p4, .int (nI cn), .int ln, .int kn, .int th])), (p1, .inl (cy.1, 12, .inl pl)), (p2, .inl (cy.1, 12, .inl (upd ch2 n (nI ((zSeq cn pl c0 n).1 n &&& 2 ^ v))))), (p3, .inl (cy.1, 48, .inl hbA)), (p4, .inl (cy.1, 12, .inl (upd sv2 n (nI v)))), (q, .inr (3, [.ref a, .ref b, .int ty, .int (nI cn)]))] := hD
                    refine lv_iinc (v := nI (v + 1)) (lv' := [(6, .int (nI (v + 1))), (5, .int (nI 0)), (0, .ref P), (1, .int (nI n)), (2, .int ((-1 : Int32))), (3, .int (nI (zA cn pl (zSeq cn pl c0 n).1 (zH cn pl c0) (pl n) 4))), (4, .int (nI ((zSeq cn pl c0 n).1 n)))]) hx hb dX2_chooseServices_102 hl (k := 6) rfl (z_inc _) (by decide) rfl (fun ls hl => ?_)
                    refine lv_goto (tgt := 47) hx hb dX2_chooseServices_105 (by decide) ?_
                    exact ih_li (v + 1) false (upd ch2 n (nI ((zSeq cn pl c0 n).1 n &&& 2 ^ v))) (upd sv2 n (nI v)) (by omega) (by omega) (fun _ => lt_s (hno hA0) cb4) (fun z => absurd z (by decide)) (fun k hk hkn => by unfold upd; rw [if_neg hkn]; exact hch2 k hk hkn) (fun k hk => by unfold upd; rw [if_neg (by omega)]; exact hsv2 k hk) (fun _ => by unfold upd; rw [if_pos rfl, if_pos rfl, Nat.add_sub_cancel]; exact ⟨rfl, rfl⟩) _ _ _ hP hD hS (lv_sub hl [2, 3, 4, 5, 6, 1, 0] rfl)
                  · have cb4 : (zA cn pl (zTry (zSeq cn pl c0 n).1 n v) (zH cn pl c0) (pl n) 4) = (zA cn pl (zSeq cn pl c0 n).1 (zH cn pl c0) (pl n) 4) := zn_ne_t (a := (zA cn pl (zTry (zSeq cn pl c0 n).1 n v) (zH cn pl c0) (pl n) 4)) (b := (zA cn pl (zSeq cn pl c0 n).1 (zH cn pl c0) (pl n) 4)) (by omega) (by omega) cb4
                    refine lv_iconst (v := nI 1) hx hb dX2_chooseServices_87 (by decide) ?_
                    refine lv_goto (tgt := 92) hx hb dX2_chooseServices_88 (by decide) ?_
                    refine lv_istore (lv' := [(5, .int (nI 1)), (0, .ref P), (1, .int (nI n)), (2, .int ((-1 : Int32))), (3, .int (nI (zA cn pl (zSeq cn pl c0 n).1 (zH cn pl c0) (pl n) 4))), (4, .int (nI ((zSeq cn pl c0 n).1 n))), (6, .int (nI v))]) hx hb dX2_chooseServices_92 hl (by decide) rfl (fun ls hl => ?_)
                    refine lv_aload_n hx hb dX2_chooseServices_94 rfl (lv_at hl 1 rfl) ?_
                    refine va_get (D := D) (ci := 2) (v := .ref p4) (C := RX2) (T := TX2) (N := 10) hx hb hts in_wsX2_chooseServices_X2 hown hK.1 hP 0 rfl rfl 5 (by decide) (hts _ lk127_wsX2_chooseServices) (fun _ h9 => h9) rfl dX2_chooseServices_95 ?_
                    refine lv_iload_n hx hb dX2_chooseServices_98 rfl (lv_at hl 2 rfl) ?_
                    refine lv_iload hx hb dX2_chooseServices_99 (lv_at hl 6 rfl) ?_
                    refine z_iast (g := upd sv2 n (nI v)) hx hb hK.1 hP hD hS 4 0 rfl rfl (k := n) (by omega) (by decide) (fun _ _ => rfl) dX2_chooseServices_101 (fun H locs hP hD hS => ?_)
                    have hP : va_P D vwCl [(P, .inr (2, [.ref g, .ref q, .ref p1, .ref p2, .ref p3, .ref p4, .int (nI cn), .int ln, .int kn, .int th])), (p1, .inl (cy.1, 12, .inl pl)), (p2, .inl (cy.1, 12, .inl (upd ch2 n (nI ((zSeq cn pl c0 n).1 n &&& 2 ^ v))))), (p3, .inl (cy.1, 48, .inl hbA)), (p4, .inl (cy.1, 12, .inl (upd sv2 n (nI v)))), (q, .inr (3, [.ref a, .ref b, .int ty, .int (nI cn)]))] H := hP
                    have hD : va_D (zIn [(P, .inr (2, [.ref g, .ref q, .ref p1, .ref p2, .ref p3, .ref p4, .int (nI cn), .int ln, .int kn, .int th])), (p1, .inl (cy.1, 12, .inl pl)), (p2, .inl (cy.1, 12, .inl chA)), (p3, .inl (cy.1, 48, .inl hbA)), (p4, .inl (cy.1, 12, .inl svA)), (q, .inr (3, [.ref a, .ref b, .int ty, .int (nI cn)]))]) [(P, .inr (2, [.ref g, .ref q, .ref p1, .ref p2, .ref p3, .ref p4, .int (nI cn), .int ln, .int kn, .int th])), (p1, .inl (cy.1, 12, .inl pl)), (p2, .inl (cy.1, 12, .inl (upd ch2 n (nI ((zSeq cn pl c0 n).1 n &&& 2 ^ v))))), (p3, .inl (cy.1, 48, .inl hbA)), (p4, .inl (cy.1, 12, .inl (upd sv2 n (nI v)))), (q, .inr (3, [.ref a, .ref b, .int ty, .int (nI cn)]))] := hD
                    refine lv_iinc (v := nI (v + 1)) (lv' := [(6, .int (nI (v + 1))), (5, .int (nI 1)), (0, .ref P), (1, .int (nI n)), (2, .int ((-1 : Int32))), (3, .int (nI (zA cn pl (zSeq cn pl c0 n).1 (zH cn pl c0) (pl n) 4))), (4, .int (nI ((zSeq cn pl c0 n).1 n)))]) hx hb dX2_chooseServices_102 hl (k := 6) rfl (z_inc _) (by decide) rfl (fun ls hl => ?_)
                    refine lv_goto (tgt := 47) hx hb dX2_chooseServices_105 (by decide) ?_
                    exact ih_li (v + 1) true (upd ch2 n (nI ((zSeq cn pl c0 n).1 n &&& 2 ^ v))) (upd sv2 n (nI v)) (by omega) (by omega) (fun z => absurd z (by decide)) (fun _ => ⟨by omega, by rw [Nat.add_sub_cancel]; exact cb4, fun t ht => hno hA0 t (by omega)⟩) (fun k hk hkn => by unfold upd; rw [if_neg hkn]; exact hch2 k hk hkn) (fun k hk => by unfold upd; rw [if_neg (by omega)]; exact hsv2 k hk) (fun _ => by unfold upd; rw [if_pos rfl, if_pos rfl, Nat.add_sub_cancel]; exact ⟨rfl, rfl⟩) _ _ _ hP hD hS (lv_sub hl [2, 3, 4, 5, 6, 1, 0] rfl)
          exact li (5) 0 false ch1 sv1 (by omega) (by omega) (fun _ t ht => absurd ht (by omega)) (fun z => absurd z (by decide)) (fun k hk _ => hch1 k hk) hsv1 (fun z => absurd z (by omega)) _ _ _ hP hD hS (lv_sub hl [5, 6, 4, 3, 2, 1, 0] rfl)
        · have ehm : zHome pl (zSeq cn pl c0 n).2 n = zSV cn pl c0 r := (zHome_at (by omega) hpl).trans (zSeq_sv cn pl c0 n r hrn)
          refine lv_aload_n hx hb dX2_chooseServices_10 rfl (lv_at hl 0 rfl) ?_
          refine lv_aload_n hx hb dX2_chooseServices_11 rfl (lv_at hl 0 rfl) ?_
          refine va_get (D := D) (ci := 2) (v := .ref p1) (C := RX2) (T := TX2) (N := 10) hx hb hts in_wsX2_chooseServices_X2 hown hK.1 hP 0 rfl rfl 2 (by decide) (hts _ lk122_wsX2_chooseServices) (fun _ h9 => h9) rfl dX2_chooseServices_12 ?_
          refine lv_iload_n hx hb dX2_chooseServices_15 rfl (lv_at hl 1 rfl) ?_
          refine z_iald (v := nI r) hx hb hK.1 hP 1 0 rfl rfl (k := n) (by omega) (by decide) hpl dX2_chooseServices_16 ?_
          refine z_callV (b := P) (As := [.int (nI r)]) (rest := []) ⟨hx, hb, hml, hown, hts⟩ hK hP hS (c_X2_serviceOf (i := 0) (i4 := 4) (iq := 5) rfl rfl rfl hcn (k := r) (by omega)) (cwV 1 hts gX2_chooseServices_X2_serviceOf rfl rfl rfl k_yX2_serviceOf ⟨Nat.le_of_ble_eq_true rfl, Nat.le_of_ble_eq_true rfl⟩) 0 2 rfl rfl rfl rfl hl.1 rfl rfl dX2_chooseServices_17 ⟨Nat.le_of_ble_eq_true rfl, Nat.le_of_ble_eq_true rfl⟩ (fun H locs hP hS => ?_)
          refine z_top (y := nI (zSV cn pl c0 r)) (hsv1 r hrn) ?_
          refine lv_istore_n (lv' := [(2, .int (nI (zSV cn pl c0 r))), (0, .ref P), (1, .int (nI n))]) hx hb dX2_chooseServices_20 rfl hl (by decide) rfl (fun ls hl => ?_)
          refine lv_aload_n hx hb dX2_chooseServices_21 rfl (lv_at hl 1 rfl) ?_
          refine lv_aload_n hx hb dX2_chooseServices_22 rfl (lv_at hl 1 rfl) ?_
          refine va_get (D := D) (ci := 2) (v := .ref p1) (C := RX2) (T := TX2) (N := 10) hx hb hts in_wsX2_chooseServices_X2 hown hK.1 hP 0 rfl rfl 2 (by decide) (hts _ lk122_wsX2_chooseServices) (fun _ h9 => h9) rfl dX2_chooseServices_23 ?_
          refine lv_iload_n hx hb dX2_chooseServices_26 rfl (lv_at hl 2 rfl) ?_
          refine z_iald (v := pl n) hx hb hK.1 hP 1 0 rfl rfl (k := n) (by omega) (by decide) rfl dX2_chooseServices_27 ?_
          refine lv_iload_n hx hb dX2_chooseServices_28 rfl (lv_at hl 0 rfl) ?_
          refine z_callV (b := P) (As := [.int (pl n), .int (nI (zSV cn pl c0 r))]) (rest := []) ⟨hx, hb, hml, hown, hts⟩ hK hP hS (c_X2_hopsAt_h (i := 0) (i1 := 1) (i2 := 2) (i3 := 3) rfl rfl rfl rfl (ch := (zSeq cn pl c0 n).1) (x := pl n) hcn (fun k hk => ⟨hch1 k hk, hlt16 k hk⟩) (fun k hk _ v hv => ⟨hhb k hk v hv, zH_cap hT hcn hk v⟩) (zSV_lt cn pl c0 r)) (cwV 2 hts gX2_chooseServices_X2_hopsAt rfl rfl rfl k_yX2_hopsAt ⟨Nat.le_of_ble_eq_true rfl, Nat.le_of_ble_eq_true rfl⟩) 0 2 rfl rfl rfl rfl hl.1 rfl rfl dX2_chooseServices_29 ⟨Nat.le_of_ble_eq_true rfl, Nat.le_of_ble_eq_true rfl⟩ (fun H locs hP hS => ?_)
          refine lv_istore_n (lv' := [(3, .int (nI (zA cn pl (zSeq cn pl c0 n).1 (zH cn pl c0) (pl n) (zSV cn pl c0 r)))), (2, .int (nI (zSV cn pl c0 r))), (0, .ref P), (1, .int (nI n))]) hx hb dX2_chooseServices_32 rfl hl (by decide) rfl (fun ls hl => ?_)
          refine lv_aload_n hx hb dX2_chooseServices_33 rfl (lv_at hl 2 rfl) ?_
          refine va_get (D := D) (ci := 2) (v := .ref p2) (C := RX2) (T := TX2) (N := 10) hx hb hts in_wsX2_chooseServices_X2 hown hK.1 hP 0 rfl rfl 3 (by decide) (hts _ lk124_wsX2_chooseServices) (fun _ h9 => h9) rfl dX2_chooseServices_34 ?_
          refine lv_iload_n hx hb dX2_chooseServices_37 rfl (lv_at hl 3 rfl) ?_
          refine z_iald (v := nI ((zSeq cn pl c0 n).1 n)) hx hb hK.1 hP 2 0 rfl rfl (k := n) (by omega) (by decide) (hch1 n (by omega)) dX2_chooseServices_38 ?_
          refine lv_istore (lv' := [(4, .int (nI ((zSeq cn pl c0 n).1 n))), (3, .int (nI (zA cn pl (zSeq cn pl c0 n).1 (zH cn pl c0) (pl n) (zSV cn pl c0 r)))), (2, .int (nI (zSV cn pl c0 r))), (0, .ref P), (1, .int (nI n))]) hx hb dX2_chooseServices_39 hl (by decide) rfl (fun ls hl => ?_)
          refine lv_iconst (v := nI 0) hx hb dX2_chooseServices_41 (by decide) ?_
          refine lv_istore (lv' := [(5, .int (nI 0)), (4, .int (nI ((zSeq cn pl c0 n).1 n))), (3, .int (nI (zA cn pl (zSeq cn pl c0 n).1 (zH cn pl c0) (pl n) (zSV cn pl c0 r)))), (2, .int (nI (zSV cn pl c0 r))), (0, .ref P), (1, .int (nI n))]) hx hb dX2_chooseServices_42 hl (by decide) rfl (fun ls hl => ?_)
          refine lv_iconst (v := nI 0) hx hb dX2_chooseServices_44 (by decide) ?_
          refine lv_istore (lv' := [(6, .int (nI 0)), (5, .int (nI 0)), (4, .int (nI ((zSeq cn pl c0 n).1 n))), (3, .int (nI (zA cn pl (zSeq cn pl c0 n).1 (zH cn pl c0) (pl n) (zSV cn pl c0 r)))), (2, .int (nI (zSV cn pl c0 r))), (0, .ref P), (1, .int (nI n))]) hx hb dX2_chooseServices_45 hl (by decide) rfl (fun ls hl => ?_)
          have li : ∀ (fuel : Nat) (v : Nat) (A : Bool) (ch2 sv2 : Nat → Int32), 5 ≤ v + fuel → v ≤ 4 → (A = false → ∀ t, t < v → ¬ (zA cn pl (zTry (zSeq cn pl c0 n).1 n t) (zH cn pl c0) (pl n) (zSV cn pl c0 r) = zA cn pl (zSeq cn pl c0 n).1 (zH cn pl c0) (pl n) (zSV cn pl c0 r))) → (A = true → 1 ≤ v ∧ zA cn pl (zTry (zSeq cn pl c0 n).1 n (v - 1)) (zH cn pl c0) (pl n) (zSV cn pl c0 r) = zA cn pl (zSeq cn pl c0 n).1 (zH cn pl c0) (pl n) (zSV cn pl c0 r) ∧ ∀ t, t < v - 1 → ¬ (zA cn pl (zTry (zSeq cn pl c0 n).1 n t) (zH cn pl c0) (pl n) (zSV cn pl c0 r) = zA cn pl (zSeq cn pl c0 n).1 (zH cn pl c0) (pl n) (zSV cn pl c0 r))) → (∀ k, k < cn → k ≠ n → ch2 k = nI ((zSeq cn pl c0 n).1 k)) → (∀ k, k < n → sv2 k = nI (zSV cn pl c0 k)) → (1 ≤ v → ch2 n = nI ((zSeq cn pl c0 n).1 n &&& 2 ^ (v - 1)) ∧ sv2 n = nI (v - 1)) → ∀ (H : Heap) (locs : List Loc) (ls : Array Slot), va_P D vwCl [(P, .inr (2, [.ref g, .ref q, .ref p1, .ref p2, .ref p3, .ref p4, .int (nI cn), .int ln, .int kn, .int th])), (p1, .inl (cy.1, 12, .inl pl)), (p2, .inl (cy.1, 12, .inl ch2)), (p3, .inl (cy.1, 48, .inl hbA)), (p4, .inl (cy.1, 12, .inl sv2)), (q, .inr (3, [.ref a, .ref b, .int ty, .int (nI cn)]))] H → va_D (zIn [(P, .inr (2, [.ref g, .ref q, .ref p1, .ref p2, .ref p3, .ref p4, .int (nI cn), .int ln, .int kn, .int th])), (p1, .inl (cy.1, 12, .inl pl)), (p2, .inl (cy.1, 12, .inl chA)), (p3, .inl (cy.1, 48, .inl hbA)), (p4, .inl (cy.1, 12, .inl svA)), (q, .inr (3, [.ref a, .ref b, .int ty, .int (nI cn)]))]) [(P, .inr (2, [.ref g, .ref q, .ref p1, .ref p2, .ref p3, .ref p4, .int (nI cn), .int ln, .int kn, .int th])), (p1, .inl (cy.1, 12, .inl pl)), (p2, .inl (cy.1, 12, .inl ch2)), (p3, .inl (cy.1, 48, .inl hbA)), (p4, .inl (cy.1, 12, .inl sv2)), (q, .inr (3, [.ref a, .ref b, .int ty, .int (nI cn)]))] → va_S (zIn [(P, .inr (2, [.ref g, .ref q, .ref p1, .ref p2, .ref p3, .ref p4, .int (nI cn), .int ln, .int kn, .int th])), (p1, .inl (cy.1, 12, .inl pl)), (p2, .inl (cy.1, 12, .inl chA)), (p3, .inl (cy.1, 48, .inl hbA)), (p4, .inl (cy.1, 12, .inl svA)), (q, .inr (3, [.ref a, .ref b, .int ty, .int (nI cn)]))]) s.heap H locs → lv_has ls 7 [(0, .ref P), (1, .int (nI n)), (2, .int (nI (zSV cn pl c0 r))), (3, .int (nI (zA cn pl (zSeq cn pl c0 n).1 (zH cn pl c0) (pl n) (zSV cn pl c0 r)))), (4, .int (nI ((zSeq cn pl c0 n).1 n))), (5, .int (bI (A))), (6, .int (nI v))] → W p l e rmX2_chooseServices s m [.ref P].toArray below meth c H locs 0 0 (zVQ ((Nat → Int32) × (Nat → Int32)) D below [.ref P].toArray s [(P, .inr (2, [.ref g, .ref q, .ref p1, .ref p2, .ref p3, .ref p4, .int (nI cn), .int ln, .int kn, .int th])), (p1, .inl (cy.1, 12, .inl pl)), (p2, .inl (cy.1, 12, .inl chA)), (p3, .inl (cy.1, 48, .inl hbA)), (p4, .inl (cy.1, 12, .inl svA)), (q, .inr (3, [.ref a, .ref b, .int ty, .int (nI cn)]))] (fun u => ∀ n, n < cn → u.2 n = nI (zSV cn pl c0 n)) (fun u => [(P, .inr (2, [.ref g, .ref q, .ref p1, .ref p2, .ref p3, .ref p4, .int (nI cn), .int ln, .int kn, .int th])), (p1, .inl (cy.1, 12, .inl pl)), (p2, .inl (cy.1, 12, .inl u.1)), (p3, .inl (cy.1, 48, .inl hbA)), (p4, .inl (cy.1, 12, .inl u.2)), (q, .inr (3, [.ref a, .ref b, .int ty, .int (nI cn)]))])) (F0 m 47 ls []) := by
            intro fuel
            induction fuel with
            | zero => intro v A ch2 sv2 hfu hv hno hyes hch2 hsv2 hat; exact absurd hfu (by omega)
            | succ fuel ih_li =>
              intro v A ch2 sv2 hfu hv hno hyes hch2 hsv2 hat H locs ls hP hD hS hl
              refine lv_iload hx hb dX2_chooseServices_47 (lv_at hl 6 rfl) ?_
              refine lv_iconst (v := nI 4) hx hb dX2_chooseServices_49 (by decide) ?_
              refine lv_icmp_ge (tgt := 108) hx hb dX2_chooseServices_50 (by decide) (fun cb5 => ?_) (fun cb5 => ?_)
              · have cb5 : 4 ≤ v := zn_ge_t (a := v) (b := 4) (by omega) (by omega) cb5
                have hgd : ∀ t, zGood cn pl c0 (zSeq cn pl c0 n).1 (zSeq cn pl c0 n).2 n t = decide (zA cn pl (zTry (zSeq cn pl c0 n).1 n t) (zH cn pl c0) (pl n) (zSV cn pl c0 r) = zA cn pl (zSeq cn pl c0 n).1 (zH cn pl c0) (pl n) (zSV cn pl c0 r)) := fun t => by unfold zGood; rw [ehm]
                have hpk : zSV cn pl c0 n = v - 1 ∧ 1 ≤ v := by
                  obtain rfl : v = 4 := (by omega)
                  refine ⟨?_, by omega⟩
                  cases A with
                  | true =>
                    obtain ⟨_, y2, y3⟩ := hyes rfl
                    exact zPick_eq (by omega) (by rw [hgd]; exact decide_eq_true y2) (fun t ht hb => y3 t ht (by rw [hgd] at hb; exact of_decide_eq_true hb))
                  | false =>
                    have hno4 := hno rfl
                    have hf : ∀ t, t < 4 → ¬ zGood cn pl c0 (zSeq cn pl c0 n).1 (zSeq cn pl c0 n).2 n t = true := fun t ht hb => hno4 t ht (by rw [hgd] at hb; exact of_decide_eq_true hb)
                    show zPick _ = 3
                    unfold zPick
                    rw [if_neg (hf 0 (by omega)), if_neg (hf 1 (by omega)), if_neg (hf 2 (by omega))]
                obtain ⟨hat1, hat2⟩ := hat hpk.2
                have hsv3n : sv2 n = nI (zSV cn pl c0 n) := by rw [hat2, hpk.1]
                have hch3 : ∀ k, k < cn → ch2 k = nI ((zSeq cn pl c0 (n + 1)).1 k) := fun k hk => by
                  show _ = nI (zTry (zSeq cn pl c0 n).1 n (zSV cn pl c0 n) k)
                  unfold zTry va_up
                  by_cases e : k = n
                  · subst e; rw [if_pos rfl, hat1, hpk.1]
                  · rw [if_neg e]; exact hch2 k hk e
                refine lv_iinc (v := nI (n + 1)) (lv' := [(1, .int (nI (n + 1))), (0, .ref P), (2, .int (nI (zSV cn pl c0 r))), (3, .int (nI (zA cn pl (zSeq cn pl c0 n).1 (zH cn pl c0) (pl n) (zSV cn pl c0 r)))), (4, .int (nI ((zSeq cn pl c0 n).1 n))), (5, .int (bI (A))), (6, .int (nI v))]) hx hb dX2_chooseServices_108 hl (k := 1) rfl (z_inc _) (by decide) rfl (fun ls hl => ?_)
                refine lv_goto (tgt := 2) hx hb dX2_chooseServices_111 (by decide) ?_
                exact ih_lo (n + 1) ch2 sv2 (by omega) (by omega) hch3 (lt_s hsv2 hsv3n) _ _ _ hP hD hS (lv_sub hl [1, 0] rfl)
              · have cb5 : ¬ (4 ≤ v) := zn_ge_f (a := v) (b := 4) (by omega) (by omega) cb5
                refine lv_iload hx hb dX2_chooseServices_53 (lv_at hl 5 rfl) ?_
                refine lv_if_ne (tgt := 108) hx hb dX2_chooseServices_55 (by decide) (fun cb6 => ?_) (fun cb6 => ?_)
                · have cb6 : (A) = true := bI_f0 cb6
                  have hgd : ∀ t, zGood cn pl c0 (zSeq cn pl c0 n).1 (zSeq cn pl c0 n).2 n t = decide (zA cn pl (zTry (zSeq cn pl c0 n).1 n t) (zH cn pl c0) (pl n) (zSV cn pl c0 r) = zA cn pl (zSeq cn pl c0 n).1 (zH cn pl c0) (pl n) (zSV cn pl c0 r)) := fun t => by unfold zGood; rw [ehm]
                  have hpk : zSV cn pl c0 n = v - 1 ∧ 1 ≤ v := by
                    obtain ⟨y1, y2, y3⟩ := hyes cb6
                    refine ⟨?_, y1⟩
                    exact zPick_eq (by omega) (by rw [hgd]; exact decide_eq_true y2) (fun t ht hb => y3 t ht (by rw [hgd] at hb; exact of_decide_eq_true hb))
                  obtain ⟨hat1, hat2⟩ := hat hpk.2
                  have hsv3n : sv2 n = nI (zSV cn pl c0 n) := by rw [hat2, hpk.1]
                  have hch3 : ∀ k, k < cn → ch2 k = nI ((zSeq cn pl c0 (n + 1)).1 k) := fun k hk => by
                    show _ = nI (zTry (zSeq cn pl c0 n).1 n (zSV cn pl c0 n) k)
                    unfold zTry va_up
                    by_cases e : k = n
                    · subst e; rw [if_pos rfl, hat1, hpk.1]
                    · rw [if_neg e]; exact hch2 k hk e
                  refine lv_iinc (v := nI (n + 1)) (lv' := [(1, .int (nI (n + 1))), (0, .ref P), (2, .int (nI (zSV cn pl c0 r))), (3, .int (nI (zA cn pl (zSeq cn pl c0 n).1 (zH cn pl c0) (pl n) (zSV cn pl c0 r)))), (4, .int (nI ((zSeq cn pl c0 n).1 n))), (5, .int (bI (A))), (6, .int (nI v))]) hx hb dX2_chooseServices_108 hl (k := 1) rfl (z_inc _) (by decide) rfl (fun ls hl => ?_)
                  refine lv_goto (tgt := 2) hx hb dX2_chooseServices_111 (by decide) ?_
                  exact ih_lo (n + 1) ch2 sv2 (by omega) (by omega) hch3 (lt_s hsv2 hsv3n) _ _ _ hP hD hS (lv_sub hl [1, 0] rfl)
                · have cb6 : (A) = false := bI_t0 cb6
                  have hA0 := cb6
                  refine lv_aload_n hx hb dX2_chooseServices_58 rfl (lv_at hl 0 rfl) ?_
                  refine va_get (D := D) (ci := 2) (v := .ref p2) (C := RX2) (T := TX2) (N := 10) hx hb hts in_wsX2_chooseServices_X2 hown hK.1 hP 0 rfl rfl 3 (by decide) (hts _ lk124_wsX2_chooseServices) (fun _ h9 => h9) rfl dX2_chooseServices_59 ?_
                  refine lv_iload_n hx hb dX2_chooseServices_62 rfl (lv_at hl 1 rfl) ?_
                  refine lv_iload hx hb dX2_chooseServices_63 (lv_at hl 4 rfl) ?_
                  refine lv_iload hx hb dX2_chooseServices_65 (lv_at hl 6 rfl) ?_
                  refine z_callSN (As := [.int (nI v)]) (rest := [.int (nI ((zSeq cn pl c0 n).1 n)), .int (nI n), .ref p2]) ⟨hx, hb, hml, hown, hts⟩ hK hP hS (c_X4_bit (k := v) (by omega)) ⟨va_cnB 1 hts gX2_chooseServices_X4_bit_n90 rfl rfl rfl hK.2.2.2.2.2.2.1 (hts _ lk125_wsX2_chooseServices) k_yX4_bit ⟨Nat.le_of_ble_eq_true rfl, Nat.le_of_ble_eq_true rfl⟩, hts _ lk126_wsX2_chooseServices, trivial⟩ rfl hl.1 rfl rfl dX2_chooseServices_67 ⟨Nat.le_of_ble_eq_true rfl, Nat.le_of_ble_eq_true rfl⟩ (fun H locs hP hS => ?_)
                  refine lv_iand hx hb dX2_chooseServices_70 ?_
                  refine z_top (y := nI ((zSeq cn pl c0 n).1 n &&& 2 ^ v)) (z_and16 _ (hlt16 n (by omega)) _ (z_pow16 v (by omega))) ?_
                  refine z_iast (g := upd ch2 n (nI ((zSeq cn pl c0 n).1 n &&& 2 ^ v))) hx hb hK.1 hP hD hS 2 0 rfl rfl (k := n) (by omega) (by decide) (fun _ _ => rfl) dX2_chooseServices_71 (fun H locs hP hD hS => ?_)
                  have hP : va_P D vwCl [(P, .inr (2, [.ref g, .ref q, .ref p1, .ref p2, .ref p3, .ref p4, .int (nI cn), .int ln, .int kn, .int th])), (p1, .inl (cy.1, 12, .inl pl)), (p2, .inl (cy.1, 12, .inl (upd ch2 n (nI ((zSeq cn pl c0 n).1 n &&& 2 ^ v))))), (p3, .inl (cy.1, 48, .inl hbA)), (p4, .inl (cy.1, 12, .inl sv2)), (q, .inr (3, [.ref a, .ref b, .int ty, .int (nI cn)]))] H := hP
                  have hD : va_D (zIn [(P, .inr (2, [.ref g, .ref q, .ref p1, .ref p2, .ref p3, .ref p4, .int (nI cn), .int ln, .int kn, .int th])), (p1, .inl (cy.1, 12, .inl pl)), (p2, .inl (cy.1, 12, .inl chA)), (p3, .inl (cy.1, 48, .inl hbA)), (p4, .inl (cy.1, 12, .inl svA)), (q, .inr (3, [.ref a, .ref b, .int ty, .int (nI cn)]))]) [(P, .inr (2, [.ref g, .ref q, .ref p1, .ref p2, .ref p3, .ref p4, .int (nI cn), .int ln, .int kn, .int th])), (p1, .inl (cy.1, 12, .inl pl)), (p2, .inl (cy.1, 12, .inl (upd ch2 n (nI ((zSeq cn pl c0 n).1 n &&& 2 ^ v))))), (p3, .inl (cy.1, 48, .inl hbA)), (p4, .inl (cy.1, 12, .inl sv2)), (q, .inr (3, [.ref a, .ref b, .int ty, .int (nI cn)]))] := hD
                  have hchT : ∀ k, k < cn → upd ch2 n (nI ((zSeq cn pl c0 n).1 n &&& 2 ^ v)) k = nI (zTry (zSeq cn pl c0 n).1 n v k) ∧ zTry (zSeq cn pl c0 n).1 n v k < 16 := fun k hk => by
                    unfold upd zTry va_up
                    by_cases e : k = n
                    · subst e; rw [if_pos rfl, if_pos rfl]; exact ⟨rfl, z_andlt _ (hlt16 k hk)⟩
                    · rw [if_neg e, if_neg e]; exact ⟨hch2 k hk e, hlt16 k hk⟩
                  refine lv_aload_n hx hb dX2_chooseServices_72 rfl (lv_at hl 0 rfl) ?_
                  refine lv_aload_n hx hb dX2_chooseServices_73 rfl (lv_at hl 0 rfl) ?_
                  refine va_get (D := D) (ci := 2) (v := .ref p1) (C := RX2) (T := TX2) (N := 10) hx hb hts in_wsX2_chooseServices_X2 hown hK.1 hP 0 rfl rfl 2 (by decide) (hts _ lk122_wsX2_chooseServices) (fun _ h9 => h9) rfl dX2_chooseServices_74 ?_
                  refine lv_iload_n hx hb dX2_chooseServices_77 rfl (lv_at hl 1 rfl) ?_
                  refine z_iald (v := pl n) hx hb hK.1 hP 1 0 rfl rfl (k := n) (by omega) (by decide) rfl dX2_chooseServices_78 ?_
                  refine lv_iload_n hx hb dX2_chooseServices_79 rfl (lv_at hl 2 rfl) ?_
                  refine z_callV (b := P) (As := [.int (pl n), .int (nI (zSV cn pl c0 r))]) (rest := []) ⟨hx, hb, hml, hown, hts⟩ hK hP hS (c_X2_hopsAt_h (i := 0) (i1 := 1) (i2 := 2) (i3 := 3) rfl rfl rfl rfl (ch := (zTry (zSeq cn pl c0 n).1 n v)) (x := pl n) hcn hchT (fun k hk _ v hv => ⟨hhb k hk v hv, zH_cap hT hcn hk v⟩) (zSV_lt cn pl c0 r)) (cwV 2 hts gX2_chooseServices_X2_hopsAt rfl rfl rfl k_yX2_hopsAt ⟨Nat.le_of_ble_eq_true rfl, Nat.le_of_ble_eq_true rfl⟩) 0 2 rfl rfl rfl rfl hl.1 rfl rfl dX2_chooseServices_80 ⟨Nat.le_of_ble_eq_true rfl, Nat.le_of_ble_eq_true rfl⟩ (fun H locs hP hS => ?_)
                  refine lv_iload_n hx hb dX2_chooseServices_83 rfl (lv_at hl 3 rfl) ?_
                  have hca := @zA_cap cn pl (zTry (zSeq cn pl c0 n).1 n v) (zH cn pl c0) (pl n) (zSV cn pl c0 r)
                  have hcb := @zA_cap cn pl (zSeq cn pl c0 n).1 (zH cn pl c0) (pl n) (zSV cn pl c0 r)
                  refine lv_icmp_ne (tgt := 91) hx hb dX2_chooseServices_84 (by decide) (fun cb7 => ?_) (fun cb7 => ?_)
                  · have cb7 : ¬ ((zA cn pl (zTry (zSeq cn pl c0 n).1 n v) (zH cn pl c0) (pl n) (zSV cn pl c0 r)) = (zA cn pl (zSeq cn pl c0 n).1 (zH cn pl c0) (pl n) (zSV cn pl c0 r))) := zn_ne_f (a := (zA cn pl (zTry (zSeq cn pl c0 n).1 n v) (zH cn pl c0) (pl n) (zSV cn pl c0 r))) (b := (zA cn pl (zSeq cn pl c0 n).1 (zH cn pl c0) (pl n) (zSV cn pl c0 r))) (by omega) (by omega) cb7
                    refine lv_iconst (v := nI 0) hx hb dX2_chooseServices_91 (by decide) ?_
                    refine lv_istore (lv' := [(5, .int (nI 0)), (0, .ref P), (1, .int (nI n)), (2, .int (nI (zSV cn pl c0 r))), (3, .int (nI (zA cn pl (zSeq cn pl c0 n).1 (zH cn pl c0) (pl n) (zSV cn pl c0 r)))), (4, .int (nI ((zSeq cn pl c0 n).1 n))), (6, .int (nI v))]) hx hb dX2_chooseServices_92 hl (by decide) rfl (fun ls hl => ?_)
                    refine lv_aload_n hx hb dX2_chooseServices_94 rfl (lv_at hl 1 rfl) ?_
                    refine va_get (D := D) (ci := 2) (v := .ref p4) (C := RX2) (T := TX2) (N := 10) hx hb hts in_wsX2_chooseServices_X2 hown hK.1 hP 0 rfl rfl 5 (by decide) (hts _ lk127_wsX2_chooseServices) (fun _ h9 => h9) rfl dX2_chooseServices_95 ?_
                    refine lv_iload_n hx hb dX2_chooseServices_98 rfl (lv_at hl 2 rfl) ?_
                    refine lv_iload hx hb dX2_chooseServices_99 (lv_at hl 6 rfl) ?_
                    refine z_iast (g := upd sv2 n (nI v)) hx hb hK.1 hP hD hS 4 0 rfl rfl (k := n) (by omega) (by decide) (fun _ _ => rfl) dX2_chooseServices_101 (fun H locs hP hD hS => ?_)
                    have hP : va_P D vwCl [(P, .inr (2, [.ref g, .ref q, .ref p1, .ref p2, .ref p3, .ref p4, .int (nI cn), .int ln, .int kn, .int th])), (p1, .inl (cy.1, 12, .inl pl)), (p2, .inl (cy.1, 12, .inl (upd ch2 n (nI ((zSeq cn pl c0 n).1 n &&& 2 ^ v))))), (p3, .inl (cy.1, 48, .inl hbA)), (p4, .inl (cy.1, 12, .inl (upd sv2 n (nI v)))), (q, .inr (3, [.ref a, .ref b, .int ty, .int (nI cn)]))] H := hP
                    have hD : va_D (zIn [(P, .inr (2, [.ref g, .ref q, .ref p1, .ref p2, .ref p3, .ref p4, .int (nI cn), .int ln, .int kn, .int th])), (p1, .inl (cy.1, 12, .inl pl)), (p2, .inl (cy.1, 12, .inl chA)), (p3, .inl (cy.1, 48, .inl hbA)), (p4, .inl (cy.1, 12, .inl svA)), (q, .inr (3, [.ref a, .ref b, .int ty, .int (nI cn)]))]) [(P, .inr (2, [.ref g, .ref q, .ref p1, .ref p2, .ref p3, .ref p4, .int (nI cn), .int ln, .int kn, .int th])), (p1, .inl (cy.1, 12, .inl pl)), (p2, .inl (cy.1, 12, .inl (upd ch2 n (nI ((zSeq cn pl c0 n).1 n &&& 2 ^ v))))), (p3, .inl (cy.1, 48, .inl hbA)), (p4, .inl (cy.1, 12, .inl (upd sv2 n (nI v)))), (q, .inr (3, [.ref a, .ref b, .int ty, .int (nI cn)]))] := hD
                    refine lv_iinc (v := nI (v + 1)) (lv' := [(6, .int (nI (v + 1))), (5, .int (nI 0)), (0, .ref P), (1, .int (nI n)), (2, .int (nI (zSV cn pl c0 r))), (3, .int (nI (zA cn pl (zSeq cn pl c0 n).1 (zH cn pl c0) (pl n) (zSV cn pl c0 r)))), (4, .int (nI ((zSeq cn pl c0 n).1 n)))]) hx hb dX2_chooseServices_102 hl (k := 6) rfl (z_inc _) (by decide) rfl (fun ls hl => ?_)
                    refine lv_goto (tgt := 47) hx hb dX2_chooseServices_105 (by decide) ?_
                    exact ih_li (v + 1) false (upd ch2 n (nI ((zSeq cn pl c0 n).1 n &&& 2 ^ v))) (upd sv2 n (nI v)) (by omega) (by omega) (fun _ => lt_s (hno hA0) cb7) (fun z => absurd z (by decide)) (fun k hk hkn => by unfold upd; rw [if_neg hkn]; exact hch2 k hk hkn) (fun k hk => by unfold upd; rw [if_neg (by omega)]; exact hsv2 k hk) (fun _ => by unfold upd; rw [if_pos rfl, if_pos rfl, Nat.add_sub_cancel]; exact ⟨rfl, rfl⟩) _ _ _ hP hD hS (lv_sub hl [2, 3, 4, 5, 6, 1, 0] rfl)
                  · have cb7 : (zA cn pl (zTry (zSeq cn pl c0 n).1 n v) (zH cn pl c0) (pl n) (zSV cn pl c0 r)) = (zA cn pl (zSeq cn pl c0 n).1 (zH cn pl c0) (pl n) (zSV cn pl c0 r)) := zn_ne_t (a := (zA cn pl (zTry (zSeq cn pl c0 n).1 n v) (zH cn pl c0) (pl n) (zSV cn pl c0 r))) (b := (zA cn pl (zSeq cn pl c0 n).1 (zH cn pl c0) (pl n) (zSV cn pl c0 r))) (by omega) (by omega) cb7
                    refine lv_iconst (v := nI 1) hx hb dX2_chooseServices_87 (by decide) ?_
                    refine lv_goto (tgt := 92) hx hb dX2_chooseServices_88 (by decide) ?_
                    refine lv_istore (lv' := [(5, .int (nI 1)), (0, .ref P), (1, .int (nI n)), (2, .int (nI (zSV cn pl c0 r))), (3, .int (nI (zA cn pl (zSeq cn pl c0 n).1 (zH cn pl c0) (pl n) (zSV cn pl c0 r)))), (4, .int (nI ((zSeq cn pl c0 n).1 n))), (6, .int (nI v))]) hx hb dX2_chooseServices_92 hl (by decide) rfl (fun ls hl => ?_)
                    refine lv_aload_n hx hb dX2_chooseServices_94 rfl (lv_at hl 1 rfl) ?_
                    refine va_get (D := D) (ci := 2) (v := .ref p4) (C := RX2) (T := TX2) (N := 10) hx hb hts in_wsX2_chooseServices_X2 hown hK.1 hP 0 rfl rfl 5 (by decide) (hts _ lk127_wsX2_chooseServices) (fun _ h9 => h9) rfl dX2_chooseServices_95 ?_
                    refine lv_iload_n hx hb dX2_chooseServices_98 rfl (lv_at hl 2 rfl) ?_
                    refine lv_iload hx hb dX2_chooseServices_99 (lv_at hl 6 rfl) ?_
                    refine z_iast (g := upd sv2 n (nI v)) hx hb hK.1 hP hD hS 4 0 rfl rfl (k := n) (by omega) (by decide) (fun _ _ => rfl) dX2_chooseServices_101 (fun H locs hP hD hS => ?_)
                    have hP : va_P D vwCl [(P, .inr (2, [.ref g, .ref q, .ref p1, .ref p2, .ref p3, .ref p4, .int (nI cn), .int ln, .int kn, .int th])), (p1, .inl (cy.1, 12, .inl pl)), (p2, .inl (cy.1, 12, .inl (upd ch2 n (nI ((zSeq cn pl c0 n).1 n &&& 2 ^ v))))), (p3, .inl (cy.1, 48, .inl hbA)), (p4, .inl (cy.1, 12, .inl (upd sv2 n (nI v)))), (q, .inr (3, [.ref a, .ref b, .int ty, .int (nI cn)]))] H := hP
                    have hD : va_D (zIn [(P, .inr (2, [.ref g, .ref q, .ref p1, .ref p2, .ref p3, .ref p4, .int (nI cn), .int ln, .int kn, .int th])), (p1, .inl (cy.1, 12, .inl pl)), (p2, .inl (cy.1, 12, .inl chA)), (p3, .inl (cy.1, 48, .inl hbA)), (p4, .inl (cy.1, 12, .inl svA)), (q, .inr (3, [.ref a, .ref b, .int ty, .int (nI cn)]))]) [(P, .inr (2, [.ref g, .ref q, .ref p1, .ref p2, .ref p3, .ref p4, .int (nI cn), .int ln, .int kn, .int th])), (p1, .inl (cy.1, 12, .inl pl)), (p2, .inl (cy.1, 12, .inl (upd ch2 n (nI ((zSeq cn pl c0 n).1 n &&& 2 ^ v))))), (p3, .inl (cy.1, 48, .inl hbA)), (p4, .inl (cy.1, 12, .inl (upd sv2 n (nI v)))), (q, .inr (3, [.ref a, .ref b, .int ty, .int (nI cn)]))] := hD
                    refine lv_iinc (v := nI (v + 1)) (lv' := [(6, .int (nI (v + 1))), (5, .int (nI 1)), (0, .ref P), (1, .int (nI n)), (2, .int (nI (zSV cn pl c0 r))), (3, .int (nI (zA cn pl (zSeq cn pl c0 n).1 (zH cn pl c0) (pl n) (zSV cn pl c0 r)))), (4, .int (nI ((zSeq cn pl c0 n).1 n)))]) hx hb dX2_chooseServices_102 hl (k := 6) rfl (z_inc _) (by decide) rfl (fun ls hl => ?_)
                    refine lv_goto (tgt := 47) hx hb dX2_chooseServices_105 (by decide) ?_
                    exact ih_li (v + 1) true (upd ch2 n (nI ((zSeq cn pl c0 n).1 n &&& 2 ^ v))) (upd sv2 n (nI v)) (by omega) (by omega) (fun z => absurd z (by decide)) (fun _ => ⟨by omega, by rw [Nat.add_sub_cancel]; exact cb7, fun t ht => hno hA0 t (by omega)⟩) (fun k hk hkn => by unfold upd; rw [if_neg hkn]; exact hch2 k hk hkn) (fun k hk => by unfold upd; rw [if_neg (by omega)]; exact hsv2 k hk) (fun _ => by unfold upd; rw [if_pos rfl, if_pos rfl, Nat.add_sub_cancel]; exact ⟨rfl, rfl⟩) _ _ _ hP hD hS (lv_sub hl [2, 3, 4, 5, 6, 1, 0] rfl)
          exact li (5) 0 false ch1 sv1 (by omega) (by omega) (fun _ t ht => absurd ht (by omega)) (fun z => absurd z (by decide)) (fun k hk _ => hch1 k hk) hsv1 (fun z => absurd z (by omega)) _ _ _ hP hD hS (lv_sub hl [5, 6, 4, 3, 2, 1, 0] rfl)
  exact lo (cn + 1) 0 chA svA (by omega) (by omega) (fun k hk => (hch k hk).1) (fun k hk => absurd hk (by omega)) _ _ _ hP hD hS (lv_sub hl [1, 0] rfl)
theorem zHU_pl {pl pl' : Nat → Int32} {c : Nat → Nat} {h : Nat → Nat → Nat} {x : Int32} {S : Nat} : ∀ n, (∀ k, k < n → pl k = pl' k) → zHU pl c h x S n = zHU pl' c h x S n
  | 0, _ => rfl
  | n + 1, hp => by unfold zHU; rw [zHU_pl n (fun k hk => hp k (by omega)), hp n (by omega)]
theorem zA_pl {cn : Nat} {pl pl' : Nat → Int32} {c : Nat → Nat} {h : Nat → Nat → Nat} {x : Int32} {hm : Nat} (hp : ∀ k, k < cn → pl k = pl' k) : zA cn pl c h x hm = zA cn pl' c h x hm := by
  unfold zA
  exact zMin_congr 16 (fun S _ => by rw [zHU_pl cn hp])
theorem zHf_pl {cn : Nat} {pl pl' : Nat → Int32} {c : Nat → Nat} (hp : ∀ k, k < cn → pl k = pl' k) : ∀ k, zHf cn pl c k = zHf cn pl' c k
  | 0 => rfl
  | k + 1 => by
    funext n v
    show zA cn pl c (zHf cn pl c k) (nI n) v = zA cn pl' c (zHf cn pl' c k) (nI n) v
    rw [zHf_pl hp k, zA_pl hp]
theorem zH_pl {cn : Nat} {pl pl' : Nat → Int32} {c : Nat → Nat} (hp : ∀ k, k < cn → pl k = pl' k) : zH cn pl c = zH cn pl' c := zHf_pl hp 12
theorem zTot_pl {cn : Nat} {pl pl' : Nat → Int32} {c : Nat → Nat} (hp : ∀ k, k < cn → pl k = pl' k) : zTot cn pl c = zTot cn pl' c := by unfold zTot; rw [zH_pl hp, zA_pl hp]
theorem zSeq_pl {cn : Nat} {pl pl' : Nat → Int32} {c : Nat → Nat} (hp : ∀ k, k < cn → pl k = pl' k) : ∀ n, n ≤ cn → zSeq cn pl c n = zSeq cn pl' c n
  | 0, _ => rfl
  | n + 1, hn => by
    have ih := zSeq_pl (c := c) hp n (by omega)
    unfold zSeq
    have hg : zGood cn pl c (zSeq cn pl' c n).1 (zSeq cn pl' c n).2 n = zGood cn pl' c (zSeq cn pl' c n).1 (zSeq cn pl' c n).2 n := by
      funext v
      unfold zGood zHome
      rw [zH_pl hp, zA_pl hp, zA_pl (c := (zSeq cn pl' c n).1) hp, hp n (by omega)]
    rw [ih, hg]
theorem zSV_pl {cn : Nat} {pl pl' : Nat → Int32} {c : Nat → Nat} (hp : ∀ k, k < cn → pl k = pl' k) {n : Nat} (hn : n < cn) : zSV cn pl c n = zSV cn pl' c n := by
  have hg : zGood cn pl c (zSeq cn pl' c n).1 (zSeq cn pl' c n).2 n = zGood cn pl' c (zSeq cn pl' c n).1 (zSeq cn pl' c n).2 n := by
    funext v
    unfold zGood zHome
    rw [zH_pl hp, zA_pl hp, zA_pl (c := (zSeq cn pl' c n).1) hp, hp n hn]
  unfold zSV
  rw [zSeq_pl hp n (by omega), hg]
theorem zTree_pl {cn : Nat} {pl pl' : Nat → Int32} (hp : ∀ k, k < cn → pl k = pl' k) (hT : zTree cn pl') : zTree cn pl := fun n hn => by rw [hp n hn]; exact hT n hn
/-- there is a plan; what the class keeps of it -/
def zAll (nn : Nat) (sl ow : Nat → Nat) : Bool := decide (∀ n, n < nn → ow (sl n) ≠ 0)
def zKeep (nn : Nat) (ab : Nat → Int32) (sl ow : Nat → Nat) (th : Bool) (ln : Int32) (svA : Nat → Int32) : Prop := th = zAll nn sl ow ∧ (th = true → ln = nI (zTot nn ab (fun n => ow (sl n))) ∧ ∀ n, n < nn → svA n = nI (zSV nn ab (fun n => ow (sl n)) n))
theorem z_fitB {v : Int32} (h : v = 0 ∨ v = 1) : fits .boolean (.int v) = true := by rcases h with rfl | rfl <;> first | rfl | decide
set_option maxRecDepth 20000 in
theorem lk128_wsX2_find : Cond.fieldLink RX2 32 "QueryGateway$Plan" "known" "Z" ∈ wsX2_find := by decide +kernel
set_option maxRecDepth 20000 in
theorem in_wsX2_find_X2 : ∀ w ∈ wsX20, w ∈ wsX2_find := by decide +kernel
set_option maxRecDepth 20000 in
theorem lk130_wsX2_find : Cond.fieldLink RX2 40 "QueryGateway$Plan" "there" "Z" ∈ wsX2_find := by decide +kernel
theorem k_yX2_openChoices : yX2_openChoices.cls = RX2 ∧ yX2_openChoices.cls ≠ "java/lang/invoke/MethodHandle" ∧ yX2_openChoices.cls ≠ "java/lang/invoke/VarHandle" ∧ (parseMethodDescriptor yX2_openChoices.desc).map (fun d => d.parameters.length) = some 0 := by decide +kernel
theorem k_yX2_countHopsBelow : yX2_countHopsBelow.cls = RX2 ∧ yX2_countHopsBelow.cls ≠ "java/lang/invoke/MethodHandle" ∧ yX2_countHopsBelow.cls ≠ "java/lang/invoke/VarHandle" ∧ (parseMethodDescriptor yX2_countHopsBelow.desc).map (fun d => d.parameters.length) = some 0 := by decide +kernel
set_option maxRecDepth 20000 in
theorem lk133_wsX2_find : Cond.fieldLink RX2 50 "QueryGateway$Plan" "length" "I" ∈ wsX2_find := by decide +kernel
theorem k_yX2_chooseServices : yX2_chooseServices.cls = RX2 ∧ yX2_chooseServices.cls ≠ "java/lang/invoke/MethodHandle" ∧ yX2_chooseServices.cls ≠ "java/lang/invoke/VarHandle" ∧ (parseMethodDescriptor yX2_chooseServices.desc).map (fun d => d.parameters.length) = some 0 := by decide +kernel
abbrev rmX2_find : Room := { frames := 4, cells := 0, slots := 0, locals := 97 }
set_option maxHeartbeats 4000000 in
set_option maxRecDepth 100000 in
theorem c_X2_find {l : Launch} {D : va_G} {cy : zCy} {P g q p1 p2 p3 p4 a b a1 a2 a3 a4 a5 nn : Nat} {ty cnt ln fa : Int32} {kn th : Bool} {pl chA hbA svA ab : Nat → Int32} {sl ow : Nat → Nat} (hn : nn ≤ 12) (hsl : ∀ n, n < nn → sl n < 32) (how : ∀ n, n < nn → ow (sl n) < 16) (hT : zTree nn ab) (hk : kn = true → zKeep nn ab sl ow th ln svA) : zW (Int32 × Int32 × Bool × (Nat → Int32) × (Nat → Int32) × (Nat → Int32) × (Nat → Int32)) l yX2_find wsX2_find rmX2_find D cy [(P, .inr (2, [.ref g, .ref q, .ref p1, .ref p2, .ref p3, .ref p4, .int cnt, .int ln, .int (bI (kn)), .int (bI (th))])), (p1, .inl (cy.1, 12, .inl pl)), (p2, .inl (cy.1, 12, .inl chA)), (p3, .inl (cy.1, 48, .inl hbA)), (p4, .inl (cy.1, 12, .inl svA)), (q, .inr (3, [.ref a, .ref b, .int ty, .int (nI nn)])), (a, .inl (cy.1, 12, .inl ab)), (b, .inl (cy.1, 12, .inl (fun z => nI (sl z)))), (g, .inr (1, [.ref a1, .ref a2, .ref a3, .ref a4, .ref a5, .int fa])), (a4, .inl (cy.1, 32, .inl (fun z => nI (ow z))))] [.ref P] (fun r u => r = bI (zAll nn sl ow) ∧ zKeep nn ab sl ow u.2.2.1 u.2.1 u.2.2.2.2.2.2) (fun u => [(P, .inr (2, [.ref g, .ref q, .ref p1, .ref p2, .ref p3, .ref p4, .int u.1, .int u.2.1, .int (nI 1), .int (bI (u.2.2.1))])), (p1, .inl (cy.1, 12, .inl u.2.2.2.1)), (p2, .inl (cy.1, 12, .inl u.2.2.2.2.1)), (p3, .inl (cy.1, 48, .inl u.2.2.2.2.2.1)), (p4, .inl (cy.1, 12, .inl u.2.2.2.2.2.2)), (q, .inr (3, [.ref a, .ref b, .int ty, .int (nI nn)])), (a, .inl (cy.1, 12, .inl ab)), (b, .inl (cy.1, 12, .inl (fun z => nI (sl z)))), (g, .inr (1, [.ref a1, .ref a2, .ref a3, .ref a4, .ref a5, .int fa])), (a4, .inl (cy.1, 32, .inl (fun z => nI (ow z))))]) := by
  refine zW.of (cc := cX2_find) (maxL := 1) (ret := (some .boolean)) (by decide) rfl rfl ?_
  intro p e s m below meth c ls C hP hK hD hl
  obtain ⟨hx, hb, hr, hml, hts, hown, hlocks⟩ := C
  have hS : va_S (zIn [(P, .inr (2, [.ref g, .ref q, .ref p1, .ref p2, .ref p3, .ref p4, .int cnt, .int ln, .int (bI (kn)), .int (bI (th))])), (p1, .inl (cy.1, 12, .inl pl)), (p2, .inl (cy.1, 12, .inl chA)), (p3, .inl (cy.1, 48, .inl hbA)), (p4, .inl (cy.1, 12, .inl svA)), (q, .inr (3, [.ref a, .ref b, .int ty, .int (nI nn)])), (a, .inl (cy.1, 12, .inl ab)), (b, .inl (cy.1, 12, .inl (fun z => nI (sl z)))), (g, .inr (1, [.ref a1, .ref a2, .ref a3, .ref a4, .ref a5, .int fa])), (a4, .inl (cy.1, 32, .inl (fun z => nI (ow z))))]) s.heap s.heap [] := va_S.rf
  have hl : lv_has ls 1 [(0, .ref P)] := hl
  refine lv_aload_n hx hb dX2_find_0 rfl (lv_at hl 0 rfl) ?_
  refine va_get (D := D) (ci := 2) (v := .int (bI (kn))) (C := RX2) (T := TX2) (N := 10) hx hb hts in_wsX2_find_X2 hown hK.1 hP 0 rfl rfl 8 (by decide) (hts _ lk128_wsX2_find) (fun _ h9 => h9) rfl dX2_find_1 ?_
  refine lv_if_ne (tgt := 45) hx hb dX2_find_4 (by decide) (fun cb1 => ?_) (fun cb1 => ?_)
  · have cb1 : (kn) = true := bI_f0 cb1
    obtain rfl : kn = true := cb1
    refine lv_aload_n hx hb dX2_find_45 rfl (lv_at hl 0 rfl) ?_
    refine va_get (D := D) (ci := 2) (v := .int (bI (th))) (C := RX2) (T := TX2) (N := 10) hx hb hts in_wsX2_find_X2 hown hK.1 hP 0 rfl rfl 9 (by decide) (hts _ lk130_wsX2_find) (fun _ h9 => h9) rfl dX2_find_46 ?_
    exact z_zretW (cnt, ln, th, pl, chA, hbA, svA) hx hb hr hlocks hS dX2_find_49 hP ⟨by rw [(hk rfl).1], hk rfl⟩ (bI01 _)
  · have cb1 : (kn) = false := bI_t0 cb1
    refine lv_aload_n hx hb dX2_find_7 rfl (lv_at hl 0 rfl) ?_
    refine lv_aload_n hx hb dX2_find_8 rfl (lv_at hl 0 rfl) ?_
    refine z_callVW (b := P) (As := []) (rest := [.ref P]) [(p3, .inl (cy.1, 48, .inl hbA)), (p4, .inl (cy.1, 12, .inl svA))] ⟨hx, hb, hml, hown, hts⟩ hK hP hD hS (c_X2_openChoices hn hsl how) (cwV 0 hts gX2_find_X2_openChoices rfl rfl rfl k_yX2_openChoices ⟨Nat.le_of_ble_eq_true rfl, Nat.le_of_ble_eq_true rfl⟩) [0, 1, 2, 5, 6, 7, 8, 9] [3, 4] rfl rfl rfl (fun _ => rfl) 0 2 rfl rfl rfl rfl hl.1 rfl rfl dX2_find_9 ⟨Nat.le_of_ble_eq_true rfl, Nat.le_of_ble_eq_true rfl⟩ (fun rr3 uu1 H locs hp2 hP hD hS => ?_)
    obtain ⟨pl1, chA1⟩ := uu1
    obtain ⟨hr1, hcp⟩ := hp2
    have hP : va_P D vwCl [(p3, .inl (cy.1, 48, .inl hbA)), (p4, .inl (cy.1, 12, .inl svA)), (P, .inr (2, [.ref g, .ref q, .ref p1, .ref p2, .ref p3, .ref p4, .int (nI nn), .int ln, .int (bI (kn)), .int (bI (th))])), (p1, .inl (cy.1, 12, .inl pl1)), (p2, .inl (cy.1, 12, .inl chA1)), (q, .inr (3, [.ref a, .ref b, .int ty, .int (nI nn)])), (a, .inl (cy.1, 12, .inl ab)), (b, .inl (cy.1, 12, .inl (fun z => nI (sl z)))), (g, .inr (1, [.ref a1, .ref a2, .ref a3, .ref a4, .ref a5, .int fa])), (a4, .inl (cy.1, 32, .inl (fun z => nI (ow z))))] H := hP
    have hD : va_D (zIn [(P, .inr (2, [.ref g, .ref q, .ref p1, .ref p2, .ref p3, .ref p4, .int cnt, .int ln, .int (bI (kn)), .int (bI (th))])), (p1, .inl (cy.1, 12, .inl pl)), (p2, .inl (cy.1, 12, .inl chA)), (p3, .inl (cy.1, 48, .inl hbA)), (p4, .inl (cy.1, 12, .inl svA)), (q, .inr (3, [.ref a, .ref b, .int ty, .int (nI nn)])), (a, .inl (cy.1, 12, .inl ab)), (b, .inl (cy.1, 12, .inl (fun z => nI (sl z)))), (g, .inr (1, [.ref a1, .ref a2, .ref a3, .ref a4, .ref a5, .int fa])), (a4, .inl (cy.1, 32, .inl (fun z => nI (ow z))))]) [(p3, .inl (cy.1, 48, .inl hbA)), (p4, .inl (cy.1, 12, .inl svA)), (P, .inr (2, [.ref g, .ref q, .ref p1, .ref p2, .ref p3, .ref p4, .int (nI nn), .int ln, .int (bI (kn)), .int (bI (th))])), (p1, .inl (cy.1, 12, .inl pl1)), (p2, .inl (cy.1, 12, .inl chA1)), (q, .inr (3, [.ref a, .ref b, .int ty, .int (nI nn)])), (a, .inl (cy.1, 12, .inl ab)), (b, .inl (cy.1, 12, .inl (fun z => nI (sl z)))), (g, .inr (1, [.ref a1, .ref a2, .ref a3, .ref a4, .ref a5, .int fa])), (a4, .inl (cy.1, 32, .inl (fun z => nI (ow z))))] := hD
    refine z_top (y := bI (zAll nn sl ow)) hr1 ?_
    have hT1 : zTree nn pl1 := zTree_pl (fun k hk => (hcp k hk).1) hT
    have hch1 : ∀ n, n < nn → chA1 n = nI ((fun n => ow (sl n)) n) ∧ (fun n => ow (sl n)) n < 16 := fun n hn1 => ⟨(hcp n hn1).2, how n hn1⟩
    refine va_put (D := D) (ci := 2) (v := .int (bI (zAll nn sl ow))) (ty := .boolean) (C := RX2) (T := TX2) (N := 10) hx hb hts in_wsX2_find_X2 tyX2 tyX2_ok nmX2 hown hK.1 hP hD hS 2 rfl rfl 9 (by decide) (hts _ lk130_wsX2_find) (fun _ h9 => h9) rfl (by decide +kernel) (z_narB (bI01 _)) (z_fitB (bI01 _)) (Nat.le_of_ble_eq_true rfl) dX2_find_12 (fun H locs hP hD hS => ?_)
    have hP : va_P D vwCl [(p3, .inl (cy.1, 48, .inl hbA)), (p4, .inl (cy.1, 12, .inl svA)), (P, .inr (2, [.ref g, .ref q, .ref p1, .ref p2, .ref p3, .ref p4, .int (nI nn), .int ln, .int (bI (kn)), .int (bI (zAll nn sl ow))])), (p1, .inl (cy.1, 12, .inl pl1)), (p2, .inl (cy.1, 12, .inl chA1)), (q, .inr (3, [.ref a, .ref b, .int ty, .int (nI nn)])), (a, .inl (cy.1, 12, .inl ab)), (b, .inl (cy.1, 12, .inl (fun z => nI (sl z)))), (g, .inr (1, [.ref a1, .ref a2, .ref a3, .ref a4, .ref a5, .int fa])), (a4, .inl (cy.1, 32, .inl (fun z => nI (ow z))))] H := hP
    have hD : va_D (zIn [(P, .inr (2, [.ref g, .ref q, .ref p1, .ref p2, .ref p3, .ref p4, .int cnt, .int ln, .int (bI (kn)), .int (bI (th))])), (p1, .inl (cy.1, 12, .inl pl)), (p2, .inl (cy.1, 12, .inl chA)), (p3, .inl (cy.1, 48, .inl hbA)), (p4, .inl (cy.1, 12, .inl svA)), (q, .inr (3, [.ref a, .ref b, .int ty, .int (nI nn)])), (a, .inl (cy.1, 12, .inl ab)), (b, .inl (cy.1, 12, .inl (fun z => nI (sl z)))), (g, .inr (1, [.ref a1, .ref a2, .ref a3, .ref a4, .ref a5, .int fa])), (a4, .inl (cy.1, 32, .inl (fun z => nI (ow z))))]) [(p3, .inl (cy.1, 48, .inl hbA)), (p4, .inl (cy.1, 12, .inl svA)), (P, .inr (2, [.ref g, .ref q, .ref p1, .ref p2, .ref p3, .ref p4, .int (nI nn), .int ln, .int (bI (kn)), .int (bI (zAll nn sl ow))])), (p1, .inl (cy.1, 12, .inl pl1)), (p2, .inl (cy.1, 12, .inl chA1)), (q, .inr (3, [.ref a, .ref b, .int ty, .int (nI nn)])), (a, .inl (cy.1, 12, .inl ab)), (b, .inl (cy.1, 12, .inl (fun z => nI (sl z)))), (g, .inr (1, [.ref a1, .ref a2, .ref a3, .ref a4, .ref a5, .int fa])), (a4, .inl (cy.1, 32, .inl (fun z => nI (ow z))))] := hD
    refine lv_aload_n hx hb dX2_find_15 rfl (lv_at hl 0 rfl) ?_
    refine va_get (D := D) (ci := 2) (v := .int (bI (zAll nn sl ow))) (C := RX2) (T := TX2) (N := 10) hx hb hts in_wsX2_find_X2 hown hK.1 hP 2 rfl rfl 9 (by decide) (hts _ lk130_wsX2_find) (fun _ h9 => h9) rfl dX2_find_16 ?_
    refine lv_if_eq (tgt := 40) hx hb dX2_find_19 (by decide) (fun cb4 => ?_) (fun cb4 => ?_)
    · have cb4 : (zAll nn sl ow) = false := bI_t0 cb4
      refine lv_aload_n hx hb dX2_find_40 rfl (lv_at hl 0 rfl) ?_
      refine lv_iconst (v := nI 1) hx hb dX2_find_41 (by decide) ?_
      refine va_put (D := D) (ci := 2) (v := .int (nI 1)) (ty := .boolean) (C := RX2) (T := TX2) (N := 10) hx hb hts in_wsX2_find_X2 tyX2 tyX2_ok nmX2 hown hK.1 hP hD hS 2 rfl rfl 8 (by decide) (hts _ lk128_wsX2_find) (fun _ h9 => h9) rfl (by decide +kernel) (z_narB (by decide)) rfl (Nat.le_of_ble_eq_true rfl) dX2_find_42 (fun H locs hP hD hS => ?_)
      have hP : va_P D vwCl [(p3, .inl (cy.1, 48, .inl hbA)), (p4, .inl (cy.1, 12, .inl svA)), (P, .inr (2, [.ref g, .ref q, .ref p1, .ref p2, .ref p3, .ref p4, .int (nI nn), .int ln, .int (nI 1), .int (bI (zAll nn sl ow))])), (p1, .inl (cy.1, 12, .inl pl1)), (p2, .inl (cy.1, 12, .inl chA1)), (q, .inr (3, [.ref a, .ref b, .int ty, .int (nI nn)])), (a, .inl (cy.1, 12, .inl ab)), (b, .inl (cy.1, 12, .inl (fun z => nI (sl z)))), (g, .inr (1, [.ref a1, .ref a2, .ref a3, .ref a4, .ref a5, .int fa])), (a4, .inl (cy.1, 32, .inl (fun z => nI (ow z))))] H := hP
      have hD : va_D (zIn [(P, .inr (2, [.ref g, .ref q, .ref p1, .ref p2, .ref p3, .ref p4, .int cnt, .int ln, .int (bI (kn)), .int (bI (th))])), (p1, .inl (cy.1, 12, .inl pl)), (p2, .inl (cy.1, 12, .inl chA)), (p3, .inl (cy.1, 48, .inl hbA)), (p4, .inl (cy.1, 12, .inl svA)), (q, .inr (3, [.ref a, .ref b, .int ty, .int (nI nn)])), (a, .inl (cy.1, 12, .inl ab)), (b, .inl (cy.1, 12, .inl (fun z => nI (sl z)))), (g, .inr (1, [.ref a1, .ref a2, .ref a3, .ref a4, .ref a5, .int fa])), (a4, .inl (cy.1, 32, .inl (fun z => nI (ow z))))]) [(p3, .inl (cy.1, 48, .inl hbA)), (p4, .inl (cy.1, 12, .inl svA)), (P, .inr (2, [.ref g, .ref q, .ref p1, .ref p2, .ref p3, .ref p4, .int (nI nn), .int ln, .int (nI 1), .int (bI (zAll nn sl ow))])), (p1, .inl (cy.1, 12, .inl pl1)), (p2, .inl (cy.1, 12, .inl chA1)), (q, .inr (3, [.ref a, .ref b, .int ty, .int (nI nn)])), (a, .inl (cy.1, 12, .inl ab)), (b, .inl (cy.1, 12, .inl (fun z => nI (sl z)))), (g, .inr (1, [.ref a1, .ref a2, .ref a3, .ref a4, .ref a5, .int fa])), (a4, .inl (cy.1, 32, .inl (fun z => nI (ow z))))] := hD
      have hP := hP.sub (ws' := [(P, .inr (2, [.ref g, .ref q, .ref p1, .ref p2, .ref p3, .ref p4, .int (nI nn), .int ln, .int (nI 1), .int (bI (zAll nn sl ow))])), (p1, .inl (cy.1, 12, .inl pl1)), (p2, .inl (cy.1, 12, .inl chA1)), (p3, .inl (cy.1, 48, .inl hbA)), (p4, .inl (cy.1, 12, .inl svA)), (q, .inr (3, [.ref a, .ref b, .int ty, .int (nI nn)])), (a, .inl (cy.1, 12, .inl ab)), (b, .inl (cy.1, 12, .inl (fun z => nI (sl z)))), (g, .inr (1, [.ref a1, .ref a2, .ref a3, .ref a4, .ref a5, .int fa])), (a4, .inl (cy.1, 32, .inl (fun z => nI (ow z))))]) [2, 3, 4, 0, 1, 5, 6, 7, 8, 9] rfl
      have hD := hD.sub (ws' := [(P, .inr (2, [.ref g, .ref q, .ref p1, .ref p2, .ref p3, .ref p4, .int (nI nn), .int ln, .int (nI 1), .int (bI (zAll nn sl ow))])), (p1, .inl (cy.1, 12, .inl pl1)), (p2, .inl (cy.1, 12, .inl chA1)), (p3, .inl (cy.1, 48, .inl hbA)), (p4, .inl (cy.1, 12, .inl svA)), (q, .inr (3, [.ref a, .ref b, .int ty, .int (nI nn)])), (a, .inl (cy.1, 12, .inl ab)), (b, .inl (cy.1, 12, .inl (fun z => nI (sl z)))), (g, .inr (1, [.ref a1, .ref a2, .ref a3, .ref a4, .ref a5, .int fa])), (a4, .inl (cy.1, 32, .inl (fun z => nI (ow z))))]) [2, 3, 4, 0, 1, 5, 6, 7, 8, 9] (by decide) rfl
      refine lv_aload_n hx hb dX2_find_45 rfl (lv_at hl 0 rfl) ?_
      refine va_get (D := D) (ci := 2) (v := .int (bI (zAll nn sl ow))) (C := RX2) (T := TX2) (N := 10) hx hb hts in_wsX2_find_X2 hown hK.1 hP 0 rfl rfl 9 (by decide) (hts _ lk130_wsX2_find) (fun _ h9 => h9) rfl dX2_find_46 ?_
      exact z_zretW (nI nn, ln, zAll nn sl ow, pl1, chA1, hbA, svA) hx hb hr hlocks hS dX2_find_49 hP ⟨rfl, rfl, fun z => absurd (z.symm.trans cb4) (by decide)⟩ (bI01 _)
    · have cb4 : (zAll nn sl ow) = true := bI_f0 cb4
      refine lv_aload_n hx hb dX2_find_22 rfl (lv_at hl 0 rfl) ?_
      refine z_callVV (b := P) (As := []) (rest := []) [(p4, .inl (cy.1, 12, .inl svA)), (q, .inr (3, [.ref a, .ref b, .int ty, .int (nI nn)])), (a, .inl (cy.1, 12, .inl ab)), (b, .inl (cy.1, 12, .inl (fun z => nI (sl z)))), (g, .inr (1, [.ref a1, .ref a2, .ref a3, .ref a4, .ref a5, .int fa])), (a4, .inl (cy.1, 32, .inl (fun z => nI (ow z))))] ⟨hx, hb, hml, hown, hts⟩ hK hP hD hS (c_X2_countHopsBelow (ch := (fun n => ow (sl n))) hn hT1 hch1) (cwV 0 hts gX2_find_X2_countHopsBelow rfl rfl rfl k_yX2_countHopsBelow ⟨Nat.le_of_ble_eq_true rfl, Nat.le_of_ble_eq_true rfl⟩) [2, 3, 4, 0] [1, 5, 6, 7, 8, 9] rfl rfl rfl (fun _ => rfl) 2 2 rfl rfl rfl rfl hl.1 rfl rfl dX2_find_23 ⟨Nat.le_of_ble_eq_true rfl, Nat.le_of_ble_eq_true rfl⟩ (fun hb1 H locs hp5 hP hD hS => ?_)
      have hP : va_P D vwCl [(p4, .inl (cy.1, 12, .inl svA)), (q, .inr (3, [.ref a, .ref b, .int ty, .int (nI nn)])), (a, .inl (cy.1, 12, .inl ab)), (b, .inl (cy.1, 12, .inl (fun z => nI (sl z)))), (g, .inr (1, [.ref a1, .ref a2, .ref a3, .ref a4, .ref a5, .int fa])), (a4, .inl (cy.1, 32, .inl (fun z => nI (ow z)))), (P, .inr (2, [.ref g, .ref q, .ref p1, .ref p2, .ref p3, .ref p4, .int (nI nn), .int ln, .int (bI (kn)), .int (bI (zAll nn sl ow))])), (p1, .inl (cy.1, 12, .inl pl1)), (p2, .inl (cy.1, 12, .inl chA1)), (p3, .inl (cy.1, 48, .inl hb1))] H := hP
      have hD : va_D (zIn [(P, .inr (2, [.ref g, .ref q, .ref p1, .ref p2, .ref p3, .ref p4, .int cnt, .int ln, .int (bI (kn)), .int (bI (th))])), (p1, .inl (cy.1, 12, .inl pl)), (p2, .inl (cy.1, 12, .inl chA)), (p3, .inl (cy.1, 48, .inl hbA)), (p4, .inl (cy.1, 12, .inl svA)), (q, .inr (3, [.ref a, .ref b, .int ty, .int (nI nn)])), (a, .inl (cy.1, 12, .inl ab)), (b, .inl (cy.1, 12, .inl (fun z => nI (sl z)))), (g, .inr (1, [.ref a1, .ref a2, .ref a3, .ref a4, .ref a5, .int fa])), (a4, .inl (cy.1, 32, .inl (fun z => nI (ow z))))]) [(p4, .inl (cy.1, 12, .inl svA)), (q, .inr (3, [.ref a, .ref b, .int ty, .int (nI nn)])), (a, .inl (cy.1, 12, .inl ab)), (b, .inl (cy.1, 12, .inl (fun z => nI (sl z)))), (g, .inr (1, [.ref a1, .ref a2, .ref a3, .ref a4, .ref a5, .int fa])), (a4, .inl (cy.1, 32, .inl (fun z => nI (ow z)))), (P, .inr (2, [.ref g, .ref q, .ref p1, .ref p2, .ref p3, .ref p4, .int (nI nn), .int ln, .int (bI (kn)), .int (bI (zAll nn sl ow))])), (p1, .inl (cy.1, 12, .inl pl1)), (p2, .inl (cy.1, 12, .inl chA1)), (p3, .inl (cy.1, 48, .inl hb1))] := hD
      have hhb1 := hp5
      refine lv_aload_n hx hb dX2_find_26 rfl (lv_at hl 0 rfl) ?_
      refine lv_aload_n hx hb dX2_find_27 rfl (lv_at hl 0 rfl) ?_
      refine lv_iconst (v := (-1 : Int32)) hx hb dX2_find_28 (by decide) ?_
      refine lv_iconst (v := (-1 : Int32)) hx hb dX2_find_29 (by decide) ?_
      refine z_callV (b := P) (As := [.int ((-1 : Int32)), .int ((-1 : Int32))]) (rest := [.ref P]) ⟨hx, hb, hml, hown, hts⟩ hK hP hS (c_X2_hopsAt_m1 (i := 6) (i1 := 7) (i2 := 8) (i3 := 9) rfl rfl rfl rfl (ch := (fun n => ow (sl n))) (h := zH nn pl1 (fun n => ow (sl n))) (x := -1) hn hch1 (fun k hk _ v hv => ⟨hhb1 k hk v hv, zH_cap hT1 hn hk v⟩)) (cwV 2 hts gX2_find_X2_hopsAt rfl rfl rfl k_yX2_hopsAt ⟨Nat.le_of_ble_eq_true rfl, Nat.le_of_ble_eq_true rfl⟩) 6 2 rfl rfl rfl rfl hl.1 rfl rfl dX2_find_30 ⟨Nat.le_of_ble_eq_true rfl, Nat.le_of_ble_eq_true rfl⟩ (fun H locs hP hS => ?_)
      refine va_put (D := D) (ci := 2) (v := .int (nI (zTot nn pl1 (fun n => ow (sl n))))) (ty := .int) (C := RX2) (T := TX2) (N := 10) hx hb hts in_wsX2_find_X2 tyX2 tyX2_ok nmX2 hown hK.1 hP hD hS 6 rfl rfl 7 (by decide) (hts _ lk133_wsX2_find) (fun _ h9 => h9) rfl (by decide +kernel) rfl rfl (Nat.le_of_ble_eq_true rfl) dX2_find_33 (fun H locs hP hD hS => ?_)
      have hP : va_P D vwCl [(p4, .inl (cy.1, 12, .inl svA)), (q, .inr (3, [.ref a, .ref b, .int ty, .int (nI nn)])), (a, .inl (cy.1, 12, .inl ab)), (b, .inl (cy.1, 12, .inl (fun z => nI (sl z)))), (g, .inr (1, [.ref a1, .ref a2, .ref a3, .ref a4, .ref a5, .int fa])), (a4, .inl (cy.1, 32, .inl (fun z => nI (ow z)))), (P, .inr (2, [.ref g, .ref q, .ref p1, .ref p2, .ref p3, .ref p4, .int (nI nn), .int (nI (zTot nn pl1 (fun n => ow (sl n)))), .int (bI (kn)), .int (bI (zAll nn sl ow))])), (p1, .inl (cy.1, 12, .inl pl1)), (p2, .inl (cy.1, 12, .inl chA1)), (p3, .inl (cy.1, 48, .inl hb1))] H := hP
      have hD : va_D (zIn [(P, .inr (2, [.ref g, .ref q, .ref p1, .ref p2, .ref p3, .ref p4, .int cnt, .int ln, .int (bI (kn)), .int (bI (th))])), (p1, .inl (cy.1, 12, .inl pl)), (p2, .inl (cy.1, 12, .inl chA)), (p3, .inl (cy.1, 48, .inl hbA)), (p4, .inl (cy.1, 12, .inl svA)), (q, .inr (3, [.ref a, .ref b, .int ty, .int (nI nn)])), (a, .inl (cy.1, 12, .inl ab)), (b, .inl (cy.1, 12, .inl (fun z => nI (sl z)))), (g, .inr (1, [.ref a1, .ref a2, .ref a3, .ref a4, .ref a5, .int fa])), (a4, .inl (cy.1, 32, .inl (fun z => nI (ow z))))]) [(p4, .inl (cy.1, 12, .inl svA)), (q, .inr (3, [.ref a, .ref b, .int ty, .int (nI nn)])), (a, .inl (cy.1, 12, .inl ab)), (b, .inl (cy.1, 12, .inl (fun z => nI (sl z)))), (g, .inr (1, [.ref a1, .ref a2, .ref a3, .ref a4, .ref a5, .int fa])), (a4, .inl (cy.1, 32, .inl (fun z => nI (ow z)))), (P, .inr (2, [.ref g, .ref q, .ref p1, .ref p2, .ref p3, .ref p4, .int (nI nn), .int (nI (zTot nn pl1 (fun n => ow (sl n)))), .int (bI (kn)), .int (bI (zAll nn sl ow))])), (p1, .inl (cy.1, 12, .inl pl1)), (p2, .inl (cy.1, 12, .inl chA1)), (p3, .inl (cy.1, 48, .inl hb1))] := hD
      refine lv_aload_n hx hb dX2_find_36 rfl (lv_at hl 0 rfl) ?_
      refine z_callVV (b := P) (As := []) (rest := []) [(a, .inl (cy.1, 12, .inl ab)), (b, .inl (cy.1, 12, .inl (fun z => nI (sl z)))), (g, .inr (1, [.ref a1, .ref a2, .ref a3, .ref a4, .ref a5, .int fa])), (a4, .inl (cy.1, 32, .inl (fun z => nI (ow z))))] ⟨hx, hb, hml, hown, hts⟩ hK hP hD hS (c_X2_chooseServices (c0 := (fun n => ow (sl n))) hn hT1 hch1 hhb1) (cwV 0 hts gX2_find_X2_chooseServices rfl rfl rfl k_yX2_chooseServices ⟨Nat.le_of_ble_eq_true rfl, Nat.le_of_ble_eq_true rfl⟩) [6, 7, 8, 9, 0, 1] [2, 3, 4, 5] rfl rfl rfl (fun _ => rfl) 6 2 rfl rfl rfl rfl hl.1 rfl rfl dX2_find_37 ⟨Nat.le_of_ble_eq_true rfl, Nat.le_of_ble_eq_true rfl⟩ (fun uu5 H locs hp6 hP hD hS => ?_)
      obtain ⟨chA2, svA2⟩ := uu5
      have hsv := hp6
      have hP : va_P D vwCl [(a, .inl (cy.1, 12, .inl ab)), (b, .inl (cy.1, 12, .inl (fun z => nI (sl z)))), (g, .inr (1, [.ref a1, .ref a2, .ref a3, .ref a4, .ref a5, .int fa])), (a4, .inl (cy.1, 32, .inl (fun z => nI (ow z)))), (P, .inr (2, [.ref g, .ref q, .ref p1, .ref p2, .ref p3, .ref p4, .int (nI nn), .int (nI (zTot nn pl1 (fun n => ow (sl n)))), .int (bI (kn)), .int (bI (zAll nn sl ow))])), (p1, .inl (cy.1, 12, .inl pl1)), (p2, .inl (cy.1, 12, .inl chA2)), (p3, .inl (cy.1, 48, .inl hb1)), (p4, .inl (cy.1, 12, .inl svA2)), (q, .inr (3, [.ref a, .ref b, .int ty, .int (nI nn)]))] H := hP
      have hD : va_D (zIn [(P, .inr (2, [.ref g, .ref q, .ref p1, .ref p2, .ref p3, .ref p4, .int cnt, .int ln, .int (bI (kn)), .int (bI (th))])), (p1, .inl (cy.1, 12, .inl pl)), (p2, .inl (cy.1, 12, .inl chA)), (p3, .inl (cy.1, 48, .inl hbA)), (p4, .inl (cy.1, 12, .inl svA)), (q, .inr (3, [.ref a, .ref b, .int ty, .int (nI nn)])), (a, .inl (cy.1, 12, .inl ab)), (b, .inl (cy.1, 12, .inl (fun z => nI (sl z)))), (g, .inr (1, [.ref a1, .ref a2, .ref a3, .ref a4, .ref a5, .int fa])), (a4, .inl (cy.1, 32, .inl (fun z => nI (ow z))))]) [(a, .inl (cy.1, 12, .inl ab)), (b, .inl (cy.1, 12, .inl (fun z => nI (sl z)))), (g, .inr (1, [.ref a1, .ref a2, .ref a3, .ref a4, .ref a5, .int fa])), (a4, .inl (cy.1, 32, .inl (fun z => nI (ow z)))), (P, .inr (2, [.ref g, .ref q, .ref p1, .ref p2, .ref p3, .ref p4, .int (nI nn), .int (nI (zTot nn pl1 (fun n => ow (sl n)))), .int (bI (kn)), .int (bI (zAll nn sl ow))])), (p1, .inl (cy.1, 12, .inl pl1)), (p2, .inl (cy.1, 12, .inl chA2)), (p3, .inl (cy.1, 48, .inl hb1)), (p4, .inl (cy.1, 12, .inl svA2)), (q, .inr (3, [.ref a, .ref b, .int ty, .int (nI nn)]))] := hD
      refine lv_aload_n hx hb dX2_find_40 rfl (lv_at hl 0 rfl) ?_
      refine lv_iconst (v := nI 1) hx hb dX2_find_41 (by decide) ?_
      refine va_put (D := D) (ci := 2) (v := .int (nI 1)) (ty := .boolean) (C := RX2) (T := TX2) (N := 10) hx hb hts in_wsX2_find_X2 tyX2 tyX2_ok nmX2 hown hK.1 hP hD hS 4 rfl rfl 8 (by decide) (hts _ lk128_wsX2_find) (fun _ h9 => h9) rfl (by decide +kernel) (z_narB (by decide)) rfl (Nat.le_of_ble_eq_true rfl) dX2_find_42 (fun H locs hP hD hS => ?_)
      have hP : va_P D vwCl [(a, .inl (cy.1, 12, .inl ab)), (b, .inl (cy.1, 12, .inl (fun z => nI (sl z)))), (g, .inr (1, [.ref a1, .ref a2, .ref a3, .ref a4, .ref a5, .int fa])), (a4, .inl (cy.1, 32, .inl (fun z => nI (ow z)))), (P, .inr (2, [.ref g, .ref q, .ref p1, .ref p2, .ref p3, .ref p4, .int (nI nn), .int (nI (zTot nn pl1 (fun n => ow (sl n)))), .int (nI 1), .int (bI (zAll nn sl ow))])), (p1, .inl (cy.1, 12, .inl pl1)), (p2, .inl (cy.1, 12, .inl chA2)), (p3, .inl (cy.1, 48, .inl hb1)), (p4, .inl (cy.1, 12, .inl svA2)), (q, .inr (3, [.ref a, .ref b, .int ty, .int (nI nn)]))] H := hP
      have hD : va_D (zIn [(P, .inr (2, [.ref g, .ref q, .ref p1, .ref p2, .ref p3, .ref p4, .int cnt, .int ln, .int (bI (kn)), .int (bI (th))])), (p1, .inl (cy.1, 12, .inl pl)), (p2, .inl (cy.1, 12, .inl chA)), (p3, .inl (cy.1, 48, .inl hbA)), (p4, .inl (cy.1, 12, .inl svA)), (q, .inr (3, [.ref a, .ref b, .int ty, .int (nI nn)])), (a, .inl (cy.1, 12, .inl ab)), (b, .inl (cy.1, 12, .inl (fun z => nI (sl z)))), (g, .inr (1, [.ref a1, .ref a2, .ref a3, .ref a4, .ref a5, .int fa])), (a4, .inl (cy.1, 32, .inl (fun z => nI (ow z))))]) [(a, .inl (cy.1, 12, .inl ab)), (b, .inl (cy.1, 12, .inl (fun z => nI (sl z)))), (g, .inr (1, [.ref a1, .ref a2, .ref a3, .ref a4, .ref a5, .int fa])), (a4, .inl (cy.1, 32, .inl (fun z => nI (ow z)))), (P, .inr (2, [.ref g, .ref q, .ref p1, .ref p2, .ref p3, .ref p4, .int (nI nn), .int (nI (zTot nn pl1 (fun n => ow (sl n)))), .int (nI 1), .int (bI (zAll nn sl ow))])), (p1, .inl (cy.1, 12, .inl pl1)), (p2, .inl (cy.1, 12, .inl chA2)), (p3, .inl (cy.1, 48, .inl hb1)), (p4, .inl (cy.1, 12, .inl svA2)), (q, .inr (3, [.ref a, .ref b, .int ty, .int (nI nn)]))] := hD
      have hP := hP.sub (ws' := [(P, .inr (2, [.ref g, .ref q, .ref p1, .ref p2, .ref p3, .ref p4, .int (nI nn), .int (nI (zTot nn pl1 (fun n => ow (sl n)))), .int (nI 1), .int (bI (zAll nn sl ow))])), (p1, .inl (cy.1, 12, .inl pl1)), (p2, .inl (cy.1, 12, .inl chA2)), (p3, .inl (cy.1, 48, .inl hb1)), (p4, .inl (cy.1, 12, .inl svA2)), (q, .inr (3, [.ref a, .ref b, .int ty, .int (nI nn)])), (a, .inl (cy.1, 12, .inl ab)), (b, .inl (cy.1, 12, .inl (fun z => nI (sl z)))), (g, .inr (1, [.ref a1, .ref a2, .ref a3, .ref a4, .ref a5, .int fa])), (a4, .inl (cy.1, 32, .inl (fun z => nI (ow z))))]) [4, 5, 6, 7, 8, 9, 0, 1, 2, 3] rfl
      have hD := hD.sub (ws' := [(P, .inr (2, [.ref g, .ref q, .ref p1, .ref p2, .ref p3, .ref p4, .int (nI nn), .int (nI (zTot nn pl1 (fun n => ow (sl n)))), .int (nI 1), .int (bI (zAll nn sl ow))])), (p1, .inl (cy.1, 12, .inl pl1)), (p2, .inl (cy.1, 12, .inl chA2)), (p3, .inl (cy.1, 48, .inl hb1)), (p4, .inl (cy.1, 12, .inl svA2)), (q, .inr (3, [.ref a, .ref b, .int ty, .int (nI nn)])), (a, .inl (cy.1, 12, .inl ab)), (b, .inl (cy.1, 12, .inl (fun z => nI (sl z)))), (g, .inr (1, [.ref a1, .ref a2, .ref a3, .ref a4, .ref a5, .int fa])), (a4, .inl (cy.1, 32, .inl (fun z => nI (ow z))))]) [4, 5, 6, 7, 8, 9, 0, 1, 2, 3] (by decide) rfl
      refine lv_aload_n hx hb dX2_find_45 rfl (lv_at hl 0 rfl) ?_
      refine va_get (D := D) (ci := 2) (v := .int (bI (zAll nn sl ow))) (C := RX2) (T := TX2) (N := 10) hx hb hts in_wsX2_find_X2 hown hK.1 hP 0 rfl rfl 9 (by decide) (hts _ lk130_wsX2_find) (fun _ h9 => h9) rfl dX2_find_46 ?_
      exact z_zretW (nI nn, nI (zTot nn pl1 (fun n => ow (sl n))), zAll nn sl ow, pl1, chA2, hb1, svA2) hx hb hr hlocks hS dX2_find_49 hP ⟨rfl, rfl, fun _ => ⟨congrArg nI (zTot_pl (fun k hk1 => (hcp k hk1).1)), fun k hk1 => (hsv k hk1).trans (congrArg nI (zSV_pl (fun k hk1 => (hcp k hk1).1) hk1))⟩⟩ (bI01 _)
