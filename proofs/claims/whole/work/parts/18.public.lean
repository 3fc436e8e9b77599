theorem k_yX4_checkType : yX4_checkType.cls ≠ "java/lang/invoke/MethodHandle" ∧ yX4_checkType.cls ≠ "java/lang/invoke/VarHandle" ∧ (parseMethodDescriptor yX4_checkType.desc).map (fun d => d.parameters.length) = some 1 := by decide +kernel
set_option maxRecDepth 20000 in
theorem lk196_wsX4_addField : Cond.fieldLink RX4 20 "QueryGateway" "graph" "LQueryGateway$Graph;" ∈ wsX4_addField := by decide +kernel
set_option maxRecDepth 20000 in
theorem in_wsX4_addField_X4 : ∀ w ∈ wsX40, w ∈ wsX4_addField := by decide +kernel
theorem k_yX1_append : yX1_append.cls = RX1 ∧ yX1_append.cls ≠ "java/lang/invoke/MethodHandle" ∧ yX1_append.cls ≠ "java/lang/invoke/VarHandle" ∧ (parseMethodDescriptor yX1_append.desc).map (fun d => d.parameters.length) = some 3 := by decide +kernel
abbrev rmX4_addField : Room := { frames := 3, cells := 0, slots := 0, locals := 66 }
set_option maxHeartbeats 4000000 in
set_option maxRecDepth 100000 in
theorem c_X4_addField_ok {l : Launch} {D : va_G} {cy : zCy} {o g q P A U a1 a2 a3 a4 a5 : Nat} {fa : Int32} {fc : Nat → Nat} {ld : Nat → Int32} {rq : Nat → Bool} {t : Nat} (ht : t < 4) (hf : fc t < 8) {lo : Int32} (hlo : lo = -1 ∨ inN 4 lo) (b : Bool) : zW (Unit) l yX4_addField wsX4_addField rmX4_addField D cy [(o, .inr (4, [.ref g, .ref q, .ref P, .ref A, .ref U])), (g, .inr (1, [.ref a1, .ref a2, .ref a3, .ref a4, .ref a5, .int fa])), (a1, .inl (cy.1, 4, .inl (fun z => nI (fc z)))), (a2, .inl (cy.1, 32, .inl ld)), (a3, .inl (cy.2.1, 32, .inl (fun z => bI (rq z))))] [.ref o, .int (nI t), .int lo, .int (bI (b))] (fun r _ => r = nI (fc t)) (fun _ => [(o, .inr (4, [.ref g, .ref q, .ref P, .ref A, .ref U])), (g, .inr (1, [.ref a1, .ref a2, .ref a3, .ref a4, .ref a5, .int fa])), (a1, .inl (cy.1, 4, .inl (fun z => nI (va_up fc t (fc t + 1) z)))), (a2, .inl (cy.1, 32, .inl (upd ld (t * 8 + fc t) lo))), (a3, .inl (cy.2.1, 32, .inl (fun z => bI (va_up rq (t * 8 + fc t) b z))))]) := by
  refine zW.of (cc := cX4_addField) (maxL := 4) (ret := (some .int)) (by decide) rfl rfl ?_
  intro p e s m below meth c ls C hP hK hD hl
  obtain ⟨hx, hb, hr, hml, hts, hown, hlocks⟩ := C
  have hS : va_S (zIn [(o, .inr (4, [.ref g, .ref q, .ref P, .ref A, .ref U])), (g, .inr (1, [.ref a1, .ref a2, .ref a3, .ref a4, .ref a5, .int fa])), (a1, .inl (cy.1, 4, .inl (fun z => nI (fc z)))), (a2, .inl (cy.1, 32, .inl ld)), (a3, .inl (cy.2.1, 32, .inl (fun z => bI (rq z))))]) s.heap s.heap [] := va_S.rf
  have hl : lv_has ls 4 [(0, .ref o), (1, .int (nI t)), (2, .int lo), (3, .int (bI (b)))] := hl
  refine lv_iload_n hx hb dX4_addField_0 rfl (lv_at hl 1 rfl) ?_
  refine z_callUS (As := [.int (nI t)]) (rest := []) ⟨hx, hb, hml, hown, hts⟩ hK hP hS (c_X4_checkType_ok (k := t) (by omega)) (va_cwS 1 hts gX4_addField_X4_checkType rfl rfl rfl k_yX4_checkType ⟨Nat.le_of_ble_eq_true rfl, Nat.le_of_ble_eq_true rfl⟩) rfl hl.1 rfl rfl dX4_addField_1 ⟨Nat.le_of_ble_eq_true rfl, Nat.le_of_ble_eq_true rfl⟩ (fun H locs hP hS => ?_)
  refine lv_iload_n hx hb dX4_addField_4 rfl (lv_at hl 2 rfl) ?_
  refine lv_iconst (v := (-1 : Int32)) hx hb dX4_addField_5 (by decide) ?_
  refine lv_icmp_eq (tgt := 26) hx hb dX4_addField_6 (by decide) (fun cb1 => ?_) (fun cb1 => ?_)
  · skip
    refine lv_aload_n hx hb dX4_addField_26 rfl (lv_at hl 0 rfl) ?_
    refine va_get (D := D) (ci := 4) (v := .ref g) (C := RX4) (T := TX4) (N := 5) hx hb hts in_wsX4_addField_X4 hown hK.1 hP 0 rfl rfl 0 (by decide) (hts _ lk196_wsX4_addField) (fun _ h9 => h9) rfl dX4_addField_27 ?_
    refine lv_iload_n hx hb dX4_addField_30 rfl (lv_at hl 1 rfl) ?_
    refine z_callV (b := g) (As := [.int (nI t)]) (rest := []) ⟨hx, hb, hml, hown, hts⟩ hK hP hS (c_X1_fieldsOf (i := 1) (j := 2) rfl rfl ht) (cwV 1 hts gX4_addField_X1_fieldsOf rfl rfl rfl k_yX1_fieldsOf ⟨Nat.le_of_ble_eq_true rfl, Nat.le_of_ble_eq_true rfl⟩) 1 1 rfl rfl rfl rfl hl.1 rfl rfl dX4_addField_31 ⟨Nat.le_of_ble_eq_true rfl, Nat.le_of_ble_eq_true rfl⟩ (fun H locs hP hS => ?_)
    refine lv_bipush (v := nI 8) hx hb dX4_addField_34 (by decide) ?_
    refine lv_icmp_lt (tgt := 49) hx hb dX4_addField_36 (by decide) (fun cb2 => ?_) (fun cb2 => ?_)
    · have cb2 : (fc t) < 8 := zn_lt_t (a := (fc t)) (b := 8) (by omega) (by omega) cb2
      refine lv_aload_n hx hb dX4_addField_49 rfl (lv_at hl 0 rfl) ?_
      refine va_get (D := D) (ci := 4) (v := .ref g) (C := RX4) (T := TX4) (N := 5) hx hb hts in_wsX4_addField_X4 hown hK.1 hP 0 rfl rfl 0 (by decide) (hts _ lk196_wsX4_addField) (fun _ h9 => h9) rfl dX4_addField_50 ?_
      refine lv_iload_n hx hb dX4_addField_53 rfl (lv_at hl 1 rfl) ?_
      refine lv_iload_n hx hb dX4_addField_54 rfl (lv_at hl 2 rfl) ?_
      refine lv_iload_n hx hb dX4_addField_55 rfl (lv_at hl 3 rfl) ?_
      refine z_callVW (b := g) (As := [.int (nI t), .int lo, .int (bI (b))]) (rest := []) [(o, .inr (4, [.ref g, .ref q, .ref P, .ref A, .ref U]))] ⟨hx, hb, hml, hown, hts⟩ hK hP hD hS (c_X1_append ht hf lo b) (cwV 3 hts gX4_addField_X1_append rfl rfl rfl k_yX1_append ⟨Nat.le_of_ble_eq_true rfl, Nat.le_of_ble_eq_true rfl⟩) [1, 2, 3, 4] [0] rfl rfl rfl (fun _ => rfl) 1 1 rfl rfl rfl rfl hl.1 rfl rfl dX4_addField_56 ⟨Nat.le_of_ble_eq_true rfl, Nat.le_of_ble_eq_true rfl⟩ (fun rr4 uu2 H locs hp3 hP hD hS => ?_)
      have hP : va_P D vwCl [(o, .inr (4, [.ref g, .ref q, .ref P, .ref A, .ref U])), (g, .inr (1, [.ref a1, .ref a2, .ref a3, .ref a4, .ref a5, .int fa])), (a1, .inl (cy.1, 4, .inl (fun z => nI (va_up fc t (fc t + 1) z)))), (a2, .inl (cy.1, 32, .inl (upd ld (t * 8 + fc t) lo))), (a3, .inl (cy.2.1, 32, .inl (fun z => bI (va_up rq (t * 8 + fc t) b z))))] H := hP
      have hD : va_D (zIn [(o, .inr (4, [.ref g, .ref q, .ref P, .ref A, .ref U])), (g, .inr (1, [.ref a1, .ref a2, .ref a3, .ref a4, .ref a5, .int fa])), (a1, .inl (cy.1, 4, .inl (fun z => nI (fc z)))), (a2, .inl (cy.1, 32, .inl ld)), (a3, .inl (cy.2.1, 32, .inl (fun z => bI (rq z))))]) [(o, .inr (4, [.ref g, .ref q, .ref P, .ref A, .ref U])), (g, .inr (1, [.ref a1, .ref a2, .ref a3, .ref a4, .ref a5, .int fa])), (a1, .inl (cy.1, 4, .inl (fun z => nI (va_up fc t (fc t + 1) z)))), (a2, .inl (cy.1, 32, .inl (upd ld (t * 8 + fc t) lo))), (a3, .inl (cy.2.1, 32, .inl (fun z => bI (va_up rq (t * 8 + fc t) b z))))] := hD
      exact z_iretW () hx hb hr hlocks hS dX4_addField_59 hP hp3
    · have cb2 : ¬ ((fc t) < 8) := zn_lt_f (a := (fc t)) (b := 8) (by omega) (by omega) cb2
      exact absurd hf cb2
  · skip
    refine lv_iload_n hx hb dX4_addField_9 rfl (lv_at hl 2 rfl) ?_
    refine z_callS (As := [.int lo]) (rest := []) ⟨hx, hb, hml, hown, hts⟩ hK hP hS (c_X4_isType lo) (va_cwS 1 hts gX4_addField_X4_isType rfl rfl rfl k_yX4_isType ⟨Nat.le_of_ble_eq_true rfl, Nat.le_of_ble_eq_true rfl⟩) rfl hl.1 rfl rfl dX4_addField_10 ⟨Nat.le_of_ble_eq_true rfl, Nat.le_of_ble_eq_true rfl⟩ (fun H locs hP hS => ?_)
    refine lv_if_ne (tgt := 26) hx hb dX4_addField_13 (by decide) (fun cb5 => ?_) (fun cb5 => ?_)
    · have cb5 : (decide (inN 4 lo)) = true := bI_f0 cb5
      refine lv_aload_n hx hb dX4_addField_26 rfl (lv_at hl 0 rfl) ?_
      refine va_get (D := D) (ci := 4) (v := .ref g) (C := RX4) (T := TX4) (N := 5) hx hb hts in_wsX4_addField_X4 hown hK.1 hP 0 rfl rfl 0 (by decide) (hts _ lk196_wsX4_addField) (fun _ h9 => h9) rfl dX4_addField_27 ?_
      refine lv_iload_n hx hb dX4_addField_30 rfl (lv_at hl 1 rfl) ?_
      refine z_callV (b := g) (As := [.int (nI t)]) (rest := []) ⟨hx, hb, hml, hown, hts⟩ hK hP hS (c_X1_fieldsOf (i := 1) (j := 2) rfl rfl ht) (cwV 1 hts gX4_addField_X1_fieldsOf rfl rfl rfl k_yX1_fieldsOf ⟨Nat.le_of_ble_eq_true rfl, Nat.le_of_ble_eq_true rfl⟩) 1 1 rfl rfl rfl rfl hl.1 rfl rfl dX4_addField_31 ⟨Nat.le_of_ble_eq_true rfl, Nat.le_of_ble_eq_true rfl⟩ (fun H locs hP hS => ?_)
      refine lv_bipush (v := nI 8) hx hb dX4_addField_34 (by decide) ?_
      refine lv_icmp_lt (tgt := 49) hx hb dX4_addField_36 (by decide) (fun cb6 => ?_) (fun cb6 => ?_)
      · have cb6 : (fc t) < 8 := zn_lt_t (a := (fc t)) (b := 8) (by omega) (by omega) cb6
        refine lv_aload_n hx hb dX4_addField_49 rfl (lv_at hl 0 rfl) ?_
        refine va_get (D := D) (ci := 4) (v := .ref g) (C := RX4) (T := TX4) (N := 5) hx hb hts in_wsX4_addField_X4 hown hK.1 hP 0 rfl rfl 0 (by decide) (hts _ lk196_wsX4_addField) (fun _ h9 => h9) rfl dX4_addField_50 ?_
        refine lv_iload_n hx hb dX4_addField_53 rfl (lv_at hl 1 rfl) ?_
        refine lv_iload_n hx hb dX4_addField_54 rfl (lv_at hl 2 rfl) ?_
        refine lv_iload_n hx hb dX4_addField_55 rfl (lv_at hl 3 rfl) ?_
        refine z_callVW (b := g) (As := [.int (nI t), .int lo, .int (bI (b))]) (rest := []) [(o, .inr (4, [.ref g, .ref q, .ref P, .ref A, .ref U]))] ⟨hx, hb, hml, hown, hts⟩ hK hP hD hS (c_X1_append ht hf lo b) (cwV 3 hts gX4_addField_X1_append rfl rfl rfl k_yX1_append ⟨Nat.le_of_ble_eq_true rfl, Nat.le_of_ble_eq_true rfl⟩) [1, 2, 3, 4] [0] rfl rfl rfl (fun _ => rfl) 1 1 rfl rfl rfl rfl hl.1 rfl rfl dX4_addField_56 ⟨Nat.le_of_ble_eq_true rfl, Nat.le_of_ble_eq_true rfl⟩ (fun rr8 uu6 H locs hp7 hP hD hS => ?_)
        have hP : va_P D vwCl [(o, .inr (4, [.ref g, .ref q, .ref P, .ref A, .ref U])), (g, .inr (1, [.ref a1, .ref a2, .ref a3, .ref a4, .ref a5, .int fa])), (a1, .inl (cy.1, 4, .inl (fun z => nI (va_up fc t (fc t + 1) z)))), (a2, .inl (cy.1, 32, .inl (upd ld (t * 8 + fc t) lo))), (a3, .inl (cy.2.1, 32, .inl (fun z => bI (va_up rq (t * 8 + fc t) b z))))] H := hP
        have hD : va_D (zIn [(o, .inr (4, [.ref g, .ref q, .ref P, .ref A, .ref U])), (g, .inr (1, [.ref a1, .ref a2, .ref a3, .ref a4, .ref a5, .int fa])), (a1, .inl (cy.1, 4, .inl (fun z => nI (fc z)))), (a2, .inl (cy.1, 32, .inl ld)), (a3, .inl (cy.2.1, 32, .inl (fun z => bI (rq z))))]) [(o, .inr (4, [.ref g, .ref q, .ref P, .ref A, .ref U])), (g, .inr (1, [.ref a1, .ref a2, .ref a3, .ref a4, .ref a5, .int fa])), (a1, .inl (cy.1, 4, .inl (fun z => nI (va_up fc t (fc t + 1) z)))), (a2, .inl (cy.1, 32, .inl (upd ld (t * 8 + fc t) lo))), (a3, .inl (cy.2.1, 32, .inl (fun z => bI (va_up rq (t * 8 + fc t) b z))))] := hD
        exact z_iretW () hx hb hr hlocks hS dX4_addField_59 hP hp7
      · have cb6 : ¬ ((fc t) < 8) := zn_lt_f (a := (fc t)) (b := 8) (by omega) (by omega) cb6
        exact absurd hf cb6
    · have cb5 : (decide (inN 4 lo)) = false := bI_t0 cb5
      exact absurd (hlo.resolve_left cb1) (of_decide_eq_false cb5)
abbrev rmX4_addField_t : Room := { frames := 7, cells := 1, slots := 6, locals := 110 }
set_option maxHeartbeats 4000000 in
set_option maxRecDepth 100000 in
theorem c_X4_addField_badT {l : Launch} {D : va_G} {cy : zCy} {o g q P A U a1 a2 a3 a4 a5 : Nat} {fa : Int32} {fc : Nat → Nat} {ld : Nat → Int32} {rq : Nat → Bool} {x lo : Int32} (hbad : ¬ inN 4 x) (b : Bool) (hl9 : l.stackTraces = false) : zX (Unit) l yX4_addField wsX4_addField rmX4_addField_t D cy [(o, .inr (4, [.ref g, .ref q, .ref P, .ref A, .ref U])), (g, .inr (1, [.ref a1, .ref a2, .ref a3, .ref a4, .ref a5, .int fa])), (a1, .inl (cy.1, 4, .inl (fun z => nI (fc z)))), (a2, .inl (cy.1, 32, .inl ld)), (a3, .inl (cy.2.1, 32, .inl (fun z => bI (rq z))))] [.ref o, .int x, .int lo, .int (bI (b))] zIAE (fun _ => True) (fun _ => [(o, .inr (4, [.ref g, .ref q, .ref P, .ref A, .ref U])), (g, .inr (1, [.ref a1, .ref a2, .ref a3, .ref a4, .ref a5, .int fa])), (a1, .inl (cy.1, 4, .inl (fun z => nI (fc z)))), (a2, .inl (cy.1, 32, .inl ld)), (a3, .inl (cy.2.1, 32, .inl (fun z => bI (rq z))))]) := by
  refine zX.of (cc := cX4_addField) (maxL := 4) (ret := (some .int)) (by decide) rfl rfl ?_
  intro p e s m below meth c ls C htab hP hK hD hTs hTh hl
  obtain ⟨hx, hb, hr, hml, hts, hown, hlocks⟩ := C
  have hS : va_S (zIn [(o, .inr (4, [.ref g, .ref q, .ref P, .ref A, .ref U])), (g, .inr (1, [.ref a1, .ref a2, .ref a3, .ref a4, .ref a5, .int fa])), (a1, .inl (cy.1, 4, .inl (fun z => nI (fc z)))), (a2, .inl (cy.1, 32, .inl ld)), (a3, .inl (cy.2.1, 32, .inl (fun z => bI (rq z))))]) s.heap s.heap [] := va_S.rf
  have hl : lv_has ls 4 [(0, .ref o), (1, .int x), (2, .int lo), (3, .int (bI (b)))] := hl
  refine lv_iload_n hx hb dX4_addField_0 rfl (lv_at hl 1 rfl) ?_
  exact z_thruS (As := [.int x]) (rest := []) () ⟨hx, hb, hml, hown, hts⟩ hK hP hD hS hTs hTh (c_X4_checkType_bad (x := x) hbad hl9) (va_cwS 1 hts gX4_addField_X4_checkType rfl rfl rfl k_yX4_checkType ⟨Nat.le_of_ble_eq_true rfl, Nat.le_of_ble_eq_true rfl⟩) rfl hl.1 rfl rfl dX4_addField_1 ⟨Nat.le_of_ble_eq_true rfl, Nat.le_of_ble_eq_true rfl⟩ htab hlocks trivial rfl
set_option maxRecDepth 20000 in
theorem lk199_wsX4_addField : Cond.classLink RX4 52 "java/lang/IllegalArgumentException" ∈ wsX4_addField := by decide +kernel
set_option maxRecDepth 20000 in
theorem lk200_wsX4_addField : Cond.initialized "java/lang/IllegalArgumentException" ∈ wsX4_addField := by decide +kernel
set_option maxHeartbeats 4000000 in
set_option maxRecDepth 100000 in
theorem c_X4_addField_badL {l : Launch} {D : va_G} {cy : zCy} {o g q P A U a1 a2 a3 a4 a5 : Nat} {fa : Int32} {fc : Nat → Nat} {ld : Nat → Int32} {rq : Nat → Bool} {t : Nat} (ht : t < 4) {lo : Int32} (hlo : ¬ (lo = -1 ∨ inN 4 lo)) (b : Bool) (hl9 : l.stackTraces = false) : zX (Unit) l yX4_addField wsX4_addField rmX4_addField_t D cy [(o, .inr (4, [.ref g, .ref q, .ref P, .ref A, .ref U])), (g, .inr (1, [.ref a1, .ref a2, .ref a3, .ref a4, .ref a5, .int fa])), (a1, .inl (cy.1, 4, .inl (fun z => nI (fc z)))), (a2, .inl (cy.1, 32, .inl ld)), (a3, .inl (cy.2.1, 32, .inl (fun z => bI (rq z))))] [.ref o, .int (nI t), .int lo, .int (bI (b))] zIAE (fun _ => True) (fun _ => [(o, .inr (4, [.ref g, .ref q, .ref P, .ref A, .ref U])), (g, .inr (1, [.ref a1, .ref a2, .ref a3, .ref a4, .ref a5, .int fa])), (a1, .inl (cy.1, 4, .inl (fun z => nI (fc z)))), (a2, .inl (cy.1, 32, .inl ld)), (a3, .inl (cy.2.1, 32, .inl (fun z => bI (rq z))))]) := by
  refine zX.of (cc := cX4_addField) (maxL := 4) (ret := (some .int)) (by decide) rfl rfl ?_
  intro p e s m below meth c ls C htab hP hK hD hTs hTh hl
  obtain ⟨hx, hb, hr, hml, hts, hown, hlocks⟩ := C
  have hS : va_S (zIn [(o, .inr (4, [.ref g, .ref q, .ref P, .ref A, .ref U])), (g, .inr (1, [.ref a1, .ref a2, .ref a3, .ref a4, .ref a5, .int fa])), (a1, .inl (cy.1, 4, .inl (fun z => nI (fc z)))), (a2, .inl (cy.1, 32, .inl ld)), (a3, .inl (cy.2.1, 32, .inl (fun z => bI (rq z))))]) s.heap s.heap [] := va_S.rf
  have hl : lv_has ls 4 [(0, .ref o), (1, .int (nI t)), (2, .int lo), (3, .int (bI (b)))] := hl
  refine lv_iload_n hx hb dX4_addField_0 rfl (lv_at hl 1 rfl) ?_
  refine z_callUS (As := [.int (nI t)]) (rest := []) ⟨hx, hb, hml, hown, hts⟩ hK hP hS (c_X4_checkType_ok (k := t) (by omega)) (va_cwS 1 hts gX4_addField_X4_checkType rfl rfl rfl k_yX4_checkType ⟨Nat.le_of_ble_eq_true rfl, Nat.le_of_ble_eq_true rfl⟩) rfl hl.1 rfl rfl dX4_addField_1 ⟨Nat.le_of_ble_eq_true rfl, Nat.le_of_ble_eq_true rfl⟩ (fun H locs hP hS => ?_)
  refine lv_iload_n hx hb dX4_addField_4 rfl (lv_at hl 2 rfl) ?_
  refine lv_iconst (v := (-1 : Int32)) hx hb dX4_addField_5 (by decide) ?_
  refine lv_icmp_eq (tgt := 26) hx hb dX4_addField_6 (by decide) (fun cb1 => ?_) (fun cb1 => ?_)
  · skip
    exact absurd (Or.inl cb1) hlo
  · skip
    refine lv_iload_n hx hb dX4_addField_9 rfl (lv_at hl 2 rfl) ?_
    refine z_callS (As := [.int lo]) (rest := []) ⟨hx, hb, hml, hown, hts⟩ hK hP hS (c_X4_isType lo) (va_cwS 1 hts gX4_addField_X4_isType rfl rfl rfl k_yX4_isType ⟨Nat.le_of_ble_eq_true rfl, Nat.le_of_ble_eq_true rfl⟩) rfl hl.1 rfl rfl dX4_addField_10 ⟨Nat.le_of_ble_eq_true rfl, Nat.le_of_ble_eq_true rfl⟩ (fun H locs hP hS => ?_)
    refine lv_if_ne (tgt := 26) hx hb dX4_addField_13 (by decide) (fun cb2 => ?_) (fun cb2 => ?_)
    · have cb2 : (decide (inN 4 lo)) = true := bI_f0 cb2
      exact absurd (Or.inr (of_decide_eq_true cb2)) hlo
    · have cb2 : (decide (inN 4 lo)) = false := bI_t0 cb2
      exact z_throw (E := zIAE) (ik := 52) (is := 54) (ic := 56) (tx := "a field is plain or leads to a type from 0 to 3") () hx hb hl9 hml hl.1 hown hlocks (by decide) hts (fun w hw => List.mem_cons_of_mem _ (List.mem_append_left _ (List.mem_append_right _ hw))) lk199_wsX4_addField lk200_wsX4_addField hB_56 hG_56 rfl hTs (by decide) (by decide) hTh hS dX4_addField_16 dX4_addField_19 dX4_addField_20 dX4_addField_22 dX4_addField_25 htab ⟨rfl, rfl, rfl, rfl⟩ hP trivial
set_option maxRecDepth 20000 in
theorem lk201_wsX4_addField : Cond.classLink RX4 63 "java/lang/IllegalStateException" ∈ wsX4_addField := by decide +kernel
set_option maxRecDepth 20000 in
theorem lk202_wsX4_addField : Cond.initialized "java/lang/IllegalStateException" ∈ wsX4_addField := by decide +kernel
set_option maxHeartbeats 4000000 in
set_option maxRecDepth 100000 in
theorem c_X4_addField_badF {l : Launch} {D : va_G} {cy : zCy} {o g q P A U a1 a2 a3 a4 a5 : Nat} {fa : Int32} {fc : Nat → Nat} {ld : Nat → Int32} {rq : Nat → Bool} {t : Nat} (ht : t < 4) (hf : ¬ fc t < 8) (hf8 : fc t ≤ 8) {lo : Int32} (hlo : lo = -1 ∨ inN 4 lo) (b : Bool) (hl9 : l.stackTraces = false) : zX (Unit) l yX4_addField wsX4_addField rmX4_addField_t D cy [(o, .inr (4, [.ref g, .ref q, .ref P, .ref A, .ref U])), (g, .inr (1, [.ref a1, .ref a2, .ref a3, .ref a4, .ref a5, .int fa])), (a1, .inl (cy.1, 4, .inl (fun z => nI (fc z)))), (a2, .inl (cy.1, 32, .inl ld)), (a3, .inl (cy.2.1, 32, .inl (fun z => bI (rq z))))] [.ref o, .int (nI t), .int lo, .int (bI (b))] zISE (fun _ => True) (fun _ => [(o, .inr (4, [.ref g, .ref q, .ref P, .ref A, .ref U])), (g, .inr (1, [.ref a1, .ref a2, .ref a3, .ref a4, .ref a5, .int fa])), (a1, .inl (cy.1, 4, .inl (fun z => nI (fc z)))), (a2, .inl (cy.1, 32, .inl ld)), (a3, .inl (cy.2.1, 32, .inl (fun z => bI (rq z))))]) := by
  refine zX.of (cc := cX4_addField) (maxL := 4) (ret := (some .int)) (by decide) rfl rfl ?_
  intro p e s m below meth c ls C htab hP hK hD hTs hTh hl
  obtain ⟨hx, hb, hr, hml, hts, hown, hlocks⟩ := C
  have hS : va_S (zIn [(o, .inr (4, [.ref g, .ref q, .ref P, .ref A, .ref U])), (g, .inr (1, [.ref a1, .ref a2, .ref a3, .ref a4, .ref a5, .int fa])), (a1, .inl (cy.1, 4, .inl (fun z => nI (fc z)))), (a2, .inl (cy.1, 32, .inl ld)), (a3, .inl (cy.2.1, 32, .inl (fun z => bI (rq z))))]) s.heap s.heap [] := va_S.rf
  have hl : lv_has ls 4 [(0, .ref o), (1, .int (nI t)), (2, .int lo), (3, .int (bI (b)))] := hl
  refine lv_iload_n hx hb dX4_addField_0 rfl (lv_at hl 1 rfl) ?_
  refine z_callUS (As := [.int (nI t)]) (rest := []) ⟨hx, hb, hml, hown, hts⟩ hK hP hS (c_X4_checkType_ok (k := t) (by omega)) (va_cwS 1 hts gX4_addField_X4_checkType rfl rfl rfl k_yX4_checkType ⟨Nat.le_of_ble_eq_true rfl, Nat.le_of_ble_eq_true rfl⟩) rfl hl.1 rfl rfl dX4_addField_1 ⟨Nat.le_of_ble_eq_true rfl, Nat.le_of_ble_eq_true rfl⟩ (fun H locs hP hS => ?_)
  refine lv_iload_n hx hb dX4_addField_4 rfl (lv_at hl 2 rfl) ?_
  refine lv_iconst (v := (-1 : Int32)) hx hb dX4_addField_5 (by decide) ?_
  refine lv_icmp_eq (tgt := 26) hx hb dX4_addField_6 (by decide) (fun cb1 => ?_) (fun cb1 => ?_)
  · skip
    refine lv_aload_n hx hb dX4_addField_26 rfl (lv_at hl 0 rfl) ?_
    refine va_get (D := D) (ci := 4) (v := .ref g) (C := RX4) (T := TX4) (N := 5) hx hb hts in_wsX4_addField_X4 hown hK.1 hP 0 rfl rfl 0 (by decide) (hts _ lk196_wsX4_addField) (fun _ h9 => h9) rfl dX4_addField_27 ?_
    refine lv_iload_n hx hb dX4_addField_30 rfl (lv_at hl 1 rfl) ?_
    refine z_callV (b := g) (As := [.int (nI t)]) (rest := []) ⟨hx, hb, hml, hown, hts⟩ hK hP hS (c_X1_fieldsOf (i := 1) (j := 2) rfl rfl ht) (cwV 1 hts gX4_addField_X1_fieldsOf rfl rfl rfl k_yX1_fieldsOf ⟨Nat.le_of_ble_eq_true rfl, Nat.le_of_ble_eq_true rfl⟩) 1 1 rfl rfl rfl rfl hl.1 rfl rfl dX4_addField_31 ⟨Nat.le_of_ble_eq_true rfl, Nat.le_of_ble_eq_true rfl⟩ (fun H locs hP hS => ?_)
    refine lv_bipush (v := nI 8) hx hb dX4_addField_34 (by decide) ?_
    refine lv_icmp_lt (tgt := 49) hx hb dX4_addField_36 (by decide) (fun cb2 => ?_) (fun cb2 => ?_)
    · have cb2 : (fc t) < 8 := zn_lt_t (a := (fc t)) (b := 8) (by omega) (by omega) cb2
      exact absurd cb2 hf
    · have cb2 : ¬ ((fc t) < 8) := zn_lt_f (a := (fc t)) (b := 8) (by omega) (by omega) cb2
      exact z_throw (E := zISE) (ik := 63) (is := 65) (ic := 67) (tx := "the type has 8 fields") () hx hb hl9 hml hl.1 hown hlocks (by decide) hts (fun w hw => List.mem_cons_of_mem _ (List.mem_append_right _ hw)) lk201_wsX4_addField lk202_wsX4_addField hB_67 hG_67 rfl hTs (by decide) (by decide) hTh hS dX4_addField_39 dX4_addField_42 dX4_addField_43 dX4_addField_45 dX4_addField_48 htab ⟨rfl, rfl, rfl, rfl⟩ hP trivial
  · skip
    refine lv_iload_n hx hb dX4_addField_9 rfl (lv_at hl 2 rfl) ?_
    refine z_callS (As := [.int lo]) (rest := []) ⟨hx, hb, hml, hown, hts⟩ hK hP hS (c_X4_isType lo) (va_cwS 1 hts gX4_addField_X4_isType rfl rfl rfl k_yX4_isType ⟨Nat.le_of_ble_eq_true rfl, Nat.le_of_ble_eq_true rfl⟩) rfl hl.1 rfl rfl dX4_addField_10 ⟨Nat.le_of_ble_eq_true rfl, Nat.le_of_ble_eq_true rfl⟩ (fun H locs hP hS => ?_)
    refine lv_if_ne (tgt := 26) hx hb dX4_addField_13 (by decide) (fun cb3 => ?_) (fun cb3 => ?_)
    · have cb3 : (decide (inN 4 lo)) = true := bI_f0 cb3
      refine lv_aload_n hx hb dX4_addField_26 rfl (lv_at hl 0 rfl) ?_
      refine va_get (D := D) (ci := 4) (v := .ref g) (C := RX4) (T := TX4) (N := 5) hx hb hts in_wsX4_addField_X4 hown hK.1 hP 0 rfl rfl 0 (by decide) (hts _ lk196_wsX4_addField) (fun _ h9 => h9) rfl dX4_addField_27 ?_
      refine lv_iload_n hx hb dX4_addField_30 rfl (lv_at hl 1 rfl) ?_
      refine z_callV (b := g) (As := [.int (nI t)]) (rest := []) ⟨hx, hb, hml, hown, hts⟩ hK hP hS (c_X1_fieldsOf (i := 1) (j := 2) rfl rfl ht) (cwV 1 hts gX4_addField_X1_fieldsOf rfl rfl rfl k_yX1_fieldsOf ⟨Nat.le_of_ble_eq_true rfl, Nat.le_of_ble_eq_true rfl⟩) 1 1 rfl rfl rfl rfl hl.1 rfl rfl dX4_addField_31 ⟨Nat.le_of_ble_eq_true rfl, Nat.le_of_ble_eq_true rfl⟩ (fun H locs hP hS => ?_)
      refine lv_bipush (v := nI 8) hx hb dX4_addField_34 (by decide) ?_
      refine lv_icmp_lt (tgt := 49) hx hb dX4_addField_36 (by decide) (fun cb4 => ?_) (fun cb4 => ?_)
      · have cb4 : (fc t) < 8 := zn_lt_t (a := (fc t)) (b := 8) (by omega) (by omega) cb4
        exact absurd cb4 hf
      · have cb4 : ¬ ((fc t) < 8) := zn_lt_f (a := (fc t)) (b := 8) (by omega) (by omega) cb4
        exact z_throw (E := zISE) (ik := 63) (is := 65) (ic := 67) (tx := "the type has 8 fields") () hx hb hl9 hml hl.1 hown hlocks (by decide) hts (fun w hw => List.mem_cons_of_mem _ (List.mem_append_right _ hw)) lk201_wsX4_addField lk202_wsX4_addField hB_67 hG_67 rfl hTs (by decide) (by decide) hTh hS dX4_addField_39 dX4_addField_42 dX4_addField_43 dX4_addField_45 dX4_addField_48 htab ⟨rfl, rfl, rfl, rfl⟩ hP trivial
    · have cb3 : (decide (inN 4 lo)) = false := bI_t0 cb3
      exact absurd (hlo.resolve_left cb1) (of_decide_eq_false cb3)
theorem k_yX4_checkService : yX4_checkService.cls ≠ "java/lang/invoke/MethodHandle" ∧ yX4_checkService.cls ≠ "java/lang/invoke/VarHandle" ∧ (parseMethodDescriptor yX4_checkService.desc).map (fun d => d.parameters.length) = some 1 := by decide +kernel
theorem k_yX4_checkField : yX4_checkField.cls = RX4 ∧ yX4_checkField.cls ≠ "java/lang/invoke/MethodHandle" ∧ yX4_checkField.cls ≠ "java/lang/invoke/VarHandle" ∧ (parseMethodDescriptor yX4_checkField.desc).map (fun d => d.parameters.length) = some 2 := by decide +kernel
set_option maxRecDepth 20000 in
theorem lk205_wsX4_own : Cond.fieldLink RX4 28 "QueryGateway" "plan" "LQueryGateway$Plan;" ∈ wsX4_own := by decide +kernel
set_option maxRecDepth 20000 in
theorem in_wsX4_own_X4 : ∀ w ∈ wsX40, w ∈ wsX4_own := by decide +kernel
theorem k_yX2_forget : yX2_forget.cls = RX2 ∧ yX2_forget.cls ≠ "java/lang/invoke/MethodHandle" ∧ yX2_forget.cls ≠ "java/lang/invoke/VarHandle" ∧ (parseMethodDescriptor yX2_forget.desc).map (fun d => d.parameters.length) = some 0 := by decide +kernel
set_option maxRecDepth 20000 in
theorem lk208_wsX4_own : Cond.fieldLink RX4 20 "QueryGateway" "graph" "LQueryGateway$Graph;" ∈ wsX4_own := by decide +kernel
theorem k_yX1_putOwner : yX1_putOwner.cls = RX1 ∧ yX1_putOwner.cls ≠ "java/lang/invoke/MethodHandle" ∧ yX1_putOwner.cls ≠ "java/lang/invoke/VarHandle" ∧ (parseMethodDescriptor yX1_putOwner.desc).map (fun d => d.parameters.length) = some 3 := by decide +kernel
abbrev rmX4_own : Room := { frames := 3, cells := 0, slots := 0, locals := 63 }
set_option maxHeartbeats 4000000 in
set_option maxRecDepth 100000 in
theorem c_X4_own_ok {l : Launch} {D : va_G} {cy : zCy} {o g q P A U a1 a2 a3 a4 a5 : Nat} {p1 p2 p3 p4 : Nat} {fa cnt ln kn th : Int32} {fc ow : Nat → Nat} {v t f : Nat} (hv : v < 4) (ht : t < 4) (hf : f < fc t) (hf8 : fc t ≤ 8) (ho : ow (t * 8 + f) < 16) (b : Bool) : zW (Unit) l yX4_own wsX4_own rmX4_own D cy [(o, .inr (4, [.ref g, .ref q, .ref P, .ref A, .ref U])), (g, .inr (1, [.ref a1, .ref a2, .ref a3, .ref a4, .ref a5, .int fa])), (a1, .inl (cy.1, 4, .inl (fun z => nI (fc z)))), (a4, .inl (cy.1, 32, .inl (fun z => nI (ow z)))), (P, .inr (2, [.ref g, .ref q, .ref p1, .ref p2, .ref p3, .ref p4, .int cnt, .int ln, .int kn, .int th]))] [.ref o, .int (nI v), .int (nI t), .int (nI f), .int (bI (b))] (fun r _ => r = bI ((ow (t * 8 + f)).testBit v)) (fun _ => [(o, .inr (4, [.ref g, .ref q, .ref P, .ref A, .ref U])), (g, .inr (1, [.ref a1, .ref a2, .ref a3, .ref a4, .ref a5, .int fa])), (a1, .inl (cy.1, 4, .inl (fun z => nI (fc z)))), (a4, .inl (cy.1, 32, .inl (fun z => nI (va_up ow (t * 8 + f) (zset b (ow (t * 8 + f)) v) z)))), (P, .inr (2, [.ref g, .ref q, .ref p1, .ref p2, .ref p3, .ref p4, .int cnt, .int ln, .int (nI 0), .int th]))]) := by
  refine zW.of (cc := cX4_own) (maxL := 5) (ret := (some .boolean)) (by decide) rfl rfl ?_
  intro p e s m below meth c ls C hP hK hD hl
  obtain ⟨hx, hb, hr, hml, hts, hown, hlocks⟩ := C
  have hS : va_S (zIn [(o, .inr (4, [.ref g, .ref q, .ref P, .ref A, .ref U])), (g, .inr (1, [.ref a1, .ref a2, .ref a3, .ref a4, .ref a5, .int fa])), (a1, .inl (cy.1, 4, .inl (fun z => nI (fc z)))), (a4, .inl (cy.1, 32, .inl (fun z => nI (ow z)))), (P, .inr (2, [.ref g, .ref q, .ref p1, .ref p2, .ref p3, .ref p4, .int cnt, .int ln, .int kn, .int th]))]) s.heap s.heap [] := va_S.rf
  have hl : lv_has ls 5 [(0, .ref o), (1, .int (nI v)), (2, .int (nI t)), (3, .int (nI f)), (4, .int (bI (b)))] := hl
  refine lv_iload_n hx hb dX4_own_0 rfl (lv_at hl 1 rfl) ?_
  refine z_callUS (As := [.int (nI v)]) (rest := []) ⟨hx, hb, hml, hown, hts⟩ hK hP hS (c_X4_checkService_ok (k := v) (by omega)) (va_cwS 1 hts gX4_own_X4_checkService rfl rfl rfl k_yX4_checkService ⟨Nat.le_of_ble_eq_true rfl, Nat.le_of_ble_eq_true rfl⟩) rfl hl.1 rfl rfl dX4_own_1 ⟨Nat.le_of_ble_eq_true rfl, Nat.le_of_ble_eq_true rfl⟩ (fun H locs hP hS => ?_)
  refine lv_iload_n hx hb dX4_own_4 rfl (lv_at hl 2 rfl) ?_
  refine z_callUS (As := [.int (nI t)]) (rest := []) ⟨hx, hb, hml, hown, hts⟩ hK hP hS (c_X4_checkType_ok (k := t) (by omega)) (va_cwS 1 hts gX4_own_X4_checkType rfl rfl rfl k_yX4_checkType ⟨Nat.le_of_ble_eq_true rfl, Nat.le_of_ble_eq_true rfl⟩) rfl hl.1 rfl rfl dX4_own_5 ⟨Nat.le_of_ble_eq_true rfl, Nat.le_of_ble_eq_true rfl⟩ (fun H locs hP hS => ?_)
  refine lv_aload_n hx hb dX4_own_8 rfl (lv_at hl 0 rfl) ?_
  refine lv_iload_n hx hb dX4_own_9 rfl (lv_at hl 2 rfl) ?_
  refine lv_iload_n hx hb dX4_own_10 rfl (lv_at hl 3 rfl) ?_
  refine z_callUV (b := o) (As := [.int (nI t), .int (nI f)]) (rest := []) ⟨hx, hb, hml, hown, hts⟩ hK hP hS (c_X4_checkField_ok (io := 0) (i := 1) (j := 2) rfl rfl rfl ht hf (by omega)) (cwV 2 hts gX4_own_X4_checkField rfl rfl rfl k_yX4_checkField ⟨Nat.le_of_ble_eq_true rfl, Nat.le_of_ble_eq_true rfl⟩) 0 4 rfl rfl rfl rfl hl.1 rfl rfl dX4_own_11 ⟨Nat.le_of_ble_eq_true rfl, Nat.le_of_ble_eq_true rfl⟩ (fun H locs hP hS => ?_)
  refine lv_aload_n hx hb dX4_own_14 rfl (lv_at hl 0 rfl) ?_
  refine va_get (D := D) (ci := 4) (v := .ref P) (C := RX4) (T := TX4) (N := 5) hx hb hts in_wsX4_own_X4 hown hK.1 hP 0 rfl rfl 2 (by decide) (hts _ lk205_wsX4_own) (fun _ h9 => h9) rfl dX4_own_15 ?_
  refine z_callVV (b := P) (As := []) (rest := []) [(o, .inr (4, [.ref g, .ref q, .ref P, .ref A, .ref U])), (g, .inr (1, [.ref a1, .ref a2, .ref a3, .ref a4, .ref a5, .int fa])), (a1, .inl (cy.1, 4, .inl (fun z => nI (fc z)))), (a4, .inl (cy.1, 32, .inl (fun z => nI (ow z))))] ⟨hx, hb, hml, hown, hts⟩ hK hP hD hS (c_X2_forget) (cwV 0 hts gX4_own_X2_forget rfl rfl rfl k_yX2_forget ⟨Nat.le_of_ble_eq_true rfl, Nat.le_of_ble_eq_true rfl⟩) [4] [0, 1, 2, 3] rfl rfl rfl (fun _ => rfl) 4 2 rfl rfl rfl rfl hl.1 rfl rfl dX4_own_18 ⟨Nat.le_of_ble_eq_true rfl, Nat.le_of_ble_eq_true rfl⟩ (fun uu0 H locs hp1 hP hD hS => ?_)
  have hP : va_P D vwCl [(o, .inr (4, [.ref g, .ref q, .ref P, .ref A, .ref U])), (g, .inr (1, [.ref a1, .ref a2, .ref a3, .ref a4, .ref a5, .int fa])), (a1, .inl (cy.1, 4, .inl (fun z => nI (fc z)))), (a4, .inl (cy.1, 32, .inl (fun z => nI (ow z)))), (P, .inr (2, [.ref g, .ref q, .ref p1, .ref p2, .ref p3, .ref p4, .int cnt, .int ln, .int (nI 0), .int th]))] H := hP
  have hD : va_D (zIn [(o, .inr (4, [.ref g, .ref q, .ref P, .ref A, .ref U])), (g, .inr (1, [.ref a1, .ref a2, .ref a3, .ref a4, .ref a5, .int fa])), (a1, .inl (cy.1, 4, .inl (fun z => nI (fc z)))), (a4, .inl (cy.1, 32, .inl (fun z => nI (ow z)))), (P, .inr (2, [.ref g, .ref q, .ref p1, .ref p2, .ref p3, .ref p4, .int cnt, .int ln, .int kn, .int th]))]) [(o, .inr (4, [.ref g, .ref q, .ref P, .ref A, .ref U])), (g, .inr (1, [.ref a1, .ref a2, .ref a3, .ref a4, .ref a5, .int fa])), (a1, .inl (cy.1, 4, .inl (fun z => nI (fc z)))), (a4, .inl (cy.1, 32, .inl (fun z => nI (ow z)))), (P, .inr (2, [.ref g, .ref q, .ref p1, .ref p2, .ref p3, .ref p4, .int cnt, .int ln, .int (nI 0), .int th]))] := hD
  refine lv_aload_n hx hb dX4_own_21 rfl (lv_at hl 0 rfl) ?_
  refine va_get (D := D) (ci := 4) (v := .ref g) (C := RX4) (T := TX4) (N := 5) hx hb hts in_wsX4_own_X4 hown hK.1 hP 0 rfl rfl 0 (by decide) (hts _ lk208_wsX4_own) (fun _ h9 => h9) rfl dX4_own_22 ?_
  refine lv_iload_n hx hb dX4_own_25 rfl (lv_at hl 2 rfl) ?_
  refine lv_iload_n hx hb dX4_own_26 rfl (lv_at hl 3 rfl) ?_
  refine z_callS (As := [.int (nI t), .int (nI f)]) (rest := [.ref g]) ⟨hx, hb, hml, hown, hts⟩ hK hP hS (c_X4_slotOf t f) (va_cwS 2 hts gX4_own_X4_slotOf rfl rfl rfl k_yX4_slotOf ⟨Nat.le_of_ble_eq_true rfl, Nat.le_of_ble_eq_true rfl⟩) rfl hl.1 rfl rfl dX4_own_27 ⟨Nat.le_of_ble_eq_true rfl, Nat.le_of_ble_eq_true rfl⟩ (fun H locs hP hS => ?_)
  refine lv_iload_n hx hb dX4_own_30 rfl (lv_at hl 1 rfl) ?_
  refine lv_iload hx hb dX4_own_31 (lv_at hl 4 rfl) ?_
  refine z_callVW (b := g) (As := [.int (nI (t * 8 + f)), .int (nI v), .int (bI (b))]) (rest := []) [(o, .inr (4, [.ref g, .ref q, .ref P, .ref A, .ref U])), (a1, .inl (cy.1, 4, .inl (fun z => nI (fc z)))), (P, .inr (2, [.ref g, .ref q, .ref p1, .ref p2, .ref p3, .ref p4, .int cnt, .int ln, .int (nI 0), .int th]))] ⟨hx, hb, hml, hown, hts⟩ hK hP hD hS (c_X1_putOwner (t := t * 8 + f) (v := v) (by omega) hv ho b) (cwV 3 hts gX4_own_X1_putOwner rfl rfl rfl k_yX1_putOwner ⟨Nat.le_of_ble_eq_true rfl, Nat.le_of_ble_eq_true rfl⟩) [1, 3] [0, 2, 4] rfl rfl rfl (fun _ => rfl) 1 1 rfl rfl rfl rfl hl.1 rfl rfl dX4_own_33 ⟨Nat.le_of_ble_eq_true rfl, Nat.le_of_ble_eq_true rfl⟩ (fun rr3 uu1 H locs hp2 hP hD hS => ?_)
  have hP : va_P D vwCl [(o, .inr (4, [.ref g, .ref q, .ref P, .ref A, .ref U])), (a1, .inl (cy.1, 4, .inl (fun z => nI (fc z)))), (P, .inr (2, [.ref g, .ref q, .ref p1, .ref p2, .ref p3, .ref p4, .int cnt, .int ln, .int (nI 0), .int th])), (g, .inr (1, [.ref a1, .ref a2, .ref a3, .ref a4, .ref a5, .int fa])), (a4, .inl (cy.1, 32, .inl (fun z => nI (va_up ow (t * 8 + f) (zset b (ow (t * 8 + f)) v) z))))] H := hP
  have hD : va_D (zIn [(o, .inr (4, [.ref g, .ref q, .ref P, .ref A, .ref U])), (g, .inr (1, [.ref a1, .ref a2, .ref a3, .ref a4, .ref a5, .int fa])), (a1, .inl (cy.1, 4, .inl (fun z => nI (fc z)))), (a4, .inl (cy.1, 32, .inl (fun z => nI (ow z)))), (P, .inr (2, [.ref g, .ref q, .ref p1, .ref p2, .ref p3, .ref p4, .int cnt, .int ln, .int kn, .int th]))]) [(o, .inr (4, [.ref g, .ref q, .ref P, .ref A, .ref U])), (a1, .inl (cy.1, 4, .inl (fun z => nI (fc z)))), (P, .inr (2, [.ref g, .ref q, .ref p1, .ref p2, .ref p3, .ref p4, .int cnt, .int ln, .int (nI 0), .int th])), (g, .inr (1, [.ref a1, .ref a2, .ref a3, .ref a4, .ref a5, .int fa])), (a4, .inl (cy.1, 32, .inl (fun z => nI (va_up ow (t * 8 + f) (zset b (ow (t * 8 + f)) v) z))))] := hD
  have hP := hP.sub (ws' := [(o, .inr (4, [.ref g, .ref q, .ref P, .ref A, .ref U])), (g, .inr (1, [.ref a1, .ref a2, .ref a3, .ref a4, .ref a5, .int fa])), (a1, .inl (cy.1, 4, .inl (fun z => nI (fc z)))), (a4, .inl (cy.1, 32, .inl (fun z => nI (va_up ow (t * 8 + f) (zset b (ow (t * 8 + f)) v) z)))), (P, .inr (2, [.ref g, .ref q, .ref p1, .ref p2, .ref p3, .ref p4, .int cnt, .int ln, .int (nI 0), .int th]))]) [0, 3, 1, 4, 2] rfl
  have hD := hD.sub (ws' := [(o, .inr (4, [.ref g, .ref q, .ref P, .ref A, .ref U])), (g, .inr (1, [.ref a1, .ref a2, .ref a3, .ref a4, .ref a5, .int fa])), (a1, .inl (cy.1, 4, .inl (fun z => nI (fc z)))), (a4, .inl (cy.1, 32, .inl (fun z => nI (va_up ow (t * 8 + f) (zset b (ow (t * 8 + f)) v) z)))), (P, .inr (2, [.ref g, .ref q, .ref p1, .ref p2, .ref p3, .ref p4, .int cnt, .int ln, .int (nI 0), .int th]))]) [0, 3, 1, 4, 2] (by decide) rfl
  refine z_top (y := bI ((ow (t * 8 + f)).testBit v)) hp2 ?_
  exact z_zretW () hx hb hr hlocks hS dX4_own_36 hP rfl (bI01 _)
abbrev rmX4_own_t : Room := { frames := 7, cells := 1, slots := 6, locals := 120 }
set_option maxHeartbeats 4000000 in
set_option maxRecDepth 100000 in
theorem c_X4_own_badS {l : Launch} {D : va_G} {cy : zCy} {o g q P A U a1 a2 a3 a4 a5 : Nat} {p1 p2 p3 p4 : Nat} {fa cnt ln kn th : Int32} {fc ow : Nat → Nat} {x y z : Int32} (hbad : ¬ inN 4 x) (b : Bool) (hl9 : l.stackTraces = false) : zX (Unit) l yX4_own wsX4_own rmX4_own_t D cy [(o, .inr (4, [.ref g, .ref q, .ref P, .ref A, .ref U])), (g, .inr (1, [.ref a1, .ref a2, .ref a3, .ref a4, .ref a5, .int fa])), (a1, .inl (cy.1, 4, .inl (fun z => nI (fc z)))), (a4, .inl (cy.1, 32, .inl (fun z => nI (ow z)))), (P, .inr (2, [.ref g, .ref q, .ref p1, .ref p2, .ref p3, .ref p4, .int cnt, .int ln, .int kn, .int th]))] [.ref o, .int x, .int y, .int z, .int (bI (b))] zIAE (fun _ => True) (fun _ => [(o, .inr (4, [.ref g, .ref q, .ref P, .ref A, .ref U])), (g, .inr (1, [.ref a1, .ref a2, .ref a3, .ref a4, .ref a5, .int fa])), (a1, .inl (cy.1, 4, .inl (fun z => nI (fc z)))), (a4, .inl (cy.1, 32, .inl (fun z => nI (ow z)))), (P, .inr (2, [.ref g, .ref q, .ref p1, .ref p2, .ref p3, .ref p4, .int cnt, .int ln, .int kn, .int th]))]) := by
  refine zX.of (cc := cX4_own) (maxL := 5) (ret := (some .boolean)) (by decide) rfl rfl ?_
  intro p e s m below meth c ls C htab hP hK hD hTs hTh hl
  obtain ⟨hx, hb, hr, hml, hts, hown, hlocks⟩ := C
  have hS : va_S (zIn [(o, .inr (4, [.ref g, .ref q, .ref P, .ref A, .ref U])), (g, .inr (1, [.ref a1, .ref a2, .ref a3, .ref a4, .ref a5, .int fa])), (a1, .inl (cy.1, 4, .inl (fun z => nI (fc z)))), (a4, .inl (cy.1, 32, .inl (fun z => nI (ow z)))), (P, .inr (2, [.ref g, .ref q, .ref p1, .ref p2, .ref p3, .ref p4, .int cnt, .int ln, .int kn, .int th]))]) s.heap s.heap [] := va_S.rf
  have hl : lv_has ls 5 [(0, .ref o), (1, .int x), (2, .int y), (3, .int z), (4, .int (bI (b)))] := hl
  refine lv_iload_n hx hb dX4_own_0 rfl (lv_at hl 1 rfl) ?_
  exact z_thruS (As := [.int x]) (rest := []) () ⟨hx, hb, hml, hown, hts⟩ hK hP hD hS hTs hTh (c_X4_checkService_bad (x := x) hbad hl9) (va_cwS 1 hts gX4_own_X4_checkService rfl rfl rfl k_yX4_checkService ⟨Nat.le_of_ble_eq_true rfl, Nat.le_of_ble_eq_true rfl⟩) rfl hl.1 rfl rfl dX4_own_1 ⟨Nat.le_of_ble_eq_true rfl, Nat.le_of_ble_eq_true rfl⟩ htab hlocks trivial rfl
set_option maxHeartbeats 4000000 in
set_option maxRecDepth 100000 in
theorem c_X4_own_badT {l : Launch} {D : va_G} {cy : zCy} {o g q P A U a1 a2 a3 a4 a5 : Nat} {p1 p2 p3 p4 : Nat} {fa cnt ln kn th : Int32} {fc ow : Nat → Nat} {v : Nat} (hv : v < 4) {x z : Int32} (hbad : ¬ inN 4 x) (b : Bool) (hl9 : l.stackTraces = false) : zX (Unit) l yX4_own wsX4_own rmX4_own_t D cy [(o, .inr (4, [.ref g, .ref q, .ref P, .ref A, .ref U])), (g, .inr (1, [.ref a1, .ref a2, .ref a3, .ref a4, .ref a5, .int fa])), (a1, .inl (cy.1, 4, .inl (fun z => nI (fc z)))), (a4, .inl (cy.1, 32, .inl (fun z => nI (ow z)))), (P, .inr (2, [.ref g, .ref q, .ref p1, .ref p2, .ref p3, .ref p4, .int cnt, .int ln, .int kn, .int th]))] [.ref o, .int (nI v), .int x, .int z, .int (bI (b))] zIAE (fun _ => True) (fun _ => [(o, .inr (4, [.ref g, .ref q, .ref P, .ref A, .ref U])), (g, .inr (1, [.ref a1, .ref a2, .ref a3, .ref a4, .ref a5, .int fa])), (a1, .inl (cy.1, 4, .inl (fun z => nI (fc z)))), (a4, .inl (cy.1, 32, .inl (fun z => nI (ow z)))), (P, .inr (2, [.ref g, .ref q, .ref p1, .ref p2, .ref p3, .ref p4, .int cnt, .int ln, .int kn, .int th]))]) := by
  refine zX.of (cc := cX4_own) (maxL := 5) (ret := (some .boolean)) (by decide) rfl rfl ?_
  intro p e s m below meth c ls C htab hP hK hD hTs hTh hl
  obtain ⟨hx, hb, hr, hml, hts, hown, hlocks⟩ := C
  have hS : va_S (zIn [(o, .inr (4, [.ref g, .ref q, .ref P, .ref A, .ref U])), (g, .inr (1, [.ref a1, .ref a2, .ref a3, .ref a4, .ref a5, .int fa])), (a1, .inl (cy.1, 4, .inl (fun z => nI (fc z)))), (a4, .inl (cy.1, 32, .inl (fun z => nI (ow z)))), (P, .inr (2, [.ref g, .ref q, .ref p1, .ref p2, .ref p3, .ref p4, .int cnt, .int ln, .int kn, .int th]))]) s.heap s.heap [] := va_S.rf
  have hl : lv_has ls 5 [(0, .ref o), (1, .int (nI v)), (2, .int x), (3, .int z), (4, .int (bI (b)))] := hl
  refine lv_iload_n hx hb dX4_own_0 rfl (lv_at hl 1 rfl) ?_
  refine z_callUS (As := [.int (nI v)]) (rest := []) ⟨hx, hb, hml, hown, hts⟩ hK hP hS (c_X4_checkService_ok (k := v) (by omega)) (va_cwS 1 hts gX4_own_X4_checkService rfl rfl rfl k_yX4_checkService ⟨Nat.le_of_ble_eq_true rfl, Nat.le_of_ble_eq_true rfl⟩) rfl hl.1 rfl rfl dX4_own_1 ⟨Nat.le_of_ble_eq_true rfl, Nat.le_of_ble_eq_true rfl⟩ (fun H locs hP hS => ?_)
  refine lv_iload_n hx hb dX4_own_4 rfl (lv_at hl 2 rfl) ?_
  exact z_thruS (As := [.int x]) (rest := []) () ⟨hx, hb, hml, hown, hts⟩ hK hP hD hS hTs hTh (c_X4_checkType_bad (x := x) hbad hl9) (va_cwS 1 hts gX4_own_X4_checkType rfl rfl rfl k_yX4_checkType ⟨Nat.le_of_ble_eq_true rfl, Nat.le_of_ble_eq_true rfl⟩) rfl hl.1 rfl rfl dX4_own_5 ⟨Nat.le_of_ble_eq_true rfl, Nat.le_of_ble_eq_true rfl⟩ htab hlocks trivial rfl
set_option maxHeartbeats 4000000 in
set_option maxRecDepth 100000 in
theorem c_X4_own_badF {l : Launch} {D : va_G} {cy : zCy} {o g q P A U a1 a2 a3 a4 a5 : Nat} {p1 p2 p3 p4 : Nat} {fa cnt ln kn th : Int32} {fc ow : Nat → Nat} {v t : Nat} (hv : v < 4) (ht : t < 4) {x : Int32} (hbad : ¬ inN (fc t) x) (hf8 : fc t ≤ 8) (b : Bool) (hl9 : l.stackTraces = false) : zX (Unit) l yX4_own wsX4_own rmX4_own_t D cy [(o, .inr (4, [.ref g, .ref q, .ref P, .ref A, .ref U])), (g, .inr (1, [.ref a1, .ref a2, .ref a3, .ref a4, .ref a5, .int fa])), (a1, .inl (cy.1, 4, .inl (fun z => nI (fc z)))), (a4, .inl (cy.1, 32, .inl (fun z => nI (ow z)))), (P, .inr (2, [.ref g, .ref q, .ref p1, .ref p2, .ref p3, .ref p4, .int cnt, .int ln, .int kn, .int th]))] [.ref o, .int (nI v), .int (nI t), .int x, .int (bI (b))] zIOE (fun _ => True) (fun _ => [(o, .inr (4, [.ref g, .ref q, .ref P, .ref A, .ref U])), (g, .inr (1, [.ref a1, .ref a2, .ref a3, .ref a4, .ref a5, .int fa])), (a1, .inl (cy.1, 4, .inl (fun z => nI (fc z)))), (a4, .inl (cy.1, 32, .inl (fun z => nI (ow z)))), (P, .inr (2, [.ref g, .ref q, .ref p1, .ref p2, .ref p3, .ref p4, .int cnt, .int ln, .int kn, .int th]))]) := by
  refine zX.of (cc := cX4_own) (maxL := 5) (ret := (some .boolean)) (by decide) rfl rfl ?_
  intro p e s m below meth c ls C htab hP hK hD hTs hTh hl
  obtain ⟨hx, hb, hr, hml, hts, hown, hlocks⟩ := C
  have hS : va_S (zIn [(o, .inr (4, [.ref g, .ref q, .ref P, .ref A, .ref U])), (g, .inr (1, [.ref a1, .ref a2, .ref a3, .ref a4, .ref a5, .int fa])), (a1, .inl (cy.1, 4, .inl (fun z => nI (fc z)))), (a4, .inl (cy.1, 32, .inl (fun z => nI (ow z)))), (P, .inr (2, [.ref g, .ref q, .ref p1, .ref p2, .ref p3, .ref p4, .int cnt, .int ln, .int kn, .int th]))]) s.heap s.heap [] := va_S.rf
  have hl : lv_has ls 5 [(0, .ref o), (1, .int (nI v)), (2, .int (nI t)), (3, .int x), (4, .int (bI (b)))] := hl
  refine lv_iload_n hx hb dX4_own_0 rfl (lv_at hl 1 rfl) ?_
  refine z_callUS (As := [.int (nI v)]) (rest := []) ⟨hx, hb, hml, hown, hts⟩ hK hP hS (c_X4_checkService_ok (k := v) (by omega)) (va_cwS 1 hts gX4_own_X4_checkService rfl rfl rfl k_yX4_checkService ⟨Nat.le_of_ble_eq_true rfl, Nat.le_of_ble_eq_true rfl⟩) rfl hl.1 rfl rfl dX4_own_1 ⟨Nat.le_of_ble_eq_true rfl, Nat.le_of_ble_eq_true rfl⟩ (fun H locs hP hS => ?_)
  refine lv_iload_n hx hb dX4_own_4 rfl (lv_at hl 2 rfl) ?_
  refine z_callUS (As := [.int (nI t)]) (rest := []) ⟨hx, hb, hml, hown, hts⟩ hK hP hS (c_X4_checkType_ok (k := t) (by omega)) (va_cwS 1 hts gX4_own_X4_checkType rfl rfl rfl k_yX4_checkType ⟨Nat.le_of_ble_eq_true rfl, Nat.le_of_ble_eq_true rfl⟩) rfl hl.1 rfl rfl dX4_own_5 ⟨Nat.le_of_ble_eq_true rfl, Nat.le_of_ble_eq_true rfl⟩ (fun H locs hP hS => ?_)
  refine lv_aload_n hx hb dX4_own_8 rfl (lv_at hl 0 rfl) ?_
  refine lv_iload_n hx hb dX4_own_9 rfl (lv_at hl 2 rfl) ?_
  refine lv_iload_n hx hb dX4_own_10 rfl (lv_at hl 3 rfl) ?_
  exact z_thruO (b := o) (As := [.int (nI t), .int x]) (rest := []) () ⟨hx, hb, hml, hown, hts⟩ hK hP hD hS hTs hTh (c_X4_checkField_bad (io := 0) (i := 1) (j := 2) rfl rfl rfl ht hbad (by omega) hl9) (cwV 2 hts gX4_own_X4_checkField rfl rfl rfl k_yX4_checkField ⟨Nat.le_of_ble_eq_true rfl, Nat.le_of_ble_eq_true rfl⟩) 0 4 rfl rfl rfl rfl hl.1 rfl rfl dX4_own_11 ⟨Nat.le_of_ble_eq_true rfl, Nat.le_of_ble_eq_true rfl⟩ htab hlocks trivial rfl
theorem k_yX4_checkKey : yX4_checkKey.cls ≠ "java/lang/invoke/MethodHandle" ∧ yX4_checkKey.cls ≠ "java/lang/invoke/VarHandle" ∧ (parseMethodDescriptor yX4_checkKey.desc).map (fun d => d.parameters.length) = some 1 := by decide +kernel
set_option maxRecDepth 20000 in
theorem lk211_wsX4_set : Cond.fieldLink RX4 20 "QueryGateway" "graph" "LQueryGateway$Graph;" ∈ wsX4_set := by decide +kernel
set_option maxRecDepth 20000 in
theorem in_wsX4_set_X4 : ∀ w ∈ wsX40, w ∈ wsX4_set := by decide +kernel
theorem k_yX1_takes : yX1_takes.cls = RX1 ∧ yX1_takes.cls ≠ "java/lang/invoke/MethodHandle" ∧ yX1_takes.cls ≠ "java/lang/invoke/VarHandle" ∧ (parseMethodDescriptor yX1_takes.desc).map (fun d => d.parameters.length) = some 2 := by decide +kernel
theorem k_yX1_putValue : yX1_putValue.cls = RX1 ∧ yX1_putValue.cls ≠ "java/lang/invoke/MethodHandle" ∧ yX1_putValue.cls ≠ "java/lang/invoke/VarHandle" ∧ (parseMethodDescriptor yX1_putValue.desc).map (fun d => d.parameters.length) = some 3 := by decide +kernel
abbrev rmX4_set : Room := { frames := 3, cells := 0, slots := 0, locals := 66 }
set_option maxHeartbeats 4000000 in
set_option maxRecDepth 100000 in
theorem c_X4_set_ok {l : Launch} {D : va_G} {cy : zCy} {o g q P A U a1 a2 a3 a4 a5 : Nat} {fa : Int32} {fc : Nat → Nat} {ld : Nat → Int32} {vl : Nat → Nat → Int32} {t k f : Nat} (ht : t < 4) (hk : k < 20) (hf : f < fc t) (hf8 : fc t ≤ 8) {x : Int32} (hx9 : (x = -1 ∨ inN (if ld (t * 8 + f) = -1 then 100 else 20) x)) : zW (Unit) l yX4_set wsX4_set rmX4_set D cy [(o, .inr (4, [.ref g, .ref q, .ref P, .ref A, .ref U])), (g, .inr (1, [.ref a1, .ref a2, .ref a3, .ref a4, .ref a5, .int fa])), (a1, .inl (cy.1, 4, .inl (fun z => nI (fc z)))), (a2, .inl (cy.1, 32, .inl ld)), (a5, .inl (cy.1, 640, .inl (fun z => vl (z / 20) (z % 20))))] [.ref o, .int (nI t), .int (nI k), .int (nI f), .int x] (fun r _ => r = vl (t * 8 + f) k) (fun _ => [(o, .inr (4, [.ref g, .ref q, .ref P, .ref A, .ref U])), (g, .inr (1, [.ref a1, .ref a2, .ref a3, .ref a4, .ref a5, .int fa])), (a1, .inl (cy.1, 4, .inl (fun z => nI (fc z)))), (a2, .inl (cy.1, 32, .inl ld)), (a5, .inl (cy.1, 640, .inl (fun z => zup2 vl (t * 8 + f) k x (z / 20) (z % 20))))]) := by
  refine zW.of (cc := cX4_set) (maxL := 6) (ret := (some .int)) (by decide) rfl rfl ?_
  intro p e s m below meth c ls C hP hK hD hl
  obtain ⟨hx, hb, hr, hml, hts, hown, hlocks⟩ := C
  have hS : va_S (zIn [(o, .inr (4, [.ref g, .ref q, .ref P, .ref A, .ref U])), (g, .inr (1, [.ref a1, .ref a2, .ref a3, .ref a4, .ref a5, .int fa])), (a1, .inl (cy.1, 4, .inl (fun z => nI (fc z)))), (a2, .inl (cy.1, 32, .inl ld)), (a5, .inl (cy.1, 640, .inl (fun z => vl (z / 20) (z % 20))))]) s.heap s.heap [] := va_S.rf
  have hl : lv_has ls 6 [(0, .ref o), (1, .int (nI t)), (2, .int (nI k)), (3, .int (nI f)), (4, .int x)] := hl
  refine lv_iload_n hx hb dX4_set_0 rfl (lv_at hl 1 rfl) ?_
  refine z_callUS (As := [.int (nI t)]) (rest := []) ⟨hx, hb, hml, hown, hts⟩ hK hP hS (c_X4_checkType_ok (k := t) (by omega)) (va_cwS 1 hts gX4_set_X4_checkType rfl rfl rfl k_yX4_checkType ⟨Nat.le_of_ble_eq_true rfl, Nat.le_of_ble_eq_true rfl⟩) rfl hl.1 rfl rfl dX4_set_1 ⟨Nat.le_of_ble_eq_true rfl, Nat.le_of_ble_eq_true rfl⟩ (fun H locs hP hS => ?_)
  refine lv_iload_n hx hb dX4_set_4 rfl (lv_at hl 2 rfl) ?_
  refine z_callUS (As := [.int (nI k)]) (rest := []) ⟨hx, hb, hml, hown, hts⟩ hK hP hS (c_X4_checkKey_ok (k := k) (by omega)) (va_cwS 1 hts gX4_set_X4_checkKey rfl rfl rfl k_yX4_checkKey ⟨Nat.le_of_ble_eq_true rfl, Nat.le_of_ble_eq_true rfl⟩) rfl hl.1 rfl rfl dX4_set_5 ⟨Nat.le_of_ble_eq_true rfl, Nat.le_of_ble_eq_true rfl⟩ (fun H locs hP hS => ?_)
  refine lv_aload_n hx hb dX4_set_8 rfl (lv_at hl 0 rfl) ?_
  refine lv_iload_n hx hb dX4_set_9 rfl (lv_at hl 1 rfl) ?_
  refine lv_iload_n hx hb dX4_set_10 rfl (lv_at hl 3 rfl) ?_
  refine z_callUV (b := o) (As := [.int (nI t), .int (nI f)]) (rest := []) ⟨hx, hb, hml, hown, hts⟩ hK hP hS (c_X4_checkField_ok (io := 0) (i := 1) (j := 2) rfl rfl rfl ht hf (by omega)) (cwV 2 hts gX4_set_X4_checkField rfl rfl rfl k_yX4_checkField ⟨Nat.le_of_ble_eq_true rfl, Nat.le_of_ble_eq_true rfl⟩) 0 4 rfl rfl rfl rfl hl.1 rfl rfl dX4_set_11 ⟨Nat.le_of_ble_eq_true rfl, Nat.le_of_ble_eq_true rfl⟩ (fun H locs hP hS => ?_)
  refine lv_iload_n hx hb dX4_set_14 rfl (lv_at hl 1 rfl) ?_
  refine lv_iload_n hx hb dX4_set_15 rfl (lv_at hl 3 rfl) ?_
  refine z_callS (As := [.int (nI t), .int (nI f)]) (rest := []) ⟨hx, hb, hml, hown, hts⟩ hK hP hS (c_X4_slotOf t f) (va_cwS 2 hts gX4_set_X4_slotOf rfl rfl rfl k_yX4_slotOf ⟨Nat.le_of_ble_eq_true rfl, Nat.le_of_ble_eq_true rfl⟩) rfl hl.1 rfl rfl dX4_set_16 ⟨Nat.le_of_ble_eq_true rfl, Nat.le_of_ble_eq_true rfl⟩ (fun H locs hP hS => ?_)
  refine lv_istore (lv' := [(5, .int (nI (t * 8 + f))), (0, .ref o), (1, .int (nI t)), (2, .int (nI k)), (3, .int (nI f)), (4, .int x)]) hx hb dX4_set_19 hl (by decide) rfl (fun ls hl => ?_)
  refine lv_aload_n hx hb dX4_set_21 rfl (lv_at hl 1 rfl) ?_
  refine va_get (D := D) (ci := 4) (v := .ref g) (C := RX4) (T := TX4) (N := 5) hx hb hts in_wsX4_set_X4 hown hK.1 hP 0 rfl rfl 0 (by decide) (hts _ lk211_wsX4_set) (fun _ h9 => h9) rfl dX4_set_22 ?_
  refine lv_iload hx hb dX4_set_25 (lv_at hl 0 rfl) ?_
  refine lv_iload hx hb dX4_set_27 (lv_at hl 5 rfl) ?_
  refine z_callV (b := g) (As := [.int (nI (t * 8 + f)), .int x]) (rest := []) ⟨hx, hb, hml, hown, hts⟩ hK hP hS (c_X1_takes (i := 1) (j := 3) rfl rfl (t := t * 8 + f) (by omega) x) (cwV 2 hts gX4_set_X1_takes rfl rfl rfl k_yX1_takes ⟨Nat.le_of_ble_eq_true rfl, Nat.le_of_ble_eq_true rfl⟩) 1 1 rfl rfl rfl rfl hl.1 rfl rfl dX4_set_29 ⟨Nat.le_of_ble_eq_true rfl, Nat.le_of_ble_eq_true rfl⟩ (fun H locs hP hS => ?_)
  refine lv_if_ne (tgt := 45) hx hb dX4_set_32 (by decide) (fun cb1 => ?_) (fun cb1 => ?_)
  · have cb1 : (decide (x = -1 ∨ inN (if ld (t * 8 + f) = -1 then 100 else 20) x)) = true := bI_f0 cb1
    refine lv_aload_n hx hb dX4_set_45 rfl (lv_at hl 1 rfl) ?_
    refine va_get (D := D) (ci := 4) (v := .ref g) (C := RX4) (T := TX4) (N := 5) hx hb hts in_wsX4_set_X4 hown hK.1 hP 0 rfl rfl 0 (by decide) (hts _ lk211_wsX4_set) (fun _ h9 => h9) rfl dX4_set_46 ?_
    refine lv_iload hx hb dX4_set_49 (lv_at hl 0 rfl) ?_
    refine lv_iload_n hx hb dX4_set_51 rfl (lv_at hl 3 rfl) ?_
    refine lv_iload hx hb dX4_set_52 (lv_at hl 5 rfl) ?_
    refine z_callVW (b := g) (As := [.int (nI (t * 8 + f)), .int (nI k), .int x]) (rest := []) [(o, .inr (4, [.ref g, .ref q, .ref P, .ref A, .ref U])), (a1, .inl (cy.1, 4, .inl (fun z => nI (fc z)))), (a2, .inl (cy.1, 32, .inl ld))] ⟨hx, hb, hml, hown, hts⟩ hK hP hD hS (c_X1_putValue (t := t * 8 + f) (k := k) (by omega) hk x) (cwV 3 hts gX4_set_X1_putValue rfl rfl rfl k_yX1_putValue ⟨Nat.le_of_ble_eq_true rfl, Nat.le_of_ble_eq_true rfl⟩) [1, 4] [0, 2, 3] rfl rfl rfl (fun _ => rfl) 1 1 rfl rfl rfl rfl hl.1 rfl rfl dX4_set_54 ⟨Nat.le_of_ble_eq_true rfl, Nat.le_of_ble_eq_true rfl⟩ (fun rr3 uu1 H locs hp2 hP hD hS => ?_)
    have hP : va_P D vwCl [(o, .inr (4, [.ref g, .ref q, .ref P, .ref A, .ref U])), (a1, .inl (cy.1, 4, .inl (fun z => nI (fc z)))), (a2, .inl (cy.1, 32, .inl ld)), (g, .inr (1, [.ref a1, .ref a2, .ref a3, .ref a4, .ref a5, .int fa])), (a5, .inl (cy.1, 640, .inl (fun z => zup2 vl (t * 8 + f) k x (z / 20) (z % 20))))] H := hP
    have hD : va_D (zIn [(o, .inr (4, [.ref g, .ref q, .ref P, .ref A, .ref U])), (g, .inr (1, [.ref a1, .ref a2, .ref a3, .ref a4, .ref a5, .int fa])), (a1, .inl (cy.1, 4, .inl (fun z => nI (fc z)))), (a2, .inl (cy.1, 32, .inl ld)), (a5, .inl (cy.1, 640, .inl (fun z => vl (z / 20) (z % 20))))]) [(o, .inr (4, [.ref g, .ref q, .ref P, .ref A, .ref U])), (a1, .inl (cy.1, 4, .inl (fun z => nI (fc z)))), (a2, .inl (cy.1, 32, .inl ld)), (g, .inr (1, [.ref a1, .ref a2, .ref a3, .ref a4, .ref a5, .int fa])), (a5, .inl (cy.1, 640, .inl (fun z => zup2 vl (t * 8 + f) k x (z / 20) (z % 20))))] := hD
    have hP := hP.sub (ws' := [(o, .inr (4, [.ref g, .ref q, .ref P, .ref A, .ref U])), (g, .inr (1, [.ref a1, .ref a2, .ref a3, .ref a4, .ref a5, .int fa])), (a1, .inl (cy.1, 4, .inl (fun z => nI (fc z)))), (a2, .inl (cy.1, 32, .inl ld)), (a5, .inl (cy.1, 640, .inl (fun z => zup2 vl (t * 8 + f) k x (z / 20) (z % 20))))]) [0, 3, 1, 2, 4] rfl
    have hD := hD.sub (ws' := [(o, .inr (4, [.ref g, .ref q, .ref P, .ref A, .ref U])), (g, .inr (1, [.ref a1, .ref a2, .ref a3, .ref a4, .ref a5, .int fa])), (a1, .inl (cy.1, 4, .inl (fun z => nI (fc z)))), (a2, .inl (cy.1, 32, .inl ld)), (a5, .inl (cy.1, 640, .inl (fun z => zup2 vl (t * 8 + f) k x (z / 20) (z % 20))))]) [0, 3, 1, 2, 4] (by decide) rfl
    exact z_iretW () hx hb hr hlocks hS dX4_set_57 hP hp2
  · have cb1 : (decide (x = -1 ∨ inN (if ld (t * 8 + f) = -1 then 100 else 20) x)) = false := bI_t0 cb1
    exact absurd hx9 (of_decide_eq_false cb1)
abbrev rmX4_set_t : Room := { frames := 7, cells := 1, slots := 6, locals := 120 }
set_option maxHeartbeats 4000000 in
set_option maxRecDepth 100000 in
theorem c_X4_set_badT {l : Launch} {D : va_G} {cy : zCy} {o g q P A U a1 a2 a3 a4 a5 : Nat} {fa : Int32} {fc : Nat → Nat} {ld : Nat → Int32} {vl : Nat → Nat → Int32} {x y z u : Int32} (hbad : ¬ inN 4 x) (hl9 : l.stackTraces = false) : zX (Unit) l yX4_set wsX4_set rmX4_set_t D cy [(o, .inr (4, [.ref g, .ref q, .ref P, .ref A, .ref U])), (g, .inr (1, [.ref a1, .ref a2, .ref a3, .ref a4, .ref a5, .int fa])), (a1, .inl (cy.1, 4, .inl (fun z => nI (fc z)))), (a2, .inl (cy.1, 32, .inl ld)), (a5, .inl (cy.1, 640, .inl (fun z => vl (z / 20) (z % 20))))] [.ref o, .int x, .int y, .int z, .int u] zIAE (fun _ => True) (fun _ => [(o, .inr (4, [.ref g, .ref q, .ref P, .ref A, .ref U])), (g, .inr (1, [.ref a1, .ref a2, .ref a3, .ref a4, .ref a5, .int fa])), (a1, .inl (cy.1, 4, .inl (fun z => nI (fc z)))), (a2, .inl (cy.1, 32, .inl ld)), (a5, .inl (cy.1, 640, .inl (fun z => vl (z / 20) (z % 20))))]) := by
  refine zX.of (cc := cX4_set) (maxL := 6) (ret := (some .int)) (by decide) rfl rfl ?_
  intro p e s m below meth c ls C htab hP hK hD hTs hTh hl
  obtain ⟨hx, hb, hr, hml, hts, hown, hlocks⟩ := C
  have hS : va_S (zIn [(o, .inr (4, [.ref g, .ref q, .ref P, .ref A, .ref U])), (g, .inr (1, [.ref a1, .ref a2, .ref a3, .ref a4, .ref a5, .int fa])), (a1, .inl (cy.1, 4, .inl (fun z => nI (fc z)))), (a2, .inl (cy.1, 32, .inl ld)), (a5, .inl (cy.1, 640, .inl (fun z => vl (z / 20) (z % 20))))]) s.heap s.heap [] := va_S.rf
  have hl : lv_has ls 6 [(0, .ref o), (1, .int x), (2, .int y), (3, .int z), (4, .int u)] := hl
  refine lv_iload_n hx hb dX4_set_0 rfl (lv_at hl 1 rfl) ?_
  exact z_thruS (As := [.int x]) (rest := []) () ⟨hx, hb, hml, hown, hts⟩ hK hP hD hS hTs hTh (c_X4_checkType_bad (x := x) hbad hl9) (va_cwS 1 hts gX4_set_X4_checkType rfl rfl rfl k_yX4_checkType ⟨Nat.le_of_ble_eq_true rfl, Nat.le_of_ble_eq_true rfl⟩) rfl hl.1 rfl rfl dX4_set_1 ⟨Nat.le_of_ble_eq_true rfl, Nat.le_of_ble_eq_true rfl⟩ htab hlocks trivial rfl
set_option maxHeartbeats 4000000 in
set_option maxRecDepth 100000 in
theorem c_X4_set_badK {l : Launch} {D : va_G} {cy : zCy} {o g q P A U a1 a2 a3 a4 a5 : Nat} {fa : Int32} {fc : Nat → Nat} {ld : Nat → Int32} {vl : Nat → Nat → Int32} {t : Nat} (ht : t < 4) {x z u : Int32} (hbad : ¬ inN 20 x) (hl9 : l.stackTraces = false) : zX (Unit) l yX4_set wsX4_set rmX4_set_t D cy [(o, .inr (4, [.ref g, .ref q, .ref P, .ref A, .ref U])), (g, .inr (1, [.ref a1, .ref a2, .ref a3, .ref a4, .ref a5, .int fa])), (a1, .inl (cy.1, 4, .inl (fun z => nI (fc z)))), (a2, .inl (cy.1, 32, .inl ld)), (a5, .inl (cy.1, 640, .inl (fun z => vl (z / 20) (z % 20))))] [.ref o, .int (nI t), .int x, .int z, .int u] zIAE (fun _ => True) (fun _ => [(o, .inr (4, [.ref g, .ref q, .ref P, .ref A, .ref U])), (g, .inr (1, [.ref a1, .ref a2, .ref a3, .ref a4, .ref a5, .int fa])), (a1, .inl (cy.1, 4, .inl (fun z => nI (fc z)))), (a2, .inl (cy.1, 32, .inl ld)), (a5, .inl (cy.1, 640, .inl (fun z => vl (z / 20) (z % 20))))]) := by
  refine zX.of (cc := cX4_set) (maxL := 6) (ret := (some .int)) (by decide) rfl rfl ?_
  intro p e s m below meth c ls C htab hP hK hD hTs hTh hl
  obtain ⟨hx, hb, hr, hml, hts, hown, hlocks⟩ := C
  have hS : va_S (zIn [(o, .inr (4, [.ref g, .ref q, .ref P, .ref A, .ref U])), (g, .inr (1, [.ref a1, .ref a2, .ref a3, .ref a4, .ref a5, .int fa])), (a1, .inl (cy.1, 4, .inl (fun z => nI (fc z)))), (a2, .inl (cy.1, 32, .inl ld)), (a5, .inl (cy.1, 640, .inl (fun z => vl (z / 20) (z % 20))))]) s.heap s.heap [] := va_S.rf
  have hl : lv_has ls 6 [(0, .ref o), (1, .int (nI t)), (2, .int x), (3, .int z), (4, .int u)] := hl
  refine lv_iload_n hx hb dX4_set_0 rfl (lv_at hl 1 rfl) ?_
  refine z_callUS (As := [.int (nI t)]) (rest := []) ⟨hx, hb, hml, hown, hts⟩ hK hP hS (c_X4_checkType_ok (k := t) (by omega)) (va_cwS 1 hts gX4_set_X4_checkType rfl rfl rfl k_yX4_checkType ⟨Nat.le_of_ble_eq_true rfl, Nat.le_of_ble_eq_true rfl⟩) rfl hl.1 rfl rfl dX4_set_1 ⟨Nat.le_of_ble_eq_true rfl, Nat.le_of_ble_eq_true rfl⟩ (fun H locs hP hS => ?_)
  refine lv_iload_n hx hb dX4_set_4 rfl (lv_at hl 2 rfl) ?_
  exact z_thruS (As := [.int x]) (rest := []) () ⟨hx, hb, hml, hown, hts⟩ hK hP hD hS hTs hTh (c_X4_checkKey_bad (x := x) hbad hl9) (va_cwS 1 hts gX4_set_X4_checkKey rfl rfl rfl k_yX4_checkKey ⟨Nat.le_of_ble_eq_true rfl, Nat.le_of_ble_eq_true rfl⟩) rfl hl.1 rfl rfl dX4_set_5 ⟨Nat.le_of_ble_eq_true rfl, Nat.le_of_ble_eq_true rfl⟩ htab hlocks trivial rfl
set_option maxHeartbeats 4000000 in
set_option maxRecDepth 100000 in
theorem c_X4_set_badF {l : Launch} {D : va_G} {cy : zCy} {o g q P A U a1 a2 a3 a4 a5 : Nat} {fa : Int32} {fc : Nat → Nat} {ld : Nat → Int32} {vl : Nat → Nat → Int32} {t k : Nat} (ht : t < 4) (hk : k < 20) {x u : Int32} (hbad : ¬ inN (fc t) x) (hf8 : fc t ≤ 8) (hl9 : l.stackTraces = false) : zX (Unit) l yX4_set wsX4_set rmX4_set_t D cy [(o, .inr (4, [.ref g, .ref q, .ref P, .ref A, .ref U])), (g, .inr (1, [.ref a1, .ref a2, .ref a3, .ref a4, .ref a5, .int fa])), (a1, .inl (cy.1, 4, .inl (fun z => nI (fc z)))), (a2, .inl (cy.1, 32, .inl ld)), (a5, .inl (cy.1, 640, .inl (fun z => vl (z / 20) (z % 20))))] [.ref o, .int (nI t), .int (nI k), .int x, .int u] zIOE (fun _ => True) (fun _ => [(o, .inr (4, [.ref g, .ref q, .ref P, .ref A, .ref U])), (g, .inr (1, [.ref a1, .ref a2, .ref a3, .ref a4, .ref a5, .int fa])), (a1, .inl (cy.1, 4, .inl (fun z => nI (fc z)))), (a2, .inl (cy.1, 32, .inl ld)), (a5, .inl (cy.1, 640, .inl (fun z => vl (z / 20) (z % 20))))]) := by
  refine zX.of (cc := cX4_set) (maxL := 6) (ret := (some .int)) (by decide) rfl rfl ?_
  intro p e s m below meth c ls C htab hP hK hD hTs hTh hl
  obtain ⟨hx, hb, hr, hml, hts, hown, hlocks⟩ := C
  have hS : va_S (zIn [(o, .inr (4, [.ref g, .ref q, .ref P, .ref A, .ref U])), (g, .inr (1, [.ref a1, .ref a2, .ref a3, .ref a4, .ref a5, .int fa])), (a1, .inl (cy.1, 4, .inl (fun z => nI (fc z)))), (a2, .inl (cy.1, 32, .inl ld)), (a5, .inl (cy.1, 640, .inl (fun z => vl (z / 20) (z % 20))))]) s.heap s.heap [] := va_S.rf
  have hl : lv_has ls 6 [(0, .ref o), (1, .int (nI t)), (2, .int (nI k)), (3, .int x), (4, .int u)] := hl
  refine lv_iload_n hx hb dX4_set_0 rfl (lv_at hl 1 rfl) ?_
  refine z_callUS (As := [.int (nI t)]) (rest := []) ⟨hx, hb, hml, hown, hts⟩ hK hP hS (c_X4_checkType_ok (k := t) (by omega)) (va_cwS 1 hts gX4_set_X4_checkType rfl rfl rfl k_yX4_checkType ⟨Nat.le_of_ble_eq_true rfl, Nat.le_of_ble_eq_true rfl⟩) rfl hl.1 rfl rfl dX4_set_1 ⟨Nat.le_of_ble_eq_true rfl, Nat.le_of_ble_eq_true rfl⟩ (fun H locs hP hS => ?_)
  refine lv_iload_n hx hb dX4_set_4 rfl (lv_at hl 2 rfl) ?_
  refine z_callUS (As := [.int (nI k)]) (rest := []) ⟨hx, hb, hml, hown, hts⟩ hK hP hS (c_X4_checkKey_ok (k := k) (by omega)) (va_cwS 1 hts gX4_set_X4_checkKey rfl rfl rfl k_yX4_checkKey ⟨Nat.le_of_ble_eq_true rfl, Nat.le_of_ble_eq_true rfl⟩) rfl hl.1 rfl rfl dX4_set_5 ⟨Nat.le_of_ble_eq_true rfl, Nat.le_of_ble_eq_true rfl⟩ (fun H locs hP hS => ?_)
  refine lv_aload_n hx hb dX4_set_8 rfl (lv_at hl 0 rfl) ?_
  refine lv_iload_n hx hb dX4_set_9 rfl (lv_at hl 1 rfl) ?_
  refine lv_iload_n hx hb dX4_set_10 rfl (lv_at hl 3 rfl) ?_
  exact z_thruO (b := o) (As := [.int (nI t), .int x]) (rest := []) () ⟨hx, hb, hml, hown, hts⟩ hK hP hD hS hTs hTh (c_X4_checkField_bad (io := 0) (i := 1) (j := 2) rfl rfl rfl ht hbad (by omega) hl9) (cwV 2 hts gX4_set_X4_checkField rfl rfl rfl k_yX4_checkField ⟨Nat.le_of_ble_eq_true rfl, Nat.le_of_ble_eq_true rfl⟩) 0 4 rfl rfl rfl rfl hl.1 rfl rfl dX4_set_11 ⟨Nat.le_of_ble_eq_true rfl, Nat.le_of_ble_eq_true rfl⟩ htab hlocks trivial rfl
set_option maxRecDepth 20000 in
theorem lk215_wsX4_set : Cond.classLink RX4 52 "java/lang/IllegalArgumentException" ∈ wsX4_set := by decide +kernel
set_option maxRecDepth 20000 in
theorem lk216_wsX4_set : Cond.initialized "java/lang/IllegalArgumentException" ∈ wsX4_set := by decide +kernel
set_option maxHeartbeats 4000000 in
set_option maxRecDepth 100000 in
theorem c_X4_set_badV {l : Launch} {D : va_G} {cy : zCy} {o g q P A U a1 a2 a3 a4 a5 : Nat} {fa : Int32} {fc : Nat → Nat} {ld : Nat → Int32} {vl : Nat → Nat → Int32} {t k f : Nat} (ht : t < 4) (hk : k < 20) (hf : f < fc t) (hf8 : fc t ≤ 8) {x : Int32} (hx9 : ¬ (x = -1 ∨ inN (if ld (t * 8 + f) = -1 then 100 else 20) x)) (hl9 : l.stackTraces = false) : zX (Unit) l yX4_set wsX4_set rmX4_set_t D cy [(o, .inr (4, [.ref g, .ref q, .ref P, .ref A, .ref U])), (g, .inr (1, [.ref a1, .ref a2, .ref a3, .ref a4, .ref a5, .int fa])), (a1, .inl (cy.1, 4, .inl (fun z => nI (fc z)))), (a2, .inl (cy.1, 32, .inl ld)), (a5, .inl (cy.1, 640, .inl (fun z => vl (z / 20) (z % 20))))] [.ref o, .int (nI t), .int (nI k), .int (nI f), .int x] zIAE (fun _ => True) (fun _ => [(o, .inr (4, [.ref g, .ref q, .ref P, .ref A, .ref U])), (g, .inr (1, [.ref a1, .ref a2, .ref a3, .ref a4, .ref a5, .int fa])), (a1, .inl (cy.1, 4, .inl (fun z => nI (fc z)))), (a2, .inl (cy.1, 32, .inl ld)), (a5, .inl (cy.1, 640, .inl (fun z => vl (z / 20) (z % 20))))]) := by
  refine zX.of (cc := cX4_set) (maxL := 6) (ret := (some .int)) (by decide) rfl rfl ?_
  intro p e s m below meth c ls C htab hP hK hD hTs hTh hl
  obtain ⟨hx, hb, hr, hml, hts, hown, hlocks⟩ := C
  have hS : va_S (zIn [(o, .inr (4, [.ref g, .ref q, .ref P, .ref A, .ref U])), (g, .inr (1, [.ref a1, .ref a2, .ref a3, .ref a4, .ref a5, .int fa])), (a1, .inl (cy.1, 4, .inl (fun z => nI (fc z)))), (a2, .inl (cy.1, 32, .inl ld)), (a5, .inl (cy.1, 640, .inl (fun z => vl (z / 20) (z % 20))))]) s.heap s.heap [] := va_S.rf
  have hl : lv_has ls 6 [(0, .ref o), (1, .int (nI t)), (2, .int (nI k)), (3, .int (nI f)), (4, .int x)] := hl
  refine lv_iload_n hx hb dX4_set_0 rfl (lv_at hl 1 rfl) ?_
  refine z_callUS (As := [.int (nI t)]) (rest := []) ⟨hx, hb, hml, hown, hts⟩ hK hP hS (c_X4_checkType_ok (k := t) (by omega)) (va_cwS 1 hts gX4_set_X4_checkType rfl rfl rfl k_yX4_checkType ⟨Nat.le_of_ble_eq_true rfl, Nat.le_of_ble_eq_true rfl⟩) rfl hl.1 rfl rfl dX4_set_1 ⟨Nat.le_of_ble_eq_true rfl, Nat.le_of_ble_eq_true rfl⟩ (fun H locs hP hS => ?_)
  refine lv_iload_n hx hb dX4_set_4 rfl (lv_at hl 2 rfl) ?_
  refine z_callUS (As := [.int (nI k)]) (rest := []) ⟨hx, hb, hml, hown, hts⟩ hK hP hS (c_X4_checkKey_ok (k := k) (by omega)) (va_cwS 1 hts gX4_set_X4_checkKey rfl rfl rfl k_yX4_checkKey ⟨Nat.le_of_ble_eq_true rfl, Nat.le_of_ble_eq_true rfl⟩) rfl hl.1 rfl rfl dX4_set_5 ⟨Nat.le_of_ble_eq_true rfl, Nat.le_of_ble_eq_true rfl⟩ (fun H locs hP hS => ?_)
  refine lv_aload_n hx hb dX4_set_8 rfl (lv_at hl 0 rfl) ?_
  refine lv_iload_n hx hb dX4_set_9 rfl (lv_at hl 1 rfl) ?_
  refine lv_iload_n hx hb dX4_set_10 rfl (lv_at hl 3 rfl) ?_
  refine z_callUV (b := o) (As := [.int (nI t), .int (nI f)]) (rest := []) ⟨hx, hb, hml, hown, hts⟩ hK hP hS (c_X4_checkField_ok (io := 0) (i := 1) (j := 2) rfl rfl rfl ht hf (by omega)) (cwV 2 hts gX4_set_X4_checkField rfl rfl rfl k_yX4_checkField ⟨Nat.le_of_ble_eq_true rfl, Nat.le_of_ble_eq_true rfl⟩) 0 4 rfl rfl rfl rfl hl.1 rfl rfl dX4_set_11 ⟨Nat.le_of_ble_eq_true rfl, Nat.le_of_ble_eq_true rfl⟩ (fun H locs hP hS => ?_)
  refine lv_iload_n hx hb dX4_set_14 rfl (lv_at hl 1 rfl) ?_
  refine lv_iload_n hx hb dX4_set_15 rfl (lv_at hl 3 rfl) ?_
  refine z_callS (As := [.int (nI t), .int (nI f)]) (rest := []) ⟨hx, hb, hml, hown, hts⟩ hK hP hS (c_X4_slotOf t f) (va_cwS 2 hts gX4_set_X4_slotOf rfl rfl rfl k_yX4_slotOf ⟨Nat.le_of_ble_eq_true rfl, Nat.le_of_ble_eq_true rfl⟩) rfl hl.1 rfl rfl dX4_set_16 ⟨Nat.le_of_ble_eq_true rfl, Nat.le_of_ble_eq_true rfl⟩ (fun H locs hP hS => ?_)
  refine lv_istore (lv' := [(5, .int (nI (t * 8 + f))), (0, .ref o), (1, .int (nI t)), (2, .int (nI k)), (3, .int (nI f)), (4, .int x)]) hx hb dX4_set_19 hl (by decide) rfl (fun ls hl => ?_)
  refine lv_aload_n hx hb dX4_set_21 rfl (lv_at hl 1 rfl) ?_
  refine va_get (D := D) (ci := 4) (v := .ref g) (C := RX4) (T := TX4) (N := 5) hx hb hts in_wsX4_set_X4 hown hK.1 hP 0 rfl rfl 0 (by decide) (hts _ lk211_wsX4_set) (fun _ h9 => h9) rfl dX4_set_22 ?_
  refine lv_iload hx hb dX4_set_25 (lv_at hl 0 rfl) ?_
  refine lv_iload hx hb dX4_set_27 (lv_at hl 5 rfl) ?_
  refine z_callV (b := g) (As := [.int (nI (t * 8 + f)), .int x]) (rest := []) ⟨hx, hb, hml, hown, hts⟩ hK hP hS (c_X1_takes (i := 1) (j := 3) rfl rfl (t := t * 8 + f) (by omega) x) (cwV 2 hts gX4_set_X1_takes rfl rfl rfl k_yX1_takes ⟨Nat.le_of_ble_eq_true rfl, Nat.le_of_ble_eq_true rfl⟩) 1 1 rfl rfl rfl rfl hl.1 rfl rfl dX4_set_29 ⟨Nat.le_of_ble_eq_true rfl, Nat.le_of_ble_eq_true rfl⟩ (fun H locs hP hS => ?_)
  refine lv_if_ne (tgt := 45) hx hb dX4_set_32 (by decide) (fun cb1 => ?_) (fun cb1 => ?_)
  · have cb1 : (decide (x = -1 ∨ inN (if ld (t * 8 + f) = -1 then 100 else 20) x)) = true := bI_f0 cb1
    exact absurd (of_decide_eq_true cb1) hx9
  · have cb1 : (decide (x = -1 ∨ inN (if ld (t * 8 + f) = -1 then 100 else 20) x)) = false := bI_t0 cb1
    exact z_throw (E := zIAE) (ik := 52) (is := 97) (ic := 56) (tx := "the value is out of the field's range") () hx hb hl9 hml hl.1 hown hlocks (by decide) hts (fun w hw => List.mem_cons_of_mem _ (List.mem_append_left _ (List.mem_append_right _ hw))) lk215_wsX4_set lk216_wsX4_set hB_56 hG_56 rfl hTs (by decide) (by decide) hTh hS dX4_set_35 dX4_set_38 dX4_set_39 dX4_set_41 dX4_set_44 htab ⟨rfl, rfl, rfl, rfl⟩ hP trivial
set_option maxRecDepth 20000 in
theorem lk217_wsX4_fail : Cond.fieldLink RX4 20 "QueryGateway" "graph" "LQueryGateway$Graph;" ∈ wsX4_fail := by decide +kernel
set_option maxRecDepth 20000 in
theorem in_wsX4_fail_X4 : ∀ w ∈ wsX40, w ∈ wsX4_fail := by decide +kernel
theorem k_yX1_putFailed : yX1_putFailed.cls = RX1 ∧ yX1_putFailed.cls ≠ "java/lang/invoke/MethodHandle" ∧ yX1_putFailed.cls ≠ "java/lang/invoke/VarHandle" ∧ (parseMethodDescriptor yX1_putFailed.desc).map (fun d => d.parameters.length) = some 2 := by decide +kernel
abbrev rmX4_fail : Room := { frames := 2, cells := 0, slots := 0, locals := 43 }
set_option maxHeartbeats 4000000 in
set_option maxRecDepth 100000 in
theorem c_X4_fail_ok {l : Launch} {D : va_G} {cy : zCy} {o g q P A U a1 a2 a3 a4 a5 : Nat} {fl : Nat} {v : Nat} (hv : v < 4) (hfl : fl < 16) (b : Bool) : zW (Unit) l yX4_fail wsX4_fail rmX4_fail D cy [(o, .inr (4, [.ref g, .ref q, .ref P, .ref A, .ref U])), (g, .inr (1, [.ref a1, .ref a2, .ref a3, .ref a4, .ref a5, .int (nI fl)]))] [.ref o, .int (nI v), .int (bI (b))] (fun r _ => r = bI (fl.testBit v)) (fun _ => [(o, .inr (4, [.ref g, .ref q, .ref P, .ref A, .ref U])), (g, .inr (1, [.ref a1, .ref a2, .ref a3, .ref a4, .ref a5, .int (nI (zset b fl v))]))]) := by
  refine zW.of (cc := cX4_fail) (maxL := 3) (ret := (some .boolean)) (by decide) rfl rfl ?_
  intro p e s m below meth c ls C hP hK hD hl
  obtain ⟨hx, hb, hr, hml, hts, hown, hlocks⟩ := C
  have hS : va_S (zIn [(o, .inr (4, [.ref g, .ref q, .ref P, .ref A, .ref U])), (g, .inr (1, [.ref a1, .ref a2, .ref a3, .ref a4, .ref a5, .int (nI fl)]))]) s.heap s.heap [] := va_S.rf
  have hl : lv_has ls 3 [(0, .ref o), (1, .int (nI v)), (2, .int (bI (b)))] := hl
  refine lv_iload_n hx hb dX4_fail_0 rfl (lv_at hl 1 rfl) ?_
  refine z_callUS (As := [.int (nI v)]) (rest := []) ⟨hx, hb, hml, hown, hts⟩ hK hP hS (c_X4_checkService_ok (k := v) (by omega)) (va_cwS 1 hts gX4_fail_X4_checkService rfl rfl rfl k_yX4_checkService ⟨Nat.le_of_ble_eq_true rfl, Nat.le_of_ble_eq_true rfl⟩) rfl hl.1 rfl rfl dX4_fail_1 ⟨Nat.le_of_ble_eq_true rfl, Nat.le_of_ble_eq_true rfl⟩ (fun H locs hP hS => ?_)
  refine lv_aload_n hx hb dX4_fail_4 rfl (lv_at hl 0 rfl) ?_
  refine va_get (D := D) (ci := 4) (v := .ref g) (C := RX4) (T := TX4) (N := 5) hx hb hts in_wsX4_fail_X4 hown hK.1 hP 0 rfl rfl 0 (by decide) (hts _ lk217_wsX4_fail) (fun _ h9 => h9) rfl dX4_fail_5 ?_
  refine lv_iload_n hx hb dX4_fail_8 rfl (lv_at hl 1 rfl) ?_
  refine lv_iload_n hx hb dX4_fail_9 rfl (lv_at hl 2 rfl) ?_
  refine z_callVW (b := g) (As := [.int (nI v), .int (bI (b))]) (rest := []) [(o, .inr (4, [.ref g, .ref q, .ref P, .ref A, .ref U]))] ⟨hx, hb, hml, hown, hts⟩ hK hP hD hS (c_X1_putFailed hv hfl b) (cwV 2 hts gX4_fail_X1_putFailed rfl rfl rfl k_yX1_putFailed ⟨Nat.le_of_ble_eq_true rfl, Nat.le_of_ble_eq_true rfl⟩) [1] [0] rfl rfl rfl (fun _ => rfl) 1 1 rfl rfl rfl rfl hl.1 rfl rfl dX4_fail_10 ⟨Nat.le_of_ble_eq_true rfl, Nat.le_of_ble_eq_true rfl⟩ (fun rr2 uu0 H locs hp1 hP hD hS => ?_)
  have hP : va_P D vwCl [(o, .inr (4, [.ref g, .ref q, .ref P, .ref A, .ref U])), (g, .inr (1, [.ref a1, .ref a2, .ref a3, .ref a4, .ref a5, .int (nI (zset b fl v))]))] H := hP
  have hD : va_D (zIn [(o, .inr (4, [.ref g, .ref q, .ref P, .ref A, .ref U])), (g, .inr (1, [.ref a1, .ref a2, .ref a3, .ref a4, .ref a5, .int (nI fl)]))]) [(o, .inr (4, [.ref g, .ref q, .ref P, .ref A, .ref U])), (g, .inr (1, [.ref a1, .ref a2, .ref a3, .ref a4, .ref a5, .int (nI (zset b fl v))]))] := hD
  refine z_top (y := bI (fl.testBit v)) hp1 ?_
  exact z_zretW () hx hb hr hlocks hS dX4_fail_13 hP rfl (bI01 _)
abbrev rmX4_fail_t : Room := { frames := 7, cells := 1, slots := 6, locals := 102 }
set_option maxHeartbeats 4000000 in
set_option maxRecDepth 100000 in
theorem c_X4_fail_bad {l : Launch} {D : va_G} {cy : zCy} {o g q P A U a1 a2 a3 a4 a5 : Nat} {fl : Nat} {x : Int32} (hbad : ¬ inN 4 x) (b : Bool) (hl9 : l.stackTraces = false) : zX (Unit) l yX4_fail wsX4_fail rmX4_fail_t D cy [(o, .inr (4, [.ref g, .ref q, .ref P, .ref A, .ref U])), (g, .inr (1, [.ref a1, .ref a2, .ref a3, .ref a4, .ref a5, .int (nI fl)]))] [.ref o, .int x, .int (bI (b))] zIAE (fun _ => True) (fun _ => [(o, .inr (4, [.ref g, .ref q, .ref P, .ref A, .ref U])), (g, .inr (1, [.ref a1, .ref a2, .ref a3, .ref a4, .ref a5, .int (nI fl)]))]) := by
  refine zX.of (cc := cX4_fail) (maxL := 3) (ret := (some .boolean)) (by decide) rfl rfl ?_
  intro p e s m below meth c ls C htab hP hK hD hTs hTh hl
  obtain ⟨hx, hb, hr, hml, hts, hown, hlocks⟩ := C
  have hS : va_S (zIn [(o, .inr (4, [.ref g, .ref q, .ref P, .ref A, .ref U])), (g, .inr (1, [.ref a1, .ref a2, .ref a3, .ref a4, .ref a5, .int (nI fl)]))]) s.heap s.heap [] := va_S.rf
  have hl : lv_has ls 3 [(0, .ref o), (1, .int x), (2, .int (bI (b)))] := hl
  refine lv_iload_n hx hb dX4_fail_0 rfl (lv_at hl 1 rfl) ?_
  exact z_thruS (As := [.int x]) (rest := []) () ⟨hx, hb, hml, hown, hts⟩ hK hP hD hS hTs hTh (c_X4_checkService_bad (x := x) hbad hl9) (va_cwS 1 hts gX4_fail_X4_checkService rfl rfl rfl k_yX4_checkService ⟨Nat.le_of_ble_eq_true rfl, Nat.le_of_ble_eq_true rfl⟩) rfl hl.1 rfl rfl dX4_fail_1 ⟨Nat.le_of_ble_eq_true rfl, Nat.le_of_ble_eq_true rfl⟩ htab hlocks trivial rfl
set_option maxRecDepth 20000 in
theorem lk220_wsX4_begin : Cond.fieldLink RX4 28 "QueryGateway" "plan" "LQueryGateway$Plan;" ∈ wsX4_begin := by decide +kernel
set_option maxRecDepth 20000 in
theorem in_wsX4_begin_X4 : ∀ w ∈ wsX40, w ∈ wsX4_begin := by decide +kernel
set_option maxRecDepth 20000 in
theorem lk222_wsX4_begin : Cond.fieldLink RX4 24 "QueryGateway" "query" "LQueryGateway$Query;" ∈ wsX4_begin := by decide +kernel
theorem k_yX3_restart : yX3_restart.cls = RX3 ∧ yX3_restart.cls ≠ "java/lang/invoke/MethodHandle" ∧ yX3_restart.cls ≠ "java/lang/invoke/VarHandle" ∧ (parseMethodDescriptor yX3_restart.desc).map (fun d => d.parameters.length) = some 1 := by decide +kernel
abbrev rmX4_begin : Room := { frames := 2, cells := 0, slots := 0, locals := 40 }
set_option maxHeartbeats 4000000 in
set_option maxRecDepth 100000 in
theorem c_X4_begin_ok {l : Launch} {D : va_G} {cy : zCy} {o g q P A U a1 a2 a3 a4 a5 : Nat} {p1 p2 p3 p4 a b nn : Nat} {cnt ln kn th ty : Int32} {t : Nat} (ht : t < 4) : zW (Unit) l yX4_begin wsX4_begin rmX4_begin D cy [(o, .inr (4, [.ref g, .ref q, .ref P, .ref A, .ref U])), (P, .inr (2, [.ref g, .ref q, .ref p1, .ref p2, .ref p3, .ref p4, .int cnt, .int ln, .int kn, .int th])), (q, .inr (3, [.ref a, .ref b, .int ty, .int (nI nn)]))] [.ref o, .int (nI t)] (fun r _ => r = nI nn) (fun _ => [(o, .inr (4, [.ref g, .ref q, .ref P, .ref A, .ref U])), (P, .inr (2, [.ref g, .ref q, .ref p1, .ref p2, .ref p3, .ref p4, .int cnt, .int ln, .int (nI 0), .int th])), (q, .inr (3, [.ref a, .ref b, .int (nI t), .int (nI 0)]))]) := by
  refine zW.of (cc := cX4_begin) (maxL := 2) (ret := (some .int)) (by decide) rfl rfl ?_
  intro p e s m below meth c ls C hP hK hD hl
  obtain ⟨hx, hb, hr, hml, hts, hown, hlocks⟩ := C
  have hS : va_S (zIn [(o, .inr (4, [.ref g, .ref q, .ref P, .ref A, .ref U])), (P, .inr (2, [.ref g, .ref q, .ref p1, .ref p2, .ref p3, .ref p4, .int cnt, .int ln, .int kn, .int th])), (q, .inr (3, [.ref a, .ref b, .int ty, .int (nI nn)]))]) s.heap s.heap [] := va_S.rf
  have hl : lv_has ls 2 [(0, .ref o), (1, .int (nI t))] := hl
  refine lv_iload_n hx hb dX4_begin_0 rfl (lv_at hl 1 rfl) ?_
  refine z_callUS (As := [.int (nI t)]) (rest := []) ⟨hx, hb, hml, hown, hts⟩ hK hP hS (c_X4_checkType_ok (k := t) (by omega)) (va_cwS 1 hts gX4_begin_X4_checkType rfl rfl rfl k_yX4_checkType ⟨Nat.le_of_ble_eq_true rfl, Nat.le_of_ble_eq_true rfl⟩) rfl hl.1 rfl rfl dX4_begin_1 ⟨Nat.le_of_ble_eq_true rfl, Nat.le_of_ble_eq_true rfl⟩ (fun H locs hP hS => ?_)
  refine lv_aload_n hx hb dX4_begin_4 rfl (lv_at hl 0 rfl) ?_
  refine va_get (D := D) (ci := 4) (v := .ref P) (C := RX4) (T := TX4) (N := 5) hx hb hts in_wsX4_begin_X4 hown hK.1 hP 0 rfl rfl 2 (by decide) (hts _ lk220_wsX4_begin) (fun _ h9 => h9) rfl dX4_begin_5 ?_
  refine z_callVV (b := P) (As := []) (rest := []) [(o, .inr (4, [.ref g, .ref q, .ref P, .ref A, .ref U])), (q, .inr (3, [.ref a, .ref b, .int ty, .int (nI nn)]))] ⟨hx, hb, hml, hown, hts⟩ hK hP hD hS (c_X2_forget) (cwV 0 hts gX4_begin_X2_forget rfl rfl rfl k_yX2_forget ⟨Nat.le_of_ble_eq_true rfl, Nat.le_of_ble_eq_true rfl⟩) [1] [0, 2] rfl rfl rfl (fun _ => rfl) 1 2 rfl rfl rfl rfl hl.1 rfl rfl dX4_begin_8 ⟨Nat.le_of_ble_eq_true rfl, Nat.le_of_ble_eq_true rfl⟩ (fun uu0 H locs hp1 hP hD hS => ?_)
  have hP : va_P D vwCl [(o, .inr (4, [.ref g, .ref q, .ref P, .ref A, .ref U])), (q, .inr (3, [.ref a, .ref b, .int ty, .int (nI nn)])), (P, .inr (2, [.ref g, .ref q, .ref p1, .ref p2, .ref p3, .ref p4, .int cnt, .int ln, .int (nI 0), .int th]))] H := hP
  have hD : va_D (zIn [(o, .inr (4, [.ref g, .ref q, .ref P, .ref A, .ref U])), (P, .inr (2, [.ref g, .ref q, .ref p1, .ref p2, .ref p3, .ref p4, .int cnt, .int ln, .int kn, .int th])), (q, .inr (3, [.ref a, .ref b, .int ty, .int (nI nn)]))]) [(o, .inr (4, [.ref g, .ref q, .ref P, .ref A, .ref U])), (q, .inr (3, [.ref a, .ref b, .int ty, .int (nI nn)])), (P, .inr (2, [.ref g, .ref q, .ref p1, .ref p2, .ref p3, .ref p4, .int cnt, .int ln, .int (nI 0), .int th]))] := hD
  refine lv_aload_n hx hb dX4_begin_11 rfl (lv_at hl 0 rfl) ?_
  refine va_get (D := D) (ci := 4) (v := .ref q) (C := RX4) (T := TX4) (N := 5) hx hb hts in_wsX4_begin_X4 hown hK.1 hP 0 rfl rfl 1 (by decide) (hts _ lk222_wsX4_begin) (fun _ h9 => h9) rfl dX4_begin_12 ?_
  refine lv_iload_n hx hb dX4_begin_15 rfl (lv_at hl 1 rfl) ?_
  refine z_callVW (b := q) (As := [.int (nI t)]) (rest := []) [(o, .inr (4, [.ref g, .ref q, .ref P, .ref A, .ref U])), (P, .inr (2, [.ref g, .ref q, .ref p1, .ref p2, .ref p3, .ref p4, .int cnt, .int ln, .int (nI 0), .int th]))] ⟨hx, hb, hml, hown, hts⟩ hK hP hD hS (c_X3_restart (nI t)) (cwV 1 hts gX4_begin_X3_restart rfl rfl rfl k_yX3_restart ⟨Nat.le_of_ble_eq_true rfl, Nat.le_of_ble_eq_true rfl⟩) [1] [0, 2] rfl rfl rfl (fun _ => rfl) 1 3 rfl rfl rfl rfl hl.1 rfl rfl dX4_begin_16 ⟨Nat.le_of_ble_eq_true rfl, Nat.le_of_ble_eq_true rfl⟩ (fun rr3 uu1 H locs hp2 hP hD hS => ?_)
  have hP : va_P D vwCl [(o, .inr (4, [.ref g, .ref q, .ref P, .ref A, .ref U])), (P, .inr (2, [.ref g, .ref q, .ref p1, .ref p2, .ref p3, .ref p4, .int cnt, .int ln, .int (nI 0), .int th])), (q, .inr (3, [.ref a, .ref b, .int (nI t), .int (nI 0)]))] H := hP
  have hD : va_D (zIn [(o, .inr (4, [.ref g, .ref q, .ref P, .ref A, .ref U])), (P, .inr (2, [.ref g, .ref q, .ref p1, .ref p2, .ref p3, .ref p4, .int cnt, .int ln, .int kn, .int th])), (q, .inr (3, [.ref a, .ref b, .int ty, .int (nI nn)]))]) [(o, .inr (4, [.ref g, .ref q, .ref P, .ref A, .ref U])), (P, .inr (2, [.ref g, .ref q, .ref p1, .ref p2, .ref p3, .ref p4, .int cnt, .int ln, .int (nI 0), .int th])), (q, .inr (3, [.ref a, .ref b, .int (nI t), .int (nI 0)]))] := hD
  exact z_iretW () hx hb hr hlocks hS dX4_begin_19 hP hp2
abbrev rmX4_begin_t : Room := { frames := 7, cells := 1, slots := 6, locals := 102 }
set_option maxHeartbeats 4000000 in
set_option maxRecDepth 100000 in
theorem c_X4_begin_bad {l : Launch} {D : va_G} {cy : zCy} {o g q P A U a1 a2 a3 a4 a5 : Nat} {p1 p2 p3 p4 a b nn : Nat} {cnt ln kn th ty : Int32} {x : Int32} (hbad : ¬ inN 4 x) (hl9 : l.stackTraces = false) : zX (Unit) l yX4_begin wsX4_begin rmX4_begin_t D cy [(o, .inr (4, [.ref g, .ref q, .ref P, .ref A, .ref U])), (P, .inr (2, [.ref g, .ref q, .ref p1, .ref p2, .ref p3, .ref p4, .int cnt, .int ln, .int kn, .int th])), (q, .inr (3, [.ref a, .ref b, .int ty, .int (nI nn)]))] [.ref o, .int x] zIAE (fun _ => True) (fun _ => [(o, .inr (4, [.ref g, .ref q, .ref P, .ref A, .ref U])), (P, .inr (2, [.ref g, .ref q, .ref p1, .ref p2, .ref p3, .ref p4, .int cnt, .int ln, .int kn, .int th])), (q, .inr (3, [.ref a, .ref b, .int ty, .int (nI nn)]))]) := by
  refine zX.of (cc := cX4_begin) (maxL := 2) (ret := (some .int)) (by decide) rfl rfl ?_
  intro p e s m below meth c ls C htab hP hK hD hTs hTh hl
  obtain ⟨hx, hb, hr, hml, hts, hown, hlocks⟩ := C
  have hS : va_S (zIn [(o, .inr (4, [.ref g, .ref q, .ref P, .ref A, .ref U])), (P, .inr (2, [.ref g, .ref q, .ref p1, .ref p2, .ref p3, .ref p4, .int cnt, .int ln, .int kn, .int th])), (q, .inr (3, [.ref a, .ref b, .int ty, .int (nI nn)]))]) s.heap s.heap [] := va_S.rf
  have hl : lv_has ls 2 [(0, .ref o), (1, .int x)] := hl
  refine lv_iload_n hx hb dX4_begin_0 rfl (lv_at hl 1 rfl) ?_
  exact z_thruS (As := [.int x]) (rest := []) () ⟨hx, hb, hml, hown, hts⟩ hK hP hD hS hTs hTh (c_X4_checkType_bad (x := x) hbad hl9) (va_cwS 1 hts gX4_begin_X4_checkType rfl rfl rfl k_yX4_checkType ⟨Nat.le_of_ble_eq_true rfl, Nat.le_of_ble_eq_true rfl⟩) rfl hl.1 rfl rfl dX4_begin_1 ⟨Nat.le_of_ble_eq_true rfl, Nat.le_of_ble_eq_true rfl⟩ htab hlocks trivial rfl
theorem k_yX4_typeAt : yX4_typeAt.cls = RX4 ∧ yX4_typeAt.cls ≠ "java/lang/invoke/MethodHandle" ∧ yX4_typeAt.cls ≠ "java/lang/invoke/VarHandle" ∧ (parseMethodDescriptor yX4_typeAt.desc).map (fun d => d.parameters.length) = some 1 := by decide +kernel
set_option maxRecDepth 20000 in
theorem lk225_wsX4_node : Cond.fieldLink RX4 24 "QueryGateway" "query" "LQueryGateway$Query;" ∈ wsX4_node := by decide +kernel
set_option maxRecDepth 20000 in
theorem in_wsX4_node_X4 : ∀ w ∈ wsX40, w ∈ wsX4_node := by decide +kernel
theorem k_yX3_hasRoom : yX3_hasRoom.cls = RX3 ∧ yX3_hasRoom.cls ≠ "java/lang/invoke/MethodHandle" ∧ yX3_hasRoom.cls ≠ "java/lang/invoke/VarHandle" ∧ (parseMethodDescriptor yX3_hasRoom.desc).map (fun d => d.parameters.length) = some 2 := by decide +kernel
set_option maxRecDepth 20000 in
theorem lk228_wsX4_node : Cond.fieldLink RX4 28 "QueryGateway" "plan" "LQueryGateway$Plan;" ∈ wsX4_node := by decide +kernel
theorem k_yX3_append : yX3_append.cls = RX3 ∧ yX3_append.cls ≠ "java/lang/invoke/MethodHandle" ∧ yX3_append.cls ≠ "java/lang/invoke/VarHandle" ∧ (parseMethodDescriptor yX3_append.desc).map (fun d => d.parameters.length) = some 2 := by decide +kernel
abbrev rmX4_node : Room := { frames := 5, cells := 0, slots := 0, locals := 110 }
set_option maxHeartbeats 4000000 in
set_option maxRecDepth 100000 in
theorem c_X4_node_ok_top {l : Launch} {D : va_G} {cy : zCy} {o g q P A U a1 a2 a3 a4 a5 : Nat} {p1 p2 p3 p4 a b nn qt : Nat} {fa cnt ln kn th : Int32} {fc sl : Nat → Nat} {ld ab : Nat → Int32} (hn : nn ≤ 12) {t : Nat} (ht : t < 4) (htq : qt = t) (hf8 : fc t ≤ 8) (hsb : ∀ j, j < nn → sl j < 32) {f : Nat} (hf : f < fc t) (hrm : ((∀ j, j < nn → ¬ (ab j = (-1 : Int32) ∧ sl j = t * 8 + f)) ∧ nn < 12 ∧ zcnt (fun j => decide (ab j = (-1 : Int32))) nn < 4)) : zW (Unit) l yX4_node wsX4_node rmX4_node D cy [(o, .inr (4, [.ref g, .ref q, .ref P, .ref A, .ref U])), (g, .inr (1, [.ref a1, .ref a2, .ref a3, .ref a4, .ref a5, .int fa])), (a1, .inl (cy.1, 4, .inl (fun z => nI (fc z)))), (a2, .inl (cy.1, 32, .inl ld)), (q, .inr (3, [.ref a, .ref b, .int (nI qt), .int (nI nn)])), (a, .inl (cy.1, 12, .inl ab)), (b, .inl (cy.1, 12, .inl (fun z => nI (sl z)))), (P, .inr (2, [.ref g, .ref q, .ref p1, .ref p2, .ref p3, .ref p4, .int cnt, .int ln, .int kn, .int th]))] [.ref o, .int ((-1 : Int32)), .int (nI f)] (fun r _ => r = nI nn) (fun _ => [(o, .inr (4, [.ref g, .ref q, .ref P, .ref A, .ref U])), (g, .inr (1, [.ref a1, .ref a2, .ref a3, .ref a4, .ref a5, .int fa])), (a1, .inl (cy.1, 4, .inl (fun z => nI (fc z)))), (a2, .inl (cy.1, 32, .inl ld)), (q, .inr (3, [.ref a, .ref b, .int (nI qt), .int (nI (nn + 1))])), (a, .inl (cy.1, 12, .inl (upd ab nn (-1 : Int32)))), (b, .inl (cy.1, 12, .inl (fun z => nI (va_up sl nn (t * 8 + f) z)))), (P, .inr (2, [.ref g, .ref q, .ref p1, .ref p2, .ref p3, .ref p4, .int cnt, .int ln, .int (nI 0), .int th]))]) := by
  refine zW.of (cc := cX4_node) (maxL := 5) (ret := (some .int)) (by decide) rfl rfl ?_
  intro p e s m below meth c ls C hP hK hD hl
  obtain ⟨hx, hb, hr, hml, hts, hown, hlocks⟩ := C
  have hS : va_S (zIn [(o, .inr (4, [.ref g, .ref q, .ref P, .ref A, .ref U])), (g, .inr (1, [.ref a1, .ref a2, .ref a3, .ref a4, .ref a5, .int fa])), (a1, .inl (cy.1, 4, .inl (fun z => nI (fc z)))), (a2, .inl (cy.1, 32, .inl ld)), (q, .inr (3, [.ref a, .ref b, .int (nI qt), .int (nI nn)])), (a, .inl (cy.1, 12, .inl ab)), (b, .inl (cy.1, 12, .inl (fun z => nI (sl z)))), (P, .inr (2, [.ref g, .ref q, .ref p1, .ref p2, .ref p3, .ref p4, .int cnt, .int ln, .int kn, .int th]))]) s.heap s.heap [] := va_S.rf
  have hl : lv_has ls 5 [(0, .ref o), (1, .int ((-1 : Int32))), (2, .int (nI f))] := hl
  refine lv_iload_n hx hb dX4_node_0 rfl (lv_at hl 1 rfl) ?_
  refine lv_iconst (v := (-1 : Int32)) hx hb dX4_node_1 (by decide) ?_
  refine lv_icmp_eq (tgt := 10) hx hb dX4_node_2 (by decide) (fun cb1 => ?_) (fun cb1 => ?_)
  · skip
    refine lv_aload_n hx hb dX4_node_10 rfl (lv_at hl 0 rfl) ?_
    refine lv_iload_n hx hb dX4_node_11 rfl (lv_at hl 1 rfl) ?_
    refine z_callV (b := o) (As := [.int ((-1 : Int32))]) (rest := []) ⟨hx, hb, hml, hown, hts⟩ hK hP hS (c_X4_typeAt_top (io := 0) (iq := 4) rfl rfl) (cwV 1 hts gX4_node_X4_typeAt rfl rfl rfl k_yX4_typeAt ⟨Nat.le_of_ble_eq_true rfl, Nat.le_of_ble_eq_true rfl⟩) 0 4 rfl rfl rfl rfl hl.1 rfl rfl dX4_node_12 ⟨Nat.le_of_ble_eq_true rfl, Nat.le_of_ble_eq_true rfl⟩ (fun H locs hP hS => ?_)
    refine z_top (y := nI t) (by rw [htq]) ?_
    refine lv_istore_n (lv' := [(3, .int (nI t)), (0, .ref o), (1, .int ((-1 : Int32))), (2, .int (nI f))]) hx hb dX4_node_15 rfl hl (by decide) rfl (fun ls hl => ?_)
    refine lv_iload_n hx hb dX4_node_16 rfl (lv_at hl 0 rfl) ?_
    refine lv_iconst (v := (-1 : Int32)) hx hb dX4_node_17 (by decide) ?_
    refine lv_icmp_ne (tgt := 31) hx hb dX4_node_18 (by decide) (fun cb2 => ?_) (fun cb2 => ?_)
    · skip
      refine lv_aload_n hx hb dX4_node_31 rfl (lv_at hl 1 rfl) ?_
      refine lv_iload_n hx hb dX4_node_32 rfl (lv_at hl 0 rfl) ?_
      refine lv_iload_n hx hb dX4_node_33 rfl (lv_at hl 3 rfl) ?_
      refine z_callUV (b := o) (As := [.int (nI t), .int (nI f)]) (rest := []) ⟨hx, hb, hml, hown, hts⟩ hK hP hS (c_X4_checkField_ok (io := 0) (i := 1) (j := 2) rfl rfl rfl ht hf (by omega)) (cwV 2 hts gX4_node_X4_checkField rfl rfl rfl k_yX4_checkField ⟨Nat.le_of_ble_eq_true rfl, Nat.le_of_ble_eq_true rfl⟩) 0 4 rfl rfl rfl rfl hl.1 rfl rfl dX4_node_34 ⟨Nat.le_of_ble_eq_true rfl, Nat.le_of_ble_eq_true rfl⟩ (fun H locs hP hS => ?_)
      refine lv_iload_n hx hb dX4_node_37 rfl (lv_at hl 0 rfl) ?_
      refine lv_iload_n hx hb dX4_node_38 rfl (lv_at hl 3 rfl) ?_
      refine z_callS (As := [.int (nI t), .int (nI f)]) (rest := []) ⟨hx, hb, hml, hown, hts⟩ hK hP hS (c_X4_slotOf t f) (va_cwS 2 hts gX4_node_X4_slotOf rfl rfl rfl k_yX4_slotOf ⟨Nat.le_of_ble_eq_true rfl, Nat.le_of_ble_eq_true rfl⟩) rfl hl.1 rfl rfl dX4_node_39 ⟨Nat.le_of_ble_eq_true rfl, Nat.le_of_ble_eq_true rfl⟩ (fun H locs hP hS => ?_)
      refine lv_istore (lv' := [(4, .int (nI (t * 8 + f))), (3, .int (nI t)), (0, .ref o), (1, .int ((-1 : Int32))), (2, .int (nI f))]) hx hb dX4_node_42 hl (by decide) rfl (fun ls hl => ?_)
      refine lv_aload_n hx hb dX4_node_44 rfl (lv_at hl 2 rfl) ?_
      refine va_get (D := D) (ci := 4) (v := .ref q) (C := RX4) (T := TX4) (N := 5) hx hb hts in_wsX4_node_X4 hown hK.1 hP 0 rfl rfl 1 (by decide) (hts _ lk225_wsX4_node) (fun _ h9 => h9) rfl dX4_node_45 ?_
      refine lv_iload_n hx hb dX4_node_48 rfl (lv_at hl 3 rfl) ?_
      refine lv_iload hx hb dX4_node_49 (lv_at hl 0 rfl) ?_
      refine z_callV (b := q) (As := [.int ((-1 : Int32)), .int (nI (t * 8 + f))]) (rest := []) ⟨hx, hb, hml, hown, hts⟩ hK hP hS (c_X3_hasRoom (i := 4) (j := 5) (j2 := 6) rfl rfl rfl hn (-1 : Int32) (t * 8 + f) (by omega) (fun j hj => by have := hsb j hj; omega)) (cwV 2 hts gX4_node_X3_hasRoom rfl rfl rfl k_yX3_hasRoom ⟨Nat.le_of_ble_eq_true rfl, Nat.le_of_ble_eq_true rfl⟩) 4 3 rfl rfl rfl rfl hl.1 rfl rfl dX4_node_51 ⟨Nat.le_of_ble_eq_true rfl, Nat.le_of_ble_eq_true rfl⟩ (fun H locs hP hS => ?_)
      refine lv_if_ne (tgt := 67) hx hb dX4_node_54 (by decide) (fun cb3 => ?_) (fun cb3 => ?_)
      · have cb3 : (decide ((∀ j, j < nn → ¬ (ab j = (-1 : Int32) ∧ sl j = t * 8 + f)) ∧ nn < 12 ∧ zcnt (fun j => decide (ab j = (-1 : Int32))) nn < 4)) = true := bI_f0 cb3
        have hn12 := hrm.2.1
        refine lv_aload_n hx hb dX4_node_67 rfl (lv_at hl 2 rfl) ?_
        refine va_get (D := D) (ci := 4) (v := .ref P) (C := RX4) (T := TX4) (N := 5) hx hb hts in_wsX4_node_X4 hown hK.1 hP 0 rfl rfl 2 (by decide) (hts _ lk228_wsX4_node) (fun _ h9 => h9) rfl dX4_node_68 ?_
        refine z_callVV (b := P) (As := []) (rest := []) [(o, .inr (4, [.ref g, .ref q, .ref P, .ref A, .ref U])), (g, .inr (1, [.ref a1, .ref a2, .ref a3, .ref a4, .ref a5, .int fa])), (a1, .inl (cy.1, 4, .inl (fun z => nI (fc z)))), (a2, .inl (cy.1, 32, .inl ld)), (q, .inr (3, [.ref a, .ref b, .int (nI qt), .int (nI nn)])), (a, .inl (cy.1, 12, .inl ab)), (b, .inl (cy.1, 12, .inl (fun z => nI (sl z))))] ⟨hx, hb, hml, hown, hts⟩ hK hP hD hS (c_X2_forget) (cwV 0 hts gX4_node_X2_forget rfl rfl rfl k_yX2_forget ⟨Nat.le_of_ble_eq_true rfl, Nat.le_of_ble_eq_true rfl⟩) [7] [0, 1, 2, 3, 4, 5, 6] rfl rfl rfl (fun _ => rfl) 7 2 rfl rfl rfl rfl hl.1 rfl rfl dX4_node_71 ⟨Nat.le_of_ble_eq_true rfl, Nat.le_of_ble_eq_true rfl⟩ (fun uu3 H locs hp4 hP hD hS => ?_)
        have hP : va_P D vwCl [(o, .inr (4, [.ref g, .ref q, .ref P, .ref A, .ref U])), (g, .inr (1, [.ref a1, .ref a2, .ref a3, .ref a4, .ref a5, .int fa])), (a1, .inl (cy.1, 4, .inl (fun z => nI (fc z)))), (a2, .inl (cy.1, 32, .inl ld)), (q, .inr (3, [.ref a, .ref b, .int (nI qt), .int (nI nn)])), (a, .inl (cy.1, 12, .inl ab)), (b, .inl (cy.1, 12, .inl (fun z => nI (sl z)))), (P, .inr (2, [.ref g, .ref q, .ref p1, .ref p2, .ref p3, .ref p4, .int cnt, .int ln, .int (nI 0), .int th]))] H := hP
        have hD : va_D (zIn [(o, .inr (4, [.ref g, .ref q, .ref P, .ref A, .ref U])), (g, .inr (1, [.ref a1, .ref a2, .ref a3, .ref a4, .ref a5, .int fa])), (a1, .inl (cy.1, 4, .inl (fun z => nI (fc z)))), (a2, .inl (cy.1, 32, .inl ld)), (q, .inr (3, [.ref a, .ref b, .int (nI qt), .int (nI nn)])), (a, .inl (cy.1, 12, .inl ab)), (b, .inl (cy.1, 12, .inl (fun z => nI (sl z)))), (P, .inr (2, [.ref g, .ref q, .ref p1, .ref p2, .ref p3, .ref p4, .int cnt, .int ln, .int kn, .int th]))]) [(o, .inr (4, [.ref g, .ref q, .ref P, .ref A, .ref U])), (g, .inr (1, [.ref a1, .ref a2, .ref a3, .ref a4, .ref a5, .int fa])), (a1, .inl (cy.1, 4, .inl (fun z => nI (fc z)))), (a2, .inl (cy.1, 32, .inl ld)), (q, .inr (3, [.ref a, .ref b, .int (nI qt), .int (nI nn)])), (a, .inl (cy.1, 12, .inl ab)), (b, .inl (cy.1, 12, .inl (fun z => nI (sl z)))), (P, .inr (2, [.ref g, .ref q, .ref p1, .ref p2, .ref p3, .ref p4, .int cnt, .int ln, .int (nI 0), .int th]))] := hD
        refine lv_aload_n hx hb dX4_node_74 rfl (lv_at hl 2 rfl) ?_
        refine va_get (D := D) (ci := 4) (v := .ref q) (C := RX4) (T := TX4) (N := 5) hx hb hts in_wsX4_node_X4 hown hK.1 hP 0 rfl rfl 1 (by decide) (hts _ lk225_wsX4_node) (fun _ h9 => h9) rfl dX4_node_75 ?_
        refine lv_iload_n hx hb dX4_node_78 rfl (lv_at hl 3 rfl) ?_
        refine lv_iload hx hb dX4_node_79 (lv_at hl 0 rfl) ?_
        refine z_callVW (b := q) (As := [.int ((-1 : Int32)), .int (nI (t * 8 + f))]) (rest := []) [(o, .inr (4, [.ref g, .ref q, .ref P, .ref A, .ref U])), (g, .inr (1, [.ref a1, .ref a2, .ref a3, .ref a4, .ref a5, .int fa])), (a1, .inl (cy.1, 4, .inl (fun z => nI (fc z)))), (a2, .inl (cy.1, 32, .inl ld)), (P, .inr (2, [.ref g, .ref q, .ref p1, .ref p2, .ref p3, .ref p4, .int cnt, .int ln, .int (nI 0), .int th]))] ⟨hx, hb, hml, hown, hts⟩ hK hP hD hS (c_X3_append (by omega) (-1 : Int32) (t * 8 + f)) (cwV 2 hts gX4_node_X3_append rfl rfl rfl k_yX3_append ⟨Nat.le_of_ble_eq_true rfl, Nat.le_of_ble_eq_true rfl⟩) [4, 5, 6] [0, 1, 2, 3, 7] rfl rfl rfl (fun _ => rfl) 4 3 rfl rfl rfl rfl hl.1 rfl rfl dX4_node_81 ⟨Nat.le_of_ble_eq_true rfl, Nat.le_of_ble_eq_true rfl⟩ (fun rr6 uu4 H locs hp5 hP hD hS => ?_)
        have hP : va_P D vwCl [(o, .inr (4, [.ref g, .ref q, .ref P, .ref A, .ref U])), (g, .inr (1, [.ref a1, .ref a2, .ref a3, .ref a4, .ref a5, .int fa])), (a1, .inl (cy.1, 4, .inl (fun z => nI (fc z)))), (a2, .inl (cy.1, 32, .inl ld)), (P, .inr (2, [.ref g, .ref q, .ref p1, .ref p2, .ref p3, .ref p4, .int cnt, .int ln, .int (nI 0), .int th])), (q, .inr (3, [.ref a, .ref b, .int (nI qt), .int (nI (nn + 1))])), (a, .inl (cy.1, 12, .inl (upd ab nn (-1 : Int32)))), (b, .inl (cy.1, 12, .inl (fun z => nI (va_up sl nn (t * 8 + f) z))))] H := hP
        have hD : va_D (zIn [(o, .inr (4, [.ref g, .ref q, .ref P, .ref A, .ref U])), (g, .inr (1, [.ref a1, .ref a2, .ref a3, .ref a4, .ref a5, .int fa])), (a1, .inl (cy.1, 4, .inl (fun z => nI (fc z)))), (a2, .inl (cy.1, 32, .inl ld)), (q, .inr (3, [.ref a, .ref b, .int (nI qt), .int (nI nn)])), (a, .inl (cy.1, 12, .inl ab)), (b, .inl (cy.1, 12, .inl (fun z => nI (sl z)))), (P, .inr (2, [.ref g, .ref q, .ref p1, .ref p2, .ref p3, .ref p4, .int cnt, .int ln, .int kn, .int th]))]) [(o, .inr (4, [.ref g, .ref q, .ref P, .ref A, .ref U])), (g, .inr (1, [.ref a1, .ref a2, .ref a3, .ref a4, .ref a5, .int fa])), (a1, .inl (cy.1, 4, .inl (fun z => nI (fc z)))), (a2, .inl (cy.1, 32, .inl ld)), (P, .inr (2, [.ref g, .ref q, .ref p1, .ref p2, .ref p3, .ref p4, .int cnt, .int ln, .int (nI 0), .int th])), (q, .inr (3, [.ref a, .ref b, .int (nI qt), .int (nI (nn + 1))])), (a, .inl (cy.1, 12, .inl (upd ab nn (-1 : Int32)))), (b, .inl (cy.1, 12, .inl (fun z => nI (va_up sl nn (t * 8 + f) z))))] := hD
        have hP := hP.sub (ws' := [(o, .inr (4, [.ref g, .ref q, .ref P, .ref A, .ref U])), (g, .inr (1, [.ref a1, .ref a2, .ref a3, .ref a4, .ref a5, .int fa])), (a1, .inl (cy.1, 4, .inl (fun z => nI (fc z)))), (a2, .inl (cy.1, 32, .inl ld)), (q, .inr (3, [.ref a, .ref b, .int (nI qt), .int (nI (nn + 1))])), (a, .inl (cy.1, 12, .inl (upd ab nn (-1 : Int32)))), (b, .inl (cy.1, 12, .inl (fun z => nI (va_up sl nn (t * 8 + f) z)))), (P, .inr (2, [.ref g, .ref q, .ref p1, .ref p2, .ref p3, .ref p4, .int cnt, .int ln, .int (nI 0), .int th]))]) [0, 1, 2, 3, 5, 6, 7, 4] rfl
        have hD := hD.sub (ws' := [(o, .inr (4, [.ref g, .ref q, .ref P, .ref A, .ref U])), (g, .inr (1, [.ref a1, .ref a2, .ref a3, .ref a4, .ref a5, .int fa])), (a1, .inl (cy.1, 4, .inl (fun z => nI (fc z)))), (a2, .inl (cy.1, 32, .inl ld)), (q, .inr (3, [.ref a, .ref b, .int (nI qt), .int (nI (nn + 1))])), (a, .inl (cy.1, 12, .inl (upd ab nn (-1 : Int32)))), (b, .inl (cy.1, 12, .inl (fun z => nI (va_up sl nn (t * 8 + f) z)))), (P, .inr (2, [.ref g, .ref q, .ref p1, .ref p2, .ref p3, .ref p4, .int cnt, .int ln, .int (nI 0), .int th]))]) [0, 1, 2, 3, 5, 6, 7, 4] (by decide) rfl
        exact z_iretW () hx hb hr hlocks hS dX4_node_84 hP hp5
      · have cb3 : (decide ((∀ j, j < nn → ¬ (ab j = (-1 : Int32) ∧ sl j = t * 8 + f)) ∧ nn < 12 ∧ zcnt (fun j => decide (ab j = (-1 : Int32))) nn < 4)) = false := bI_t0 cb3
        exact absurd hrm (of_decide_eq_false cb3)
    · skip
      exact absurd cb2 (nI_m1 (by omega))
  · skip
    exact absurd rfl cb1
abbrev rmX4_node_t : Room := { frames := 7, cells := 1, slots := 6, locals := 120 }
set_option maxHeartbeats 4000000 in
set_option maxRecDepth 100000 in
theorem c_X4_node_badF_top {l : Launch} {D : va_G} {cy : zCy} {o g q P A U a1 a2 a3 a4 a5 : Nat} {p1 p2 p3 p4 a b nn qt : Nat} {fa cnt ln kn th : Int32} {fc sl : Nat → Nat} {ld ab : Nat → Int32} (hn : nn ≤ 12) {t : Nat} (ht : t < 4) (htq : qt = t) (hf8 : fc t ≤ 8) (hsb : ∀ j, j < nn → sl j < 32) {x : Int32} (hbad : ¬ inN (fc t) x) (hl9 : l.stackTraces = false) : zX (Unit) l yX4_node wsX4_node rmX4_node_t D cy [(o, .inr (4, [.ref g, .ref q, .ref P, .ref A, .ref U])), (g, .inr (1, [.ref a1, .ref a2, .ref a3, .ref a4, .ref a5, .int fa])), (a1, .inl (cy.1, 4, .inl (fun z => nI (fc z)))), (a2, .inl (cy.1, 32, .inl ld)), (q, .inr (3, [.ref a, .ref b, .int (nI qt), .int (nI nn)])), (a, .inl (cy.1, 12, .inl ab)), (b, .inl (cy.1, 12, .inl (fun z => nI (sl z)))), (P, .inr (2, [.ref g, .ref q, .ref p1, .ref p2, .ref p3, .ref p4, .int cnt, .int ln, .int kn, .int th]))] [.ref o, .int ((-1 : Int32)), .int x] zIOE (fun _ => True) (fun _ => [(o, .inr (4, [.ref g, .ref q, .ref P, .ref A, .ref U])), (g, .inr (1, [.ref a1, .ref a2, .ref a3, .ref a4, .ref a5, .int fa])), (a1, .inl (cy.1, 4, .inl (fun z => nI (fc z)))), (a2, .inl (cy.1, 32, .inl ld)), (q, .inr (3, [.ref a, .ref b, .int (nI qt), .int (nI nn)])), (a, .inl (cy.1, 12, .inl ab)), (b, .inl (cy.1, 12, .inl (fun z => nI (sl z)))), (P, .inr (2, [.ref g, .ref q, .ref p1, .ref p2, .ref p3, .ref p4, .int cnt, .int ln, .int kn, .int th]))]) := by
  refine zX.of (cc := cX4_node) (maxL := 5) (ret := (some .int)) (by decide) rfl rfl ?_
  intro p e s m below meth c ls C htab hP hK hD hTs hTh hl
  obtain ⟨hx, hb, hr, hml, hts, hown, hlocks⟩ := C
  have hS : va_S (zIn [(o, .inr (4, [.ref g, .ref q, .ref P, .ref A, .ref U])), (g, .inr (1, [.ref a1, .ref a2, .ref a3, .ref a4, .ref a5, .int fa])), (a1, .inl (cy.1, 4, .inl (fun z => nI (fc z)))), (a2, .inl (cy.1, 32, .inl ld)), (q, .inr (3, [.ref a, .ref b, .int (nI qt), .int (nI nn)])), (a, .inl (cy.1, 12, .inl ab)), (b, .inl (cy.1, 12, .inl (fun z => nI (sl z)))), (P, .inr (2, [.ref g, .ref q, .ref p1, .ref p2, .ref p3, .ref p4, .int cnt, .int ln, .int kn, .int th]))]) s.heap s.heap [] := va_S.rf
  have hl : lv_has ls 5 [(0, .ref o), (1, .int ((-1 : Int32))), (2, .int x)] := hl
  refine lv_iload_n hx hb dX4_node_0 rfl (lv_at hl 1 rfl) ?_
  refine lv_iconst (v := (-1 : Int32)) hx hb dX4_node_1 (by decide) ?_
  refine lv_icmp_eq (tgt := 10) hx hb dX4_node_2 (by decide) (fun cb1 => ?_) (fun cb1 => ?_)
  · skip
    refine lv_aload_n hx hb dX4_node_10 rfl (lv_at hl 0 rfl) ?_
    refine lv_iload_n hx hb dX4_node_11 rfl (lv_at hl 1 rfl) ?_
    refine z_callV (b := o) (As := [.int ((-1 : Int32))]) (rest := []) ⟨hx, hb, hml, hown, hts⟩ hK hP hS (c_X4_typeAt_top (io := 0) (iq := 4) rfl rfl) (cwV 1 hts gX4_node_X4_typeAt rfl rfl rfl k_yX4_typeAt ⟨Nat.le_of_ble_eq_true rfl, Nat.le_of_ble_eq_true rfl⟩) 0 4 rfl rfl rfl rfl hl.1 rfl rfl dX4_node_12 ⟨Nat.le_of_ble_eq_true rfl, Nat.le_of_ble_eq_true rfl⟩ (fun H locs hP hS => ?_)
    refine z_top (y := nI t) (by rw [htq]) ?_
    refine lv_istore_n (lv' := [(3, .int (nI t)), (0, .ref o), (1, .int ((-1 : Int32))), (2, .int x)]) hx hb dX4_node_15 rfl hl (by decide) rfl (fun ls hl => ?_)
    refine lv_iload_n hx hb dX4_node_16 rfl (lv_at hl 0 rfl) ?_
    refine lv_iconst (v := (-1 : Int32)) hx hb dX4_node_17 (by decide) ?_
    refine lv_icmp_ne (tgt := 31) hx hb dX4_node_18 (by decide) (fun cb2 => ?_) (fun cb2 => ?_)
    · skip
      refine lv_aload_n hx hb dX4_node_31 rfl (lv_at hl 1 rfl) ?_
      refine lv_iload_n hx hb dX4_node_32 rfl (lv_at hl 0 rfl) ?_
      refine lv_iload_n hx hb dX4_node_33 rfl (lv_at hl 3 rfl) ?_
      exact z_thruO (b := o) (As := [.int (nI t), .int x]) (rest := []) () ⟨hx, hb, hml, hown, hts⟩ hK hP hD hS hTs hTh (c_X4_checkField_bad (io := 0) (i := 1) (j := 2) rfl rfl rfl ht hbad (by omega) hl9) (cwV 2 hts gX4_node_X4_checkField rfl rfl rfl k_yX4_checkField ⟨Nat.le_of_ble_eq_true rfl, Nat.le_of_ble_eq_true rfl⟩) 0 4 rfl rfl rfl rfl hl.1 rfl rfl dX4_node_34 ⟨Nat.le_of_ble_eq_true rfl, Nat.le_of_ble_eq_true rfl⟩ htab hlocks trivial rfl
    · skip
      exact absurd cb2 (nI_m1 (by omega))
  · skip
    exact absurd rfl cb1
set_option maxRecDepth 20000 in
theorem lk230_wsX4_node : Cond.classLink RX4 63 "java/lang/IllegalStateException" ∈ wsX4_node := by decide +kernel
set_option maxRecDepth 20000 in
theorem lk231_wsX4_node : Cond.initialized "java/lang/IllegalStateException" ∈ wsX4_node := by decide +kernel
set_option maxHeartbeats 4000000 in
set_option maxRecDepth 100000 in
theorem c_X4_node_badR_top {l : Launch} {D : va_G} {cy : zCy} {o g q P A U a1 a2 a3 a4 a5 : Nat} {p1 p2 p3 p4 a b nn qt : Nat} {fa cnt ln kn th : Int32} {fc sl : Nat → Nat} {ld ab : Nat → Int32} (hn : nn ≤ 12) {t : Nat} (ht : t < 4) (htq : qt = t) (hf8 : fc t ≤ 8) (hsb : ∀ j, j < nn → sl j < 32) {f : Nat} (hf : f < fc t) (hrm : ¬ ((∀ j, j < nn → ¬ (ab j = (-1 : Int32) ∧ sl j = t * 8 + f)) ∧ nn < 12 ∧ zcnt (fun j => decide (ab j = (-1 : Int32))) nn < 4)) (hl9 : l.stackTraces = false) : zX (Unit) l yX4_node wsX4_node rmX4_node_t D cy [(o, .inr (4, [.ref g, .ref q, .ref P, .ref A, .ref U])), (g, .inr (1, [.ref a1, .ref a2, .ref a3, .ref a4, .ref a5, .int fa])), (a1, .inl (cy.1, 4, .inl (fun z => nI (fc z)))), (a2, .inl (cy.1, 32, .inl ld)), (q, .inr (3, [.ref a, .ref b, .int (nI qt), .int (nI nn)])), (a, .inl (cy.1, 12, .inl ab)), (b, .inl (cy.1, 12, .inl (fun z => nI (sl z)))), (P, .inr (2, [.ref g, .ref q, .ref p1, .ref p2, .ref p3, .ref p4, .int cnt, .int ln, .int kn, .int th]))] [.ref o, .int ((-1 : Int32)), .int (nI f)] zISE (fun _ => True) (fun _ => [(o, .inr (4, [.ref g, .ref q, .ref P, .ref A, .ref U])), (g, .inr (1, [.ref a1, .ref a2, .ref a3, .ref a4, .ref a5, .int fa])), (a1, .inl (cy.1, 4, .inl (fun z => nI (fc z)))), (a2, .inl (cy.1, 32, .inl ld)), (q, .inr (3, [.ref a, .ref b, .int (nI qt), .int (nI nn)])), (a, .inl (cy.1, 12, .inl ab)), (b, .inl (cy.1, 12, .inl (fun z => nI (sl z)))), (P, .inr (2, [.ref g, .ref q, .ref p1, .ref p2, .ref p3, .ref p4, .int cnt, .int ln, .int kn, .int th]))]) := by
  refine zX.of (cc := cX4_node) (maxL := 5) (ret := (some .int)) (by decide) rfl rfl ?_
  intro p e s m below meth c ls C htab hP hK hD hTs hTh hl
  obtain ⟨hx, hb, hr, hml, hts, hown, hlocks⟩ := C
  have hS : va_S (zIn [(o, .inr (4, [.ref g, .ref q, .ref P, .ref A, .ref U])), (g, .inr (1, [.ref a1, .ref a2, .ref a3, .ref a4, .ref a5, .int fa])), (a1, .inl (cy.1, 4, .inl (fun z => nI (fc z)))), (a2, .inl (cy.1, 32, .inl ld)), (q, .inr (3, [.ref a, .ref b, .int (nI qt), .int (nI nn)])), (a, .inl (cy.1, 12, .inl ab)), (b, .inl (cy.1, 12, .inl (fun z => nI (sl z)))), (P, .inr (2, [.ref g, .ref q, .ref p1, .ref p2, .ref p3, .ref p4, .int cnt, .int ln, .int kn, .int th]))]) s.heap s.heap [] := va_S.rf
  have hl : lv_has ls 5 [(0, .ref o), (1, .int ((-1 : Int32))), (2, .int (nI f))] := hl
  refine lv_iload_n hx hb dX4_node_0 rfl (lv_at hl 1 rfl) ?_
  refine lv_iconst (v := (-1 : Int32)) hx hb dX4_node_1 (by decide) ?_
  refine lv_icmp_eq (tgt := 10) hx hb dX4_node_2 (by decide) (fun cb1 => ?_) (fun cb1 => ?_)
  · skip
    refine lv_aload_n hx hb dX4_node_10 rfl (lv_at hl 0 rfl) ?_
    refine lv_iload_n hx hb dX4_node_11 rfl (lv_at hl 1 rfl) ?_
    refine z_callV (b := o) (As := [.int ((-1 : Int32))]) (rest := []) ⟨hx, hb, hml, hown, hts⟩ hK hP hS (c_X4_typeAt_top (io := 0) (iq := 4) rfl rfl) (cwV 1 hts gX4_node_X4_typeAt rfl rfl rfl k_yX4_typeAt ⟨Nat.le_of_ble_eq_true rfl, Nat.le_of_ble_eq_true rfl⟩) 0 4 rfl rfl rfl rfl hl.1 rfl rfl dX4_node_12 ⟨Nat.le_of_ble_eq_true rfl, Nat.le_of_ble_eq_true rfl⟩ (fun H locs hP hS => ?_)
    refine z_top (y := nI t) (by rw [htq]) ?_
    refine lv_istore_n (lv' := [(3, .int (nI t)), (0, .ref o), (1, .int ((-1 : Int32))), (2, .int (nI f))]) hx hb dX4_node_15 rfl hl (by decide) rfl (fun ls hl => ?_)
    refine lv_iload_n hx hb dX4_node_16 rfl (lv_at hl 0 rfl) ?_
    refine lv_iconst (v := (-1 : Int32)) hx hb dX4_node_17 (by decide) ?_
    refine lv_icmp_ne (tgt := 31) hx hb dX4_node_18 (by decide) (fun cb2 => ?_) (fun cb2 => ?_)
    · skip
      refine lv_aload_n hx hb dX4_node_31 rfl (lv_at hl 1 rfl) ?_
      refine lv_iload_n hx hb dX4_node_32 rfl (lv_at hl 0 rfl) ?_
      refine lv_iload_n hx hb dX4_node_33 rfl (lv_at hl 3 rfl) ?_
      refine z_callUV (b := o) (As := [.int (nI t), .int (nI f)]) (rest := []) ⟨hx, hb, hml, hown, hts⟩ hK hP hS (c_X4_checkField_ok (io := 0) (i := 1) (j := 2) rfl rfl rfl ht hf (by omega)) (cwV 2 hts gX4_node_X4_checkField rfl rfl rfl k_yX4_checkField ⟨Nat.le_of_ble_eq_true rfl, Nat.le_of_ble_eq_true rfl⟩) 0 4 rfl rfl rfl rfl hl.1 rfl rfl dX4_node_34 ⟨Nat.le_of_ble_eq_true rfl, Nat.le_of_ble_eq_true rfl⟩ (fun H locs hP hS => ?_)
      refine lv_iload_n hx hb dX4_node_37 rfl (lv_at hl 0 rfl) ?_
      refine lv_iload_n hx hb dX4_node_38 rfl (lv_at hl 3 rfl) ?_
      refine z_callS (As := [.int (nI t), .int (nI f)]) (rest := []) ⟨hx, hb, hml, hown, hts⟩ hK hP hS (c_X4_slotOf t f) (va_cwS 2 hts gX4_node_X4_slotOf rfl rfl rfl k_yX4_slotOf ⟨Nat.le_of_ble_eq_true rfl, Nat.le_of_ble_eq_true rfl⟩) rfl hl.1 rfl rfl dX4_node_39 ⟨Nat.le_of_ble_eq_true rfl, Nat.le_of_ble_eq_true rfl⟩ (fun H locs hP hS => ?_)
      refine lv_istore (lv' := [(4, .int (nI (t * 8 + f))), (3, .int (nI t)), (0, .ref o), (1, .int ((-1 : Int32))), (2, .int (nI f))]) hx hb dX4_node_42 hl (by decide) rfl (fun ls hl => ?_)
      refine lv_aload_n hx hb dX4_node_44 rfl (lv_at hl 2 rfl) ?_
      refine va_get (D := D) (ci := 4) (v := .ref q) (C := RX4) (T := TX4) (N := 5) hx hb hts in_wsX4_node_X4 hown hK.1 hP 0 rfl rfl 1 (by decide) (hts _ lk225_wsX4_node) (fun _ h9 => h9) rfl dX4_node_45 ?_
      refine lv_iload_n hx hb dX4_node_48 rfl (lv_at hl 3 rfl) ?_
      refine lv_iload hx hb dX4_node_49 (lv_at hl 0 rfl) ?_
      refine z_callV (b := q) (As := [.int ((-1 : Int32)), .int (nI (t * 8 + f))]) (rest := []) ⟨hx, hb, hml, hown, hts⟩ hK hP hS (c_X3_hasRoom (i := 4) (j := 5) (j2 := 6) rfl rfl rfl hn (-1 : Int32) (t * 8 + f) (by omega) (fun j hj => by have := hsb j hj; omega)) (cwV 2 hts gX4_node_X3_hasRoom rfl rfl rfl k_yX3_hasRoom ⟨Nat.le_of_ble_eq_true rfl, Nat.le_of_ble_eq_true rfl⟩) 4 3 rfl rfl rfl rfl hl.1 rfl rfl dX4_node_51 ⟨Nat.le_of_ble_eq_true rfl, Nat.le_of_ble_eq_true rfl⟩ (fun H locs hP hS => ?_)
      refine lv_if_ne (tgt := 67) hx hb dX4_node_54 (by decide) (fun cb3 => ?_) (fun cb3 => ?_)
      · have cb3 : (decide ((∀ j, j < nn → ¬ (ab j = (-1 : Int32) ∧ sl j = t * 8 + f)) ∧ nn < 12 ∧ zcnt (fun j => decide (ab j = (-1 : Int32))) nn < 4)) = true := bI_f0 cb3
        exact absurd (of_decide_eq_true cb3) hrm
      · have cb3 : (decide ((∀ j, j < nn → ¬ (ab j = (-1 : Int32) ∧ sl j = t * 8 + f)) ∧ nn < 12 ∧ zcnt (fun j => decide (ab j = (-1 : Int32))) nn < 4)) = false := bI_t0 cb3
        exact z_throw (E := zISE) (ik := 63) (is := 121) (ic := 67) (tx := "there is no room for this node") () hx hb hl9 hml hl.1 hown hlocks (by decide) hts (fun w hw => List.mem_cons_of_mem _ (List.mem_append_left _ (List.mem_append_right _ hw))) lk230_wsX4_node lk231_wsX4_node hB_67 hG_67 rfl hTs (by decide) (by decide) hTh hS dX4_node_57 dX4_node_60 dX4_node_61 dX4_node_63 dX4_node_66 htab ⟨rfl, rfl, rfl, rfl⟩ hP trivial
    · skip
      exact absurd cb2 (nI_m1 (by omega))
  · skip
    exact absurd rfl cb1
theorem k_yX4_checkNode : yX4_checkNode.cls = RX4 ∧ yX4_checkNode.cls ≠ "java/lang/invoke/MethodHandle" ∧ yX4_checkNode.cls ≠ "java/lang/invoke/VarHandle" ∧ (parseMethodDescriptor yX4_checkNode.desc).map (fun d => d.parameters.length) = some 1 := by decide +kernel
set_option maxHeartbeats 4000000 in
set_option maxRecDepth 100000 in
theorem c_X4_node_ok_at {l : Launch} {D : va_G} {cy : zCy} {o g q P A U a1 a2 a3 a4 a5 : Nat} {p1 p2 p3 p4 a b nn qt : Nat} {fa cnt ln kn th : Int32} {fc sl : Nat → Nat} {ld ab : Nat → Int32} (hn : nn ≤ 12) {t : Nat} (ht : t < 4) {k : Nat} (hk : k < nn) (hs32 : sl k < 32) (hlt : ld (sl k) = nI t) (hf8 : fc t ≤ 8) (hsb : ∀ j, j < nn → sl j < 32) {f : Nat} (hf : f < fc t) (hrm : ((∀ j, j < nn → ¬ (ab j = (nI k) ∧ sl j = t * 8 + f)) ∧ nn < 12 ∧ zcnt (fun j => decide (ab j = (nI k))) nn < 4)) : zW (Unit) l yX4_node wsX4_node rmX4_node D cy [(o, .inr (4, [.ref g, .ref q, .ref P, .ref A, .ref U])), (g, .inr (1, [.ref a1, .ref a2, .ref a3, .ref a4, .ref a5, .int fa])), (a1, .inl (cy.1, 4, .inl (fun z => nI (fc z)))), (a2, .inl (cy.1, 32, .inl ld)), (q, .inr (3, [.ref a, .ref b, .int (nI qt), .int (nI nn)])), (a, .inl (cy.1, 12, .inl ab)), (b, .inl (cy.1, 12, .inl (fun z => nI (sl z)))), (P, .inr (2, [.ref g, .ref q, .ref p1, .ref p2, .ref p3, .ref p4, .int cnt, .int ln, .int kn, .int th]))] [.ref o, .int (nI k), .int (nI f)] (fun r _ => r = nI nn) (fun _ => [(o, .inr (4, [.ref g, .ref q, .ref P, .ref A, .ref U])), (g, .inr (1, [.ref a1, .ref a2, .ref a3, .ref a4, .ref a5, .int fa])), (a1, .inl (cy.1, 4, .inl (fun z => nI (fc z)))), (a2, .inl (cy.1, 32, .inl ld)), (q, .inr (3, [.ref a, .ref b, .int (nI qt), .int (nI (nn + 1))])), (a, .inl (cy.1, 12, .inl (upd ab nn (nI k)))), (b, .inl (cy.1, 12, .inl (fun z => nI (va_up sl nn (t * 8 + f) z)))), (P, .inr (2, [.ref g, .ref q, .ref p1, .ref p2, .ref p3, .ref p4, .int cnt, .int ln, .int (nI 0), .int th]))]) := by
  refine zW.of (cc := cX4_node) (maxL := 5) (ret := (some .int)) (by decide) rfl rfl ?_
  intro p e s m below meth c ls C hP hK hD hl
  obtain ⟨hx, hb, hr, hml, hts, hown, hlocks⟩ := C
  have hS : va_S (zIn [(o, .inr (4, [.ref g, .ref q, .ref P, .ref A, .ref U])), (g, .inr (1, [.ref a1, .ref a2, .ref a3, .ref a4, .ref a5, .int fa])), (a1, .inl (cy.1, 4, .inl (fun z => nI (fc z)))), (a2, .inl (cy.1, 32, .inl ld)), (q, .inr (3, [.ref a, .ref b, .int (nI qt), .int (nI nn)])), (a, .inl (cy.1, 12, .inl ab)), (b, .inl (cy.1, 12, .inl (fun z => nI (sl z)))), (P, .inr (2, [.ref g, .ref q, .ref p1, .ref p2, .ref p3, .ref p4, .int cnt, .int ln, .int kn, .int th]))]) s.heap s.heap [] := va_S.rf
  have hl : lv_has ls 5 [(0, .ref o), (1, .int (nI k)), (2, .int (nI f))] := hl
  refine lv_iload_n hx hb dX4_node_0 rfl (lv_at hl 1 rfl) ?_
  refine lv_iconst (v := (-1 : Int32)) hx hb dX4_node_1 (by decide) ?_
  refine lv_icmp_eq (tgt := 10) hx hb dX4_node_2 (by decide) (fun cb1 => ?_) (fun cb1 => ?_)
  · skip
    exact absurd cb1 (nI_m1 (by omega))
  · skip
    refine lv_aload_n hx hb dX4_node_5 rfl (lv_at hl 0 rfl) ?_
    refine lv_iload_n hx hb dX4_node_6 rfl (lv_at hl 1 rfl) ?_
    refine z_callUV (b := o) (As := [.int (nI k)]) (rest := []) ⟨hx, hb, hml, hown, hts⟩ hK hP hS (c_X4_checkNode_ok (io := 0) (iq := 4) rfl rfl hn (k := k) (by omega)) (cwV 1 hts gX4_node_X4_checkNode rfl rfl rfl k_yX4_checkNode ⟨Nat.le_of_ble_eq_true rfl, Nat.le_of_ble_eq_true rfl⟩) 0 4 rfl rfl rfl rfl hl.1 rfl rfl dX4_node_7 ⟨Nat.le_of_ble_eq_true rfl, Nat.le_of_ble_eq_true rfl⟩ (fun H locs hP hS => ?_)
    refine lv_aload_n hx hb dX4_node_10 rfl (lv_at hl 0 rfl) ?_
    refine lv_iload_n hx hb dX4_node_11 rfl (lv_at hl 1 rfl) ?_
    refine z_callV (b := o) (As := [.int (nI k)]) (rest := []) ⟨hx, hb, hml, hown, hts⟩ hK hP hS (c_X4_typeAt_at (io := 0) (i := 1) (jl := 3) (iq := 4) (jb := 6) rfl rfl rfl rfl rfl hn (k := k) hk hs32) (cwV 1 hts gX4_node_X4_typeAt rfl rfl rfl k_yX4_typeAt ⟨Nat.le_of_ble_eq_true rfl, Nat.le_of_ble_eq_true rfl⟩) 0 4 rfl rfl rfl rfl hl.1 rfl rfl dX4_node_12 ⟨Nat.le_of_ble_eq_true rfl, Nat.le_of_ble_eq_true rfl⟩ (fun H locs hP hS => ?_)
    refine z_top (y := nI t) hlt ?_
    refine lv_istore_n (lv' := [(3, .int (nI t)), (0, .ref o), (1, .int (nI k)), (2, .int (nI f))]) hx hb dX4_node_15 rfl hl (by decide) rfl (fun ls hl => ?_)
    refine lv_iload_n hx hb dX4_node_16 rfl (lv_at hl 0 rfl) ?_
    refine lv_iconst (v := (-1 : Int32)) hx hb dX4_node_17 (by decide) ?_
    refine lv_icmp_ne (tgt := 31) hx hb dX4_node_18 (by decide) (fun cb2 => ?_) (fun cb2 => ?_)
    · skip
      refine lv_aload_n hx hb dX4_node_31 rfl (lv_at hl 1 rfl) ?_
      refine lv_iload_n hx hb dX4_node_32 rfl (lv_at hl 0 rfl) ?_
      refine lv_iload_n hx hb dX4_node_33 rfl (lv_at hl 3 rfl) ?_
      refine z_callUV (b := o) (As := [.int (nI t), .int (nI f)]) (rest := []) ⟨hx, hb, hml, hown, hts⟩ hK hP hS (c_X4_checkField_ok (io := 0) (i := 1) (j := 2) rfl rfl rfl ht hf (by omega)) (cwV 2 hts gX4_node_X4_checkField rfl rfl rfl k_yX4_checkField ⟨Nat.le_of_ble_eq_true rfl, Nat.le_of_ble_eq_true rfl⟩) 0 4 rfl rfl rfl rfl hl.1 rfl rfl dX4_node_34 ⟨Nat.le_of_ble_eq_true rfl, Nat.le_of_ble_eq_true rfl⟩ (fun H locs hP hS => ?_)
      refine lv_iload_n hx hb dX4_node_37 rfl (lv_at hl 0 rfl) ?_
      refine lv_iload_n hx hb dX4_node_38 rfl (lv_at hl 3 rfl) ?_
      refine z_callS (As := [.int (nI t), .int (nI f)]) (rest := []) ⟨hx, hb, hml, hown, hts⟩ hK hP hS (c_X4_slotOf t f) (va_cwS 2 hts gX4_node_X4_slotOf rfl rfl rfl k_yX4_slotOf ⟨Nat.le_of_ble_eq_true rfl, Nat.le_of_ble_eq_true rfl⟩) rfl hl.1 rfl rfl dX4_node_39 ⟨Nat.le_of_ble_eq_true rfl, Nat.le_of_ble_eq_true rfl⟩ (fun H locs hP hS => ?_)
      refine lv_istore (lv' := [(4, .int (nI (t * 8 + f))), (3, .int (nI t)), (0, .ref o), (1, .int (nI k)), (2, .int (nI f))]) hx hb dX4_node_42 hl (by decide) rfl (fun ls hl => ?_)
      refine lv_aload_n hx hb dX4_node_44 rfl (lv_at hl 2 rfl) ?_
      refine va_get (D := D) (ci := 4) (v := .ref q) (C := RX4) (T := TX4) (N := 5) hx hb hts in_wsX4_node_X4 hown hK.1 hP 0 rfl rfl 1 (by decide) (hts _ lk225_wsX4_node) (fun _ h9 => h9) rfl dX4_node_45 ?_
      refine lv_iload_n hx hb dX4_node_48 rfl (lv_at hl 3 rfl) ?_
      refine lv_iload hx hb dX4_node_49 (lv_at hl 0 rfl) ?_
      refine z_callV (b := q) (As := [.int (nI k), .int (nI (t * 8 + f))]) (rest := []) ⟨hx, hb, hml, hown, hts⟩ hK hP hS (c_X3_hasRoom (i := 4) (j := 5) (j2 := 6) rfl rfl rfl hn (nI k) (t * 8 + f) (by omega) (fun j hj => by have := hsb j hj; omega)) (cwV 2 hts gX4_node_X3_hasRoom rfl rfl rfl k_yX3_hasRoom ⟨Nat.le_of_ble_eq_true rfl, Nat.le_of_ble_eq_true rfl⟩) 4 3 rfl rfl rfl rfl hl.1 rfl rfl dX4_node_51 ⟨Nat.le_of_ble_eq_true rfl, Nat.le_of_ble_eq_true rfl⟩ (fun H locs hP hS => ?_)
      refine lv_if_ne (tgt := 67) hx hb dX4_node_54 (by decide) (fun cb3 => ?_) (fun cb3 => ?_)
      · have cb3 : (decide ((∀ j, j < nn → ¬ (ab j = (nI k) ∧ sl j = t * 8 + f)) ∧ nn < 12 ∧ zcnt (fun j => decide (ab j = (nI k))) nn < 4)) = true := bI_f0 cb3
        have hn12 := hrm.2.1
        refine lv_aload_n hx hb dX4_node_67 rfl (lv_at hl 2 rfl) ?_
        refine va_get (D := D) (ci := 4) (v := .ref P) (C := RX4) (T := TX4) (N := 5) hx hb hts in_wsX4_node_X4 hown hK.1 hP 0 rfl rfl 2 (by decide) (hts _ lk228_wsX4_node) (fun _ h9 => h9) rfl dX4_node_68 ?_
        refine z_callVV (b := P) (As := []) (rest := []) [(o, .inr (4, [.ref g, .ref q, .ref P, .ref A, .ref U])), (g, .inr (1, [.ref a1, .ref a2, .ref a3, .ref a4, .ref a5, .int fa])), (a1, .inl (cy.1, 4, .inl (fun z => nI (fc z)))), (a2, .inl (cy.1, 32, .inl ld)), (q, .inr (3, [.ref a, .ref b, .int (nI qt), .int (nI nn)])), (a, .inl (cy.1, 12, .inl ab)), (b, .inl (cy.1, 12, .inl (fun z => nI (sl z))))] ⟨hx, hb, hml, hown, hts⟩ hK hP hD hS (c_X2_forget) (cwV 0 hts gX4_node_X2_forget rfl rfl rfl k_yX2_forget ⟨Nat.le_of_ble_eq_true rfl, Nat.le_of_ble_eq_true rfl⟩) [7] [0, 1, 2, 3, 4, 5, 6] rfl rfl rfl (fun _ => rfl) 7 2 rfl rfl rfl rfl hl.1 rfl rfl dX4_node_71 ⟨Nat.le_of_ble_eq_true rfl, Nat.le_of_ble_eq_true rfl⟩ (fun uu3 H locs hp4 hP hD hS => ?_)
        have hP : va_P D vwCl [(o, .inr (4, [.ref g, .ref q, .ref P, .ref A, .ref U])), (g, .inr (1, [.ref a1, .ref a2, .ref a3, .ref a4, .ref a5, .int fa])), (a1, .inl (cy.1, 4, .inl (fun z => nI (fc z)))), (a2, .inl (cy.1, 32, .inl ld)), (q, .inr (3, [.ref a, .ref b, .int (nI qt), .int (nI nn)])), (a, .inl (cy.1, 12, .inl ab)), (b, .inl (cy.1, 12, .inl (fun z => nI (sl z)))), (P, .inr (2, [.ref g, .ref q, .ref p1, .ref p2, .ref p3, .ref p4, .int cnt, .int ln, .int (nI 0), .int th]))] H := hP
        have hD : va_D (zIn [(o, .inr (4, [.ref g, .ref q, .ref P, .ref A, .ref U])), (g, .inr (1, [.ref a1, .ref a2, .ref a3, .ref a4, .ref a5, .int fa])), (a1, .inl (cy.1, 4, .inl (fun z => nI (fc z)))), (a2, .inl (cy.1, 32, .inl ld)), (q, .inr (3, [.ref a, .ref b, .int (nI qt), .int (nI nn)])), (a, .inl (cy.1, 12, .inl ab)), (b, .inl (cy.1, 12, .inl (fun z => nI (sl z)))), (P, .inr (2, [.ref g, .ref q, .ref p1, .ref p2, .ref p3, .ref p4, .int cnt, .int ln, .int kn, .int th]))]) [(o, .inr (4, [.ref g, .ref q, .ref P, .ref A, .ref U])), (g, .inr (1, [.ref a1, .ref a2, .ref a3, .ref a4, .ref a5, .int fa])), (a1, .inl (cy.1, 4, .inl (fun z => nI (fc z)))), (a2, .inl (cy.1, 32, .inl ld)), (q, .inr (3, [.ref a, .ref b, .int (nI qt), .int (nI nn)])), (a, .inl (cy.1, 12, .inl ab)), (b, .inl (cy.1, 12, .inl (fun z => nI (sl z)))), (P, .inr (2, [.ref g, .ref q, .ref p1, .ref p2, .ref p3, .ref p4, .int cnt, .int ln, .int (nI 0), .int th]))] := hD
        refine lv_aload_n hx hb dX4_node_74 rfl (lv_at hl 2 rfl) ?_
        refine va_get (D := D) (ci := 4) (v := .ref q) (C := RX4) (T := TX4) (N := 5) hx hb hts in_wsX4_node_X4 hown hK.1 hP 0 rfl rfl 1 (by decide) (hts _ lk225_wsX4_node) (fun _ h9 => h9) rfl dX4_node_75 ?_
        refine lv_iload_n hx hb dX4_node_78 rfl (lv_at hl 3 rfl) ?_
        refine lv_iload hx hb dX4_node_79 (lv_at hl 0 rfl) ?_
        refine z_callVW (b := q) (As := [.int (nI k), .int (nI (t * 8 + f))]) (rest := []) [(o, .inr (4, [.ref g, .ref q, .ref P, .ref A, .ref U])), (g, .inr (1, [.ref a1, .ref a2, .ref a3, .ref a4, .ref a5, .int fa])), (a1, .inl (cy.1, 4, .inl (fun z => nI (fc z)))), (a2, .inl (cy.1, 32, .inl ld)), (P, .inr (2, [.ref g, .ref q, .ref p1, .ref p2, .ref p3, .ref p4, .int cnt, .int ln, .int (nI 0), .int th]))] ⟨hx, hb, hml, hown, hts⟩ hK hP hD hS (c_X3_append (by omega) (nI k) (t * 8 + f)) (cwV 2 hts gX4_node_X3_append rfl rfl rfl k_yX3_append ⟨Nat.le_of_ble_eq_true rfl, Nat.le_of_ble_eq_true rfl⟩) [4, 5, 6] [0, 1, 2, 3, 7] rfl rfl rfl (fun _ => rfl) 4 3 rfl rfl rfl rfl hl.1 rfl rfl dX4_node_81 ⟨Nat.le_of_ble_eq_true rfl, Nat.le_of_ble_eq_true rfl⟩ (fun rr6 uu4 H locs hp5 hP hD hS => ?_)
        have hP : va_P D vwCl [(o, .inr (4, [.ref g, .ref q, .ref P, .ref A, .ref U])), (g, .inr (1, [.ref a1, .ref a2, .ref a3, .ref a4, .ref a5, .int fa])), (a1, .inl (cy.1, 4, .inl (fun z => nI (fc z)))), (a2, .inl (cy.1, 32, .inl ld)), (P, .inr (2, [.ref g, .ref q, .ref p1, .ref p2, .ref p3, .ref p4, .int cnt, .int ln, .int (nI 0), .int th])), (q, .inr (3, [.ref a, .ref b, .int (nI qt), .int (nI (nn + 1))])), (a, .inl (cy.1, 12, .inl (upd ab nn (nI k)))), (b, .inl (cy.1, 12, .inl (fun z => nI (va_up sl nn (t * 8 + f) z))))] H := hP
        have hD : va_D (zIn [(o, .inr (4, [.ref g, .ref q, .ref P, .ref A, .ref U])), (g, .inr (1, [.ref a1, .ref a2, .ref a3, .ref a4, .ref a5, .int fa])), (a1, .inl (cy.1, 4, .inl (fun z => nI (fc z)))), (a2, .inl (cy.1, 32, .inl ld)), (q, .inr (3, [.ref a, .ref b, .int (nI qt), .int (nI nn)])), (a, .inl (cy.1, 12, .inl ab)), (b, .inl (cy.1, 12, .inl (fun z => nI (sl z)))), (P, .inr (2, [.ref g, .ref q, .ref p1, .ref p2, .ref p3, .ref p4, .int cnt, .int ln, .int kn, .int th]))]) [(o, .inr (4, [.ref g, .ref q, .ref P, .ref A, .ref U])), (g, .inr (1, [.ref a1, .ref a2, .ref a3, .ref a4, .ref a5, .int fa])), (a1, .inl (cy.1, 4, .inl (fun z => nI (fc z)))), (a2, .inl (cy.1, 32, .inl ld)), (P, .inr (2, [.ref g, .ref q, .ref p1, .ref p2, .ref p3, .ref p4, .int cnt, .int ln, .int (nI 0), .int th])), (q, .inr (3, [.ref a, .ref b, .int (nI qt), .int (nI (nn + 1))])), (a, .inl (cy.1, 12, .inl (upd ab nn (nI k)))), (b, .inl (cy.1, 12, .inl (fun z => nI (va_up sl nn (t * 8 + f) z))))] := hD
        have hP := hP.sub (ws' := [(o, .inr (4, [.ref g, .ref q, .ref P, .ref A, .ref U])), (g, .inr (1, [.ref a1, .ref a2, .ref a3, .ref a4, .ref a5, .int fa])), (a1, .inl (cy.1, 4, .inl (fun z => nI (fc z)))), (a2, .inl (cy.1, 32, .inl ld)), (q, .inr (3, [.ref a, .ref b, .int (nI qt), .int (nI (nn + 1))])), (a, .inl (cy.1, 12, .inl (upd ab nn (nI k)))), (b, .inl (cy.1, 12, .inl (fun z => nI (va_up sl nn (t * 8 + f) z)))), (P, .inr (2, [.ref g, .ref q, .ref p1, .ref p2, .ref p3, .ref p4, .int cnt, .int ln, .int (nI 0), .int th]))]) [0, 1, 2, 3, 5, 6, 7, 4] rfl
        have hD := hD.sub (ws' := [(o, .inr (4, [.ref g, .ref q, .ref P, .ref A, .ref U])), (g, .inr (1, [.ref a1, .ref a2, .ref a3, .ref a4, .ref a5, .int fa])), (a1, .inl (cy.1, 4, .inl (fun z => nI (fc z)))), (a2, .inl (cy.1, 32, .inl ld)), (q, .inr (3, [.ref a, .ref b, .int (nI qt), .int (nI (nn + 1))])), (a, .inl (cy.1, 12, .inl (upd ab nn (nI k)))), (b, .inl (cy.1, 12, .inl (fun z => nI (va_up sl nn (t * 8 + f) z)))), (P, .inr (2, [.ref g, .ref q, .ref p1, .ref p2, .ref p3, .ref p4, .int cnt, .int ln, .int (nI 0), .int th]))]) [0, 1, 2, 3, 5, 6, 7, 4] (by decide) rfl
        exact z_iretW () hx hb hr hlocks hS dX4_node_84 hP hp5
      · have cb3 : (decide ((∀ j, j < nn → ¬ (ab j = (nI k) ∧ sl j = t * 8 + f)) ∧ nn < 12 ∧ zcnt (fun j => decide (ab j = (nI k))) nn < 4)) = false := bI_t0 cb3
        exact absurd hrm (of_decide_eq_false cb3)
    · skip
      exact absurd cb2 (nI_m1 (by omega))
set_option maxHeartbeats 4000000 in
set_option maxRecDepth 100000 in
theorem c_X4_node_badF_at {l : Launch} {D : va_G} {cy : zCy} {o g q P A U a1 a2 a3 a4 a5 : Nat} {p1 p2 p3 p4 a b nn qt : Nat} {fa cnt ln kn th : Int32} {fc sl : Nat → Nat} {ld ab : Nat → Int32} (hn : nn ≤ 12) {t : Nat} (ht : t < 4) {k : Nat} (hk : k < nn) (hs32 : sl k < 32) (hlt : ld (sl k) = nI t) (hf8 : fc t ≤ 8) (hsb : ∀ j, j < nn → sl j < 32) {x : Int32} (hbad : ¬ inN (fc t) x) (hl9 : l.stackTraces = false) : zX (Unit) l yX4_node wsX4_node rmX4_node_t D cy [(o, .inr (4, [.ref g, .ref q, .ref P, .ref A, .ref U])), (g, .inr (1, [.ref a1, .ref a2, .ref a3, .ref a4, .ref a5, .int fa])), (a1, .inl (cy.1, 4, .inl (fun z => nI (fc z)))), (a2, .inl (cy.1, 32, .inl ld)), (q, .inr (3, [.ref a, .ref b, .int (nI qt), .int (nI nn)])), (a, .inl (cy.1, 12, .inl ab)), (b, .inl (cy.1, 12, .inl (fun z => nI (sl z)))), (P, .inr (2, [.ref g, .ref q, .ref p1, .ref p2, .ref p3, .ref p4, .int cnt, .int ln, .int kn, .int th]))] [.ref o, .int (nI k), .int x] zIOE (fun _ => True) (fun _ => [(o, .inr (4, [.ref g, .ref q, .ref P, .ref A, .ref U])), (g, .inr (1, [.ref a1, .ref a2, .ref a3, .ref a4, .ref a5, .int fa])), (a1, .inl (cy.1, 4, .inl (fun z => nI (fc z)))), (a2, .inl (cy.1, 32, .inl ld)), (q, .inr (3, [.ref a, .ref b, .int (nI qt), .int (nI nn)])), (a, .inl (cy.1, 12, .inl ab)), (b, .inl (cy.1, 12, .inl (fun z => nI (sl z)))), (P, .inr (2, [.ref g, .ref q, .ref p1, .ref p2, .ref p3, .ref p4, .int cnt, .int ln, .int kn, .int th]))]) := by
  refine zX.of (cc := cX4_node) (maxL := 5) (ret := (some .int)) (by decide) rfl rfl ?_
  intro p e s m below meth c ls C htab hP hK hD hTs hTh hl
  obtain ⟨hx, hb, hr, hml, hts, hown, hlocks⟩ := C
  have hS : va_S (zIn [(o, .inr (4, [.ref g, .ref q, .ref P, .ref A, .ref U])), (g, .inr (1, [.ref a1, .ref a2, .ref a3, .ref a4, .ref a5, .int fa])), (a1, .inl (cy.1, 4, .inl (fun z => nI (fc z)))), (a2, .inl (cy.1, 32, .inl ld)), (q, .inr (3, [.ref a, .ref b, .int (nI qt), .int (nI nn)])), (a, .inl (cy.1, 12, .inl ab)), (b, .inl (cy.1, 12, .inl (fun z => nI (sl z)))), (P, .inr (2, [.ref g, .ref q, .ref p1, .ref p2, .ref p3, .ref p4, .int cnt, .int ln, .int kn, .int th]))]) s.heap s.heap [] := va_S.rf
  have hl : lv_has ls 5 [(0, .ref o), (1, .int (nI k)), (2, .int x)] := hl
  refine lv_iload_n hx hb dX4_node_0 rfl (lv_at hl 1 rfl) ?_
  refine lv_iconst (v := (-1 : Int32)) hx hb dX4_node_1 (by decide) ?_
  refine lv_icmp_eq (tgt := 10) hx hb dX4_node_2 (by decide) (fun cb1 => ?_) (fun cb1 => ?_)
  · skip
    exact absurd cb1 (nI_m1 (by omega))
  · skip
    refine lv_aload_n hx hb dX4_node_5 rfl (lv_at hl 0 rfl) ?_
    refine lv_iload_n hx hb dX4_node_6 rfl (lv_at hl 1 rfl) ?_
    refine z_callUV (b := o) (As := [.int (nI k)]) (rest := []) ⟨hx, hb, hml, hown, hts⟩ hK hP hS (c_X4_checkNode_ok (io := 0) (iq := 4) rfl rfl hn (k := k) (by omega)) (cwV 1 hts gX4_node_X4_checkNode rfl rfl rfl k_yX4_checkNode ⟨Nat.le_of_ble_eq_true rfl, Nat.le_of_ble_eq_true rfl⟩) 0 4 rfl rfl rfl rfl hl.1 rfl rfl dX4_node_7 ⟨Nat.le_of_ble_eq_true rfl, Nat.le_of_ble_eq_true rfl⟩ (fun H locs hP hS => ?_)
    refine lv_aload_n hx hb dX4_node_10 rfl (lv_at hl 0 rfl) ?_
    refine lv_iload_n hx hb dX4_node_11 rfl (lv_at hl 1 rfl) ?_
    refine z_callV (b := o) (As := [.int (nI k)]) (rest := []) ⟨hx, hb, hml, hown, hts⟩ hK hP hS (c_X4_typeAt_at (io := 0) (i := 1) (jl := 3) (iq := 4) (jb := 6) rfl rfl rfl rfl rfl hn (k := k) hk hs32) (cwV 1 hts gX4_node_X4_typeAt rfl rfl rfl k_yX4_typeAt ⟨Nat.le_of_ble_eq_true rfl, Nat.le_of_ble_eq_true rfl⟩) 0 4 rfl rfl rfl rfl hl.1 rfl rfl dX4_node_12 ⟨Nat.le_of_ble_eq_true rfl, Nat.le_of_ble_eq_true rfl⟩ (fun H locs hP hS => ?_)
    refine z_top (y := nI t) hlt ?_
    refine lv_istore_n (lv' := [(3, .int (nI t)), (0, .ref o), (1, .int (nI k)), (2, .int x)]) hx hb dX4_node_15 rfl hl (by decide) rfl (fun ls hl => ?_)
    refine lv_iload_n hx hb dX4_node_16 rfl (lv_at hl 0 rfl) ?_
    refine lv_iconst (v := (-1 : Int32)) hx hb dX4_node_17 (by decide) ?_
    refine lv_icmp_ne (tgt := 31) hx hb dX4_node_18 (by decide) (fun cb2 => ?_) (fun cb2 => ?_)
    · skip
      refine lv_aload_n hx hb dX4_node_31 rfl (lv_at hl 1 rfl) ?_
      refine lv_iload_n hx hb dX4_node_32 rfl (lv_at hl 0 rfl) ?_
      refine lv_iload_n hx hb dX4_node_33 rfl (lv_at hl 3 rfl) ?_
      exact z_thruO (b := o) (As := [.int (nI t), .int x]) (rest := []) () ⟨hx, hb, hml, hown, hts⟩ hK hP hD hS hTs hTh (c_X4_checkField_bad (io := 0) (i := 1) (j := 2) rfl rfl rfl ht hbad (by omega) hl9) (cwV 2 hts gX4_node_X4_checkField rfl rfl rfl k_yX4_checkField ⟨Nat.le_of_ble_eq_true rfl, Nat.le_of_ble_eq_true rfl⟩) 0 4 rfl rfl rfl rfl hl.1 rfl rfl dX4_node_34 ⟨Nat.le_of_ble_eq_true rfl, Nat.le_of_ble_eq_true rfl⟩ htab hlocks trivial rfl
    · skip
      exact absurd cb2 (nI_m1 (by omega))
set_option maxHeartbeats 4000000 in
set_option maxRecDepth 100000 in
theorem c_X4_node_badR_at {l : Launch} {D : va_G} {cy : zCy} {o g q P A U a1 a2 a3 a4 a5 : Nat} {p1 p2 p3 p4 a b nn qt : Nat} {fa cnt ln kn th : Int32} {fc sl : Nat → Nat} {ld ab : Nat → Int32} (hn : nn ≤ 12) {t : Nat} (ht : t < 4) {k : Nat} (hk : k < nn) (hs32 : sl k < 32) (hlt : ld (sl k) = nI t) (hf8 : fc t ≤ 8) (hsb : ∀ j, j < nn → sl j < 32) {f : Nat} (hf : f < fc t) (hrm : ¬ ((∀ j, j < nn → ¬ (ab j = (nI k) ∧ sl j = t * 8 + f)) ∧ nn < 12 ∧ zcnt (fun j => decide (ab j = (nI k))) nn < 4)) (hl9 : l.stackTraces = false) : zX (Unit) l yX4_node wsX4_node rmX4_node_t D cy [(o, .inr (4, [.ref g, .ref q, .ref P, .ref A, .ref U])), (g, .inr (1, [.ref a1, .ref a2, .ref a3, .ref a4, .ref a5, .int fa])), (a1, .inl (cy.1, 4, .inl (fun z => nI (fc z)))), (a2, .inl (cy.1, 32, .inl ld)), (q, .inr (3, [.ref a, .ref b, .int (nI qt), .int (nI nn)])), (a, .inl (cy.1, 12, .inl ab)), (b, .inl (cy.1, 12, .inl (fun z => nI (sl z)))), (P, .inr (2, [.ref g, .ref q, .ref p1, .ref p2, .ref p3, .ref p4, .int cnt, .int ln, .int kn, .int th]))] [.ref o, .int (nI k), .int (nI f)] zISE (fun _ => True) (fun _ => [(o, .inr (4, [.ref g, .ref q, .ref P, .ref A, .ref U])), (g, .inr (1, [.ref a1, .ref a2, .ref a3, .ref a4, .ref a5, .int fa])), (a1, .inl (cy.1, 4, .inl (fun z => nI (fc z)))), (a2, .inl (cy.1, 32, .inl ld)), (q, .inr (3, [.ref a, .ref b, .int (nI qt), .int (nI nn)])), (a, .inl (cy.1, 12, .inl ab)), (b, .inl (cy.1, 12, .inl (fun z => nI (sl z)))), (P, .inr (2, [.ref g, .ref q, .ref p1, .ref p2, .ref p3, .ref p4, .int cnt, .int ln, .int kn, .int th]))]) := by
  refine zX.of (cc := cX4_node) (maxL := 5) (ret := (some .int)) (by decide) rfl rfl ?_
  intro p e s m below meth c ls C htab hP hK hD hTs hTh hl
  obtain ⟨hx, hb, hr, hml, hts, hown, hlocks⟩ := C
  have hS : va_S (zIn [(o, .inr (4, [.ref g, .ref q, .ref P, .ref A, .ref U])), (g, .inr (1, [.ref a1, .ref a2, .ref a3, .ref a4, .ref a5, .int fa])), (a1, .inl (cy.1, 4, .inl (fun z => nI (fc z)))), (a2, .inl (cy.1, 32, .inl ld)), (q, .inr (3, [.ref a, .ref b, .int (nI qt), .int (nI nn)])), (a, .inl (cy.1, 12, .inl ab)), (b, .inl (cy.1, 12, .inl (fun z => nI (sl z)))), (P, .inr (2, [.ref g, .ref q, .ref p1, .ref p2, .ref p3, .ref p4, .int cnt, .int ln, .int kn, .int th]))]) s.heap s.heap [] := va_S.rf
  have hl : lv_has ls 5 [(0, .ref o), (1, .int (nI k)), (2, .int (nI f))] := hl
  refine lv_iload_n hx hb dX4_node_0 rfl (lv_at hl 1 rfl) ?_
  refine lv_iconst (v := (-1 : Int32)) hx hb dX4_node_1 (by decide) ?_
  refine lv_icmp_eq (tgt := 10) hx hb dX4_node_2 (by decide) (fun cb1 => ?_) (fun cb1 => ?_)
  · skip
    exact absurd cb1 (nI_m1 (by omega))
  · skip
    refine lv_aload_n hx hb dX4_node_5 rfl (lv_at hl 0 rfl) ?_
    refine lv_iload_n hx hb dX4_node_6 rfl (lv_at hl 1 rfl) ?_
    refine z_callUV (b := o) (As := [.int (nI k)]) (rest := []) ⟨hx, hb, hml, hown, hts⟩ hK hP hS (c_X4_checkNode_ok (io := 0) (iq := 4) rfl rfl hn (k := k) (by omega)) (cwV 1 hts gX4_node_X4_checkNode rfl rfl rfl k_yX4_checkNode ⟨Nat.le_of_ble_eq_true rfl, Nat.le_of_ble_eq_true rfl⟩) 0 4 rfl rfl rfl rfl hl.1 rfl rfl dX4_node_7 ⟨Nat.le_of_ble_eq_true rfl, Nat.le_of_ble_eq_true rfl⟩ (fun H locs hP hS => ?_)
    refine lv_aload_n hx hb dX4_node_10 rfl (lv_at hl 0 rfl) ?_
    refine lv_iload_n hx hb dX4_node_11 rfl (lv_at hl 1 rfl) ?_
    refine z_callV (b := o) (As := [.int (nI k)]) (rest := []) ⟨hx, hb, hml, hown, hts⟩ hK hP hS (c_X4_typeAt_at (io := 0) (i := 1) (jl := 3) (iq := 4) (jb := 6) rfl rfl rfl rfl rfl hn (k := k) hk hs32) (cwV 1 hts gX4_node_X4_typeAt rfl rfl rfl k_yX4_typeAt ⟨Nat.le_of_ble_eq_true rfl, Nat.le_of_ble_eq_true rfl⟩) 0 4 rfl rfl rfl rfl hl.1 rfl rfl dX4_node_12 ⟨Nat.le_of_ble_eq_true rfl, Nat.le_of_ble_eq_true rfl⟩ (fun H locs hP hS => ?_)
    refine z_top (y := nI t) hlt ?_
    refine lv_istore_n (lv' := [(3, .int (nI t)), (0, .ref o), (1, .int (nI k)), (2, .int (nI f))]) hx hb dX4_node_15 rfl hl (by decide) rfl (fun ls hl => ?_)
    refine lv_iload_n hx hb dX4_node_16 rfl (lv_at hl 0 rfl) ?_
    refine lv_iconst (v := (-1 : Int32)) hx hb dX4_node_17 (by decide) ?_
    refine lv_icmp_ne (tgt := 31) hx hb dX4_node_18 (by decide) (fun cb2 => ?_) (fun cb2 => ?_)
    · skip
      refine lv_aload_n hx hb dX4_node_31 rfl (lv_at hl 1 rfl) ?_
      refine lv_iload_n hx hb dX4_node_32 rfl (lv_at hl 0 rfl) ?_
      refine lv_iload_n hx hb dX4_node_33 rfl (lv_at hl 3 rfl) ?_
      refine z_callUV (b := o) (As := [.int (nI t), .int (nI f)]) (rest := []) ⟨hx, hb, hml, hown, hts⟩ hK hP hS (c_X4_checkField_ok (io := 0) (i := 1) (j := 2) rfl rfl rfl ht hf (by omega)) (cwV 2 hts gX4_node_X4_checkField rfl rfl rfl k_yX4_checkField ⟨Nat.le_of_ble_eq_true rfl, Nat.le_of_ble_eq_true rfl⟩) 0 4 rfl rfl rfl rfl hl.1 rfl rfl dX4_node_34 ⟨Nat.le_of_ble_eq_true rfl, Nat.le_of_ble_eq_true rfl⟩ (fun H locs hP hS => ?_)
      refine lv_iload_n hx hb dX4_node_37 rfl (lv_at hl 0 rfl) ?_
      refine lv_iload_n hx hb dX4_node_38 rfl (lv_at hl 3 rfl) ?_
      refine z_callS (As := [.int (nI t), .int (nI f)]) (rest := []) ⟨hx, hb, hml, hown, hts⟩ hK hP hS (c_X4_slotOf t f) (va_cwS 2 hts gX4_node_X4_slotOf rfl rfl rfl k_yX4_slotOf ⟨Nat.le_of_ble_eq_true rfl, Nat.le_of_ble_eq_true rfl⟩) rfl hl.1 rfl rfl dX4_node_39 ⟨Nat.le_of_ble_eq_true rfl, Nat.le_of_ble_eq_true rfl⟩ (fun H locs hP hS => ?_)
      refine lv_istore (lv' := [(4, .int (nI (t * 8 + f))), (3, .int (nI t)), (0, .ref o), (1, .int (nI k)), (2, .int (nI f))]) hx hb dX4_node_42 hl (by decide) rfl (fun ls hl => ?_)
      refine lv_aload_n hx hb dX4_node_44 rfl (lv_at hl 2 rfl) ?_
      refine va_get (D := D) (ci := 4) (v := .ref q) (C := RX4) (T := TX4) (N := 5) hx hb hts in_wsX4_node_X4 hown hK.1 hP 0 rfl rfl 1 (by decide) (hts _ lk225_wsX4_node) (fun _ h9 => h9) rfl dX4_node_45 ?_
      refine lv_iload_n hx hb dX4_node_48 rfl (lv_at hl 3 rfl) ?_
      refine lv_iload hx hb dX4_node_49 (lv_at hl 0 rfl) ?_
      refine z_callV (b := q) (As := [.int (nI k), .int (nI (t * 8 + f))]) (rest := []) ⟨hx, hb, hml, hown, hts⟩ hK hP hS (c_X3_hasRoom (i := 4) (j := 5) (j2 := 6) rfl rfl rfl hn (nI k) (t * 8 + f) (by omega) (fun j hj => by have := hsb j hj; omega)) (cwV 2 hts gX4_node_X3_hasRoom rfl rfl rfl k_yX3_hasRoom ⟨Nat.le_of_ble_eq_true rfl, Nat.le_of_ble_eq_true rfl⟩) 4 3 rfl rfl rfl rfl hl.1 rfl rfl dX4_node_51 ⟨Nat.le_of_ble_eq_true rfl, Nat.le_of_ble_eq_true rfl⟩ (fun H locs hP hS => ?_)
      refine lv_if_ne (tgt := 67) hx hb dX4_node_54 (by decide) (fun cb3 => ?_) (fun cb3 => ?_)
      · have cb3 : (decide ((∀ j, j < nn → ¬ (ab j = (nI k) ∧ sl j = t * 8 + f)) ∧ nn < 12 ∧ zcnt (fun j => decide (ab j = (nI k))) nn < 4)) = true := bI_f0 cb3
        exact absurd (of_decide_eq_true cb3) hrm
      · have cb3 : (decide ((∀ j, j < nn → ¬ (ab j = (nI k) ∧ sl j = t * 8 + f)) ∧ nn < 12 ∧ zcnt (fun j => decide (ab j = (nI k))) nn < 4)) = false := bI_t0 cb3
        exact z_throw (E := zISE) (ik := 63) (is := 121) (ic := 67) (tx := "there is no room for this node") () hx hb hl9 hml hl.1 hown hlocks (by decide) hts (fun w hw => List.mem_cons_of_mem _ (List.mem_append_left _ (List.mem_append_right _ hw))) lk230_wsX4_node lk231_wsX4_node hB_67 hG_67 rfl hTs (by decide) (by decide) hTh hS dX4_node_57 dX4_node_60 dX4_node_61 dX4_node_63 dX4_node_66 htab ⟨rfl, rfl, rfl, rfl⟩ hP trivial
    · skip
      exact absurd cb2 (nI_m1 (by omega))
set_option maxHeartbeats 4000000 in
set_option maxRecDepth 100000 in
theorem c_X4_node_badN {l : Launch} {D : va_G} {cy : zCy} {o g q P A U a1 a2 a3 a4 a5 : Nat} {p1 p2 p3 p4 a b nn qt : Nat} {fa cnt ln kn th : Int32} {fc sl : Nat → Nat} {ld ab : Nat → Int32} (hn : nn ≤ 12) {x y : Int32} (hx9 : ¬ x = -1) (hbad : ¬ inN nn x) (hl9 : l.stackTraces = false) : zX (Unit) l yX4_node wsX4_node rmX4_node_t D cy [(o, .inr (4, [.ref g, .ref q, .ref P, .ref A, .ref U])), (g, .inr (1, [.ref a1, .ref a2, .ref a3, .ref a4, .ref a5, .int fa])), (a1, .inl (cy.1, 4, .inl (fun z => nI (fc z)))), (a2, .inl (cy.1, 32, .inl ld)), (q, .inr (3, [.ref a, .ref b, .int (nI qt), .int (nI nn)])), (a, .inl (cy.1, 12, .inl ab)), (b, .inl (cy.1, 12, .inl (fun z => nI (sl z)))), (P, .inr (2, [.ref g, .ref q, .ref p1, .ref p2, .ref p3, .ref p4, .int cnt, .int ln, .int kn, .int th]))] [.ref o, .int x, .int y] zIOE (fun _ => True) (fun _ => [(o, .inr (4, [.ref g, .ref q, .ref P, .ref A, .ref U])), (g, .inr (1, [.ref a1, .ref a2, .ref a3, .ref a4, .ref a5, .int fa])), (a1, .inl (cy.1, 4, .inl (fun z => nI (fc z)))), (a2, .inl (cy.1, 32, .inl ld)), (q, .inr (3, [.ref a, .ref b, .int (nI qt), .int (nI nn)])), (a, .inl (cy.1, 12, .inl ab)), (b, .inl (cy.1, 12, .inl (fun z => nI (sl z)))), (P, .inr (2, [.ref g, .ref q, .ref p1, .ref p2, .ref p3, .ref p4, .int cnt, .int ln, .int kn, .int th]))]) := by
  refine zX.of (cc := cX4_node) (maxL := 5) (ret := (some .int)) (by decide) rfl rfl ?_
  intro p e s m below meth c ls C htab hP hK hD hTs hTh hl
  obtain ⟨hx, hb, hr, hml, hts, hown, hlocks⟩ := C
  have hS : va_S (zIn [(o, .inr (4, [.ref g, .ref q, .ref P, .ref A, .ref U])), (g, .inr (1, [.ref a1, .ref a2, .ref a3, .ref a4, .ref a5, .int fa])), (a1, .inl (cy.1, 4, .inl (fun z => nI (fc z)))), (a2, .inl (cy.1, 32, .inl ld)), (q, .inr (3, [.ref a, .ref b, .int (nI qt), .int (nI nn)])), (a, .inl (cy.1, 12, .inl ab)), (b, .inl (cy.1, 12, .inl (fun z => nI (sl z)))), (P, .inr (2, [.ref g, .ref q, .ref p1, .ref p2, .ref p3, .ref p4, .int cnt, .int ln, .int kn, .int th]))]) s.heap s.heap [] := va_S.rf
  have hl : lv_has ls 5 [(0, .ref o), (1, .int x), (2, .int y)] := hl
  refine lv_iload_n hx hb dX4_node_0 rfl (lv_at hl 1 rfl) ?_
  refine lv_iconst (v := (-1 : Int32)) hx hb dX4_node_1 (by decide) ?_
  refine lv_icmp_eq (tgt := 10) hx hb dX4_node_2 (by decide) (fun cb1 => ?_) (fun cb1 => ?_)
  · skip
    exact absurd cb1 hx9
  · skip
    refine lv_aload_n hx hb dX4_node_5 rfl (lv_at hl 0 rfl) ?_
    refine lv_iload_n hx hb dX4_node_6 rfl (lv_at hl 1 rfl) ?_
    exact z_thruO (b := o) (As := [.int x]) (rest := []) () ⟨hx, hb, hml, hown, hts⟩ hK hP hD hS hTs hTh (c_X4_checkNode_bad (io := 0) (iq := 4) rfl rfl hn hbad hl9) (cwV 1 hts gX4_node_X4_checkNode rfl rfl rfl k_yX4_checkNode ⟨Nat.le_of_ble_eq_true rfl, Nat.le_of_ble_eq_true rfl⟩) 0 4 rfl rfl rfl rfl hl.1 rfl rfl dX4_node_7 ⟨Nat.le_of_ble_eq_true rfl, Nat.le_of_ble_eq_true rfl⟩ htab hlocks trivial rfl
set_option maxHeartbeats 4000000 in
set_option maxRecDepth 100000 in
theorem c_X4_node_badP {l : Launch} {D : va_G} {cy : zCy} {o g q P A U a1 a2 a3 a4 a5 : Nat} {p1 p2 p3 p4 a b nn qt : Nat} {fa cnt ln kn th : Int32} {fc sl : Nat → Nat} {ld ab : Nat → Int32} (hn : nn ≤ 12) {y : Int32} {k : Nat} (hk : k < nn) (hs32 : sl k < 32) (hlt : ld (sl k) = -1) (hl9 : l.stackTraces = false) : zX (Unit) l yX4_node wsX4_node rmX4_node_t D cy [(o, .inr (4, [.ref g, .ref q, .ref P, .ref A, .ref U])), (g, .inr (1, [.ref a1, .ref a2, .ref a3, .ref a4, .ref a5, .int fa])), (a1, .inl (cy.1, 4, .inl (fun z => nI (fc z)))), (a2, .inl (cy.1, 32, .inl ld)), (q, .inr (3, [.ref a, .ref b, .int (nI qt), .int (nI nn)])), (a, .inl (cy.1, 12, .inl ab)), (b, .inl (cy.1, 12, .inl (fun z => nI (sl z)))), (P, .inr (2, [.ref g, .ref q, .ref p1, .ref p2, .ref p3, .ref p4, .int cnt, .int ln, .int kn, .int th]))] [.ref o, .int (nI k), .int y] zISE (fun _ => True) (fun _ => [(o, .inr (4, [.ref g, .ref q, .ref P, .ref A, .ref U])), (g, .inr (1, [.ref a1, .ref a2, .ref a3, .ref a4, .ref a5, .int fa])), (a1, .inl (cy.1, 4, .inl (fun z => nI (fc z)))), (a2, .inl (cy.1, 32, .inl ld)), (q, .inr (3, [.ref a, .ref b, .int (nI qt), .int (nI nn)])), (a, .inl (cy.1, 12, .inl ab)), (b, .inl (cy.1, 12, .inl (fun z => nI (sl z)))), (P, .inr (2, [.ref g, .ref q, .ref p1, .ref p2, .ref p3, .ref p4, .int cnt, .int ln, .int kn, .int th]))]) := by
  refine zX.of (cc := cX4_node) (maxL := 5) (ret := (some .int)) (by decide) rfl rfl ?_
  intro p e s m below meth c ls C htab hP hK hD hTs hTh hl
  obtain ⟨hx, hb, hr, hml, hts, hown, hlocks⟩ := C
  have hS : va_S (zIn [(o, .inr (4, [.ref g, .ref q, .ref P, .ref A, .ref U])), (g, .inr (1, [.ref a1, .ref a2, .ref a3, .ref a4, .ref a5, .int fa])), (a1, .inl (cy.1, 4, .inl (fun z => nI (fc z)))), (a2, .inl (cy.1, 32, .inl ld)), (q, .inr (3, [.ref a, .ref b, .int (nI qt), .int (nI nn)])), (a, .inl (cy.1, 12, .inl ab)), (b, .inl (cy.1, 12, .inl (fun z => nI (sl z)))), (P, .inr (2, [.ref g, .ref q, .ref p1, .ref p2, .ref p3, .ref p4, .int cnt, .int ln, .int kn, .int th]))]) s.heap s.heap [] := va_S.rf
  have hl : lv_has ls 5 [(0, .ref o), (1, .int (nI k)), (2, .int y)] := hl
  refine lv_iload_n hx hb dX4_node_0 rfl (lv_at hl 1 rfl) ?_
  refine lv_iconst (v := (-1 : Int32)) hx hb dX4_node_1 (by decide) ?_
  refine lv_icmp_eq (tgt := 10) hx hb dX4_node_2 (by decide) (fun cb1 => ?_) (fun cb1 => ?_)
  · skip
    exact absurd cb1 (nI_m1 (by omega))
  · skip
    refine lv_aload_n hx hb dX4_node_5 rfl (lv_at hl 0 rfl) ?_
    refine lv_iload_n hx hb dX4_node_6 rfl (lv_at hl 1 rfl) ?_
    refine z_callUV (b := o) (As := [.int (nI k)]) (rest := []) ⟨hx, hb, hml, hown, hts⟩ hK hP hS (c_X4_checkNode_ok (io := 0) (iq := 4) rfl rfl hn (k := k) (by omega)) (cwV 1 hts gX4_node_X4_checkNode rfl rfl rfl k_yX4_checkNode ⟨Nat.le_of_ble_eq_true rfl, Nat.le_of_ble_eq_true rfl⟩) 0 4 rfl rfl rfl rfl hl.1 rfl rfl dX4_node_7 ⟨Nat.le_of_ble_eq_true rfl, Nat.le_of_ble_eq_true rfl⟩ (fun H locs hP hS => ?_)
    refine lv_aload_n hx hb dX4_node_10 rfl (lv_at hl 0 rfl) ?_
    refine lv_iload_n hx hb dX4_node_11 rfl (lv_at hl 1 rfl) ?_
    refine z_callV (b := o) (As := [.int (nI k)]) (rest := []) ⟨hx, hb, hml, hown, hts⟩ hK hP hS (c_X4_typeAt_at (io := 0) (i := 1) (jl := 3) (iq := 4) (jb := 6) rfl rfl rfl rfl rfl hn (k := k) hk hs32) (cwV 1 hts gX4_node_X4_typeAt rfl rfl rfl k_yX4_typeAt ⟨Nat.le_of_ble_eq_true rfl, Nat.le_of_ble_eq_true rfl⟩) 0 4 rfl rfl rfl rfl hl.1 rfl rfl dX4_node_12 ⟨Nat.le_of_ble_eq_true rfl, Nat.le_of_ble_eq_true rfl⟩ (fun H locs hP hS => ?_)
    refine z_top (y := (-1 : Int32)) hlt ?_
    refine lv_istore_n (lv' := [(3, .int ((-1 : Int32))), (0, .ref o), (1, .int (nI k)), (2, .int y)]) hx hb dX4_node_15 rfl hl (by decide) rfl (fun ls hl => ?_)
    refine lv_iload_n hx hb dX4_node_16 rfl (lv_at hl 0 rfl) ?_
    refine lv_iconst (v := (-1 : Int32)) hx hb dX4_node_17 (by decide) ?_
    refine lv_icmp_ne (tgt := 31) hx hb dX4_node_18 (by decide) (fun cb2 => ?_) (fun cb2 => ?_)
    · skip
      exact absurd rfl cb2
    · skip
      exact z_throw (E := zISE) (ik := 63) (is := 116) (ic := 67) (tx := "the field of the node above is plain") () hx hb hl9 hml hl.1 hown hlocks (by decide) hts (fun w hw => List.mem_cons_of_mem _ (List.mem_append_left _ (List.mem_append_right _ hw))) lk230_wsX4_node lk231_wsX4_node hB_67 hG_67 rfl hTs (by decide) (by decide) hTh hS dX4_node_21 dX4_node_24 dX4_node_25 dX4_node_27 dX4_node_30 htab ⟨rfl, rfl, rfl, rfl⟩ hP trivial
set_option maxRecDepth 20000 in
theorem lk233_wsX4_nodes : Cond.fieldLink RX4 24 "QueryGateway" "query" "LQueryGateway$Query;" ∈ wsX4_nodes := by decide +kernel
set_option maxRecDepth 20000 in
theorem in_wsX4_nodes_X4 : ∀ w ∈ wsX40, w ∈ wsX4_nodes := by decide +kernel
abbrev rmX4_nodes : Room := { frames := 1, cells := 0, slots := 0, locals := 20 }
set_option maxHeartbeats 4000000 in
set_option maxRecDepth 100000 in
theorem c_X4_nodes {l : Launch} {D : va_G} {cy : zCy} {w : va_W} {io o g q P A U : Nat} (ho : w[io]? = some (o, .inr (4, [.ref g, .ref q, .ref P, .ref A, .ref U]))) {iq a b nn : Nat} {ty : Int32} (hq : w[iq]? = some (q, .inr (3, [.ref a, .ref b, .int ty, .int (nI nn)]))) : zR l yX4_nodes wsX4_nodes rmX4_nodes D cy w [.ref o] (nI nn) := by
  refine zR.of (cc := cX4_nodes) (maxL := 1) (ret := (some .int)) (by decide) rfl rfl ?_
  intro p e s m below meth c ls C hP hK hl
  obtain ⟨hx, hb, hr, hml, hts, hown, hlocks⟩ := C
  have hS : va_S zF s.heap s.heap [] := va_S.rf
  have hl : lv_has ls 1 [(0, .ref o)] := hl
  refine lv_aload_n hx hb dX4_nodes_0 rfl (lv_at hl 0 rfl) ?_
  refine va_get (D := D) (ci := 4) (v := .ref q) (C := RX4) (T := TX4) (N := 5) hx hb hts in_wsX4_nodes_X4 hown hK.1 hP io ho rfl 1 (by decide) (hts _ lk233_wsX4_nodes) (fun _ h9 => h9) rfl dX4_nodes_1 ?_
  refine z_callV (b := q) (As := []) (rest := []) ⟨hx, hb, hml, hown, hts⟩ hK hP hS (c_X3_size hq) (cwV 0 hts gX4_nodes_X3_size rfl rfl rfl k_yX3_size ⟨Nat.le_of_ble_eq_true rfl, Nat.le_of_ble_eq_true rfl⟩) iq 3 hq rfl rfl rfl hl.1 rfl rfl dX4_nodes_4 ⟨Nat.le_of_ble_eq_true rfl, Nat.le_of_ble_eq_true rfl⟩ (fun H locs hP hS => ?_)
  exact z_iret hx hb hr hlocks hS dX4_nodes_7 rfl
set_option maxRecDepth 20000 in
theorem lk235_wsX4_typeOf : Cond.fieldLink RX4 24 "QueryGateway" "query" "LQueryGateway$Query;" ∈ wsX4_typeOf := by decide +kernel
set_option maxRecDepth 20000 in
theorem in_wsX4_typeOf_X4 : ∀ w ∈ wsX40, w ∈ wsX4_typeOf := by decide +kernel
abbrev rmX4_typeOf : Room := { frames := 2, cells := 0, slots := 0, locals := 42 }
set_option maxHeartbeats 4000000 in
set_option maxRecDepth 100000 in
theorem c_X4_typeOf_ok {l : Launch} {D : va_G} {cy : zCy} {o g q P A U a1 a2 a3 a4 a5 : Nat} {a b nn : Nat} {ty : Int32} {sl : Nat → Nat} (hn : nn ≤ 12) {k : Nat} (hk : k < nn) (hs32 : sl k < 32) : zW (Unit) l yX4_typeOf wsX4_typeOf rmX4_typeOf D cy [(o, .inr (4, [.ref g, .ref q, .ref P, .ref A, .ref U])), (q, .inr (3, [.ref a, .ref b, .int ty, .int (nI nn)])), (b, .inl (cy.1, 12, .inl (fun z => nI (sl z))))] [.ref o, .int (nI k)] (fun r _ => r = nI (sl k / 8)) (fun _ => [(o, .inr (4, [.ref g, .ref q, .ref P, .ref A, .ref U])), (q, .inr (3, [.ref a, .ref b, .int ty, .int (nI nn)])), (b, .inl (cy.1, 12, .inl (fun z => nI (sl z))))]) := by
  refine zW.of (cc := cX4_typeOf) (maxL := 2) (ret := (some .int)) (by decide) rfl rfl ?_
  intro p e s m below meth c ls C hP hK hD hl
  obtain ⟨hx, hb, hr, hml, hts, hown, hlocks⟩ := C
  have hS : va_S (zIn [(o, .inr (4, [.ref g, .ref q, .ref P, .ref A, .ref U])), (q, .inr (3, [.ref a, .ref b, .int ty, .int (nI nn)])), (b, .inl (cy.1, 12, .inl (fun z => nI (sl z))))]) s.heap s.heap [] := va_S.rf
  have hl : lv_has ls 2 [(0, .ref o), (1, .int (nI k))] := hl
  refine lv_aload_n hx hb dX4_typeOf_0 rfl (lv_at hl 0 rfl) ?_
  refine lv_iload_n hx hb dX4_typeOf_1 rfl (lv_at hl 1 rfl) ?_
  refine z_callUV (b := o) (As := [.int (nI k)]) (rest := []) ⟨hx, hb, hml, hown, hts⟩ hK hP hS (c_X4_checkNode_ok (io := 0) (iq := 1) rfl rfl hn (k := k) (by omega)) (cwV 1 hts gX4_typeOf_X4_checkNode rfl rfl rfl k_yX4_checkNode ⟨Nat.le_of_ble_eq_true rfl, Nat.le_of_ble_eq_true rfl⟩) 0 4 rfl rfl rfl rfl hl.1 rfl rfl dX4_typeOf_2 ⟨Nat.le_of_ble_eq_true rfl, Nat.le_of_ble_eq_true rfl⟩ (fun H locs hP hS => ?_)
  refine lv_aload_n hx hb dX4_typeOf_5 rfl (lv_at hl 0 rfl) ?_
  refine va_get (D := D) (ci := 4) (v := .ref q) (C := RX4) (T := TX4) (N := 5) hx hb hts in_wsX4_typeOf_X4 hown hK.1 hP 0 rfl rfl 1 (by decide) (hts _ lk235_wsX4_typeOf) (fun _ h9 => h9) rfl dX4_typeOf_6 ?_
  refine lv_iload_n hx hb dX4_typeOf_9 rfl (lv_at hl 1 rfl) ?_
  refine z_callV (b := q) (As := [.int (nI k)]) (rest := []) ⟨hx, hb, hml, hown, hts⟩ hK hP hS (c_X3_slotAt (i := 1) (j := 2) rfl rfl hn (z := k) hk) (cwV 1 hts gX4_typeOf_X3_slotAt rfl rfl rfl k_yX3_slotAt ⟨Nat.le_of_ble_eq_true rfl, Nat.le_of_ble_eq_true rfl⟩) 1 3 rfl rfl rfl rfl hl.1 rfl rfl dX4_typeOf_10 ⟨Nat.le_of_ble_eq_true rfl, Nat.le_of_ble_eq_true rfl⟩ (fun H locs hP hS => ?_)
  refine lv_bipush (v := nI 8) hx hb dX4_typeOf_13 (by decide) ?_
  refine lv_idiv hx hb dX4_typeOf_15 (by decide) ?_
  refine z_top (y := nI (sl k / 8)) (pk_div (by omega) (by decide) (by decide)) ?_
  exact z_iretW () hx hb hr hlocks hS dX4_typeOf_16 hP rfl
abbrev rmX4_typeOf_t : Room := { frames := 7, cells := 1, slots := 6, locals := 103 }
set_option maxHeartbeats 4000000 in
set_option maxRecDepth 100000 in
theorem c_X4_typeOf_bad {l : Launch} {D : va_G} {cy : zCy} {o g q P A U a1 a2 a3 a4 a5 : Nat} {a b nn : Nat} {ty : Int32} {sl : Nat → Nat} (hn : nn ≤ 12) {x : Int32} (hbad : ¬ inN nn x) (hl9 : l.stackTraces = false) : zX (Unit) l yX4_typeOf wsX4_typeOf rmX4_typeOf_t D cy [(o, .inr (4, [.ref g, .ref q, .ref P, .ref A, .ref U])), (q, .inr (3, [.ref a, .ref b, .int ty, .int (nI nn)])), (b, .inl (cy.1, 12, .inl (fun z => nI (sl z))))] [.ref o, .int x] zIOE (fun _ => True) (fun _ => [(o, .inr (4, [.ref g, .ref q, .ref P, .ref A, .ref U])), (q, .inr (3, [.ref a, .ref b, .int ty, .int (nI nn)])), (b, .inl (cy.1, 12, .inl (fun z => nI (sl z))))]) := by
  refine zX.of (cc := cX4_typeOf) (maxL := 2) (ret := (some .int)) (by decide) rfl rfl ?_
  intro p e s m below meth c ls C htab hP hK hD hTs hTh hl
  obtain ⟨hx, hb, hr, hml, hts, hown, hlocks⟩ := C
  have hS : va_S (zIn [(o, .inr (4, [.ref g, .ref q, .ref P, .ref A, .ref U])), (q, .inr (3, [.ref a, .ref b, .int ty, .int (nI nn)])), (b, .inl (cy.1, 12, .inl (fun z => nI (sl z))))]) s.heap s.heap [] := va_S.rf
  have hl : lv_has ls 2 [(0, .ref o), (1, .int x)] := hl
  refine lv_aload_n hx hb dX4_typeOf_0 rfl (lv_at hl 0 rfl) ?_
  refine lv_iload_n hx hb dX4_typeOf_1 rfl (lv_at hl 1 rfl) ?_
  exact z_thruO (b := o) (As := [.int x]) (rest := []) () ⟨hx, hb, hml, hown, hts⟩ hK hP hD hS hTs hTh (c_X4_checkNode_bad (io := 0) (iq := 1) rfl rfl hn hbad hl9) (cwV 1 hts gX4_typeOf_X4_checkNode rfl rfl rfl k_yX4_checkNode ⟨Nat.le_of_ble_eq_true rfl, Nat.le_of_ble_eq_true rfl⟩) 0 4 rfl rfl rfl rfl hl.1 rfl rfl dX4_typeOf_2 ⟨Nat.le_of_ble_eq_true rfl, Nat.le_of_ble_eq_true rfl⟩ htab hlocks trivial rfl
