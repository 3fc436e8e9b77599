theorem k_yX5_isType : yX5_isType.cls ≠ "java/lang/invoke/MethodHandle" ∧ yX5_isType.cls ≠ "java/lang/invoke/VarHandle" ∧ (parseMethodDescriptor yX5_isType.desc).map (fun d => d.parameters.length) = some 1 := by decide +kernel
set_option maxRecDepth 20000 in
theorem lk329_wsX5_addField : Cond.fieldLink RX5 7 "QueryGatewayModel" "fields" "[I" ∈ wsX5_addField := by decide +kernel
set_option maxRecDepth 20000 in
theorem in_wsX5_addField_X5 : ∀ w ∈ wsX50, w ∈ wsX5_addField := by decide +kernel
set_option maxRecDepth 20000 in
theorem lk331_wsX5_addField : Cond.fieldLink RX5 56 "QueryGatewayModel" "thrown" "I" ∈ wsX5_addField := by decide +kernel
set_option maxRecDepth 20000 in
theorem lk332_wsX5_addField : Cond.fieldLink RX5 13 "QueryGatewayModel" "leads" "[I" ∈ wsX5_addField := by decide +kernel
set_option maxRecDepth 20000 in
theorem lk333_wsX5_addField : Cond.fieldLink RX5 16 "QueryGatewayModel" "isRequired" "[Z" ∈ wsX5_addField := by decide +kernel
abbrev rmX5_addField : Room := { frames := 2, cells := 0, slots := 0, locals := 42 }
set_option maxHeartbeats 4000000 in
set_option maxRecDepth 100000 in
theorem c_X5_addField_ok {l : Launch} {D : va_G} {cy : zCy} {M m1 m2 m3 m4 m5 m6 m7 m8 m9 m10 m11 m12 m13 m14 m15 nn qt fl : Nat} {thr mam : Int32} {fc : Nat → Nat} {lm : Nat → Int32} {rq : Nat → Bool} {t : Nat} (ht : t < 4) (hf : fc t < 8) {lo : Int32} (hlo : (lo = -1 ∨ inN 4 lo)) (b : Bool) : zW (Unit) l yX5_addField wsX5_addField rmX5_addField D cy [(M, .inr (5, [.int thr, .ref m1, .ref m2, .ref m3, .ref m4, .ref m5, .int (nI fl), .int (nI qt), .int (nI nn), .ref m6, .ref m7, .ref m8, .ref m9, .ref m10, .ref m11, .ref m12, .ref m13, .ref m14, .ref m15, .int mam])), (m1, .inl (cy.1, 4, .inl (fun z => nI (fc z)))), (m2, .inl (cy.1, 32, .inl lm)), (m3, .inl (cy.2.1, 32, .inl (fun z => bI (rq z))))] [.ref M, .int (nI t), .int lo, .int (bI (b))] (fun r _ => r = nI (fc t)) (fun _ => [(M, .inr (5, [.int (nI 0), .ref m1, .ref m2, .ref m3, .ref m4, .ref m5, .int (nI fl), .int (nI qt), .int (nI nn), .ref m6, .ref m7, .ref m8, .ref m9, .ref m10, .ref m11, .ref m12, .ref m13, .ref m14, .ref m15, .int mam])), (m1, .inl (cy.1, 4, .inl (fun z => nI (va_up fc (t) (fc t + 1) z)))), (m2, .inl (cy.1, 32, .inl (upd lm (t * 8 + fc t) lo))), (m3, .inl (cy.2.1, 32, .inl (fun z => bI (va_up rq (t * 8 + fc t) b z))))]) := by
  refine zW.of (cc := cX5_addField) (maxL := 5) (ret := (some .int)) (by decide) rfl rfl ?_
  intro p e s m below meth c ls C hP hK hD hl
  obtain ⟨hx, hb, hr, hml, hts, hown, hlocks⟩ := C
  have hS : va_S (zIn [(M, .inr (5, [.int thr, .ref m1, .ref m2, .ref m3, .ref m4, .ref m5, .int (nI fl), .int (nI qt), .int (nI nn), .ref m6, .ref m7, .ref m8, .ref m9, .ref m10, .ref m11, .ref m12, .ref m13, .ref m14, .ref m15, .int mam])), (m1, .inl (cy.1, 4, .inl (fun z => nI (fc z)))), (m2, .inl (cy.1, 32, .inl lm)), (m3, .inl (cy.2.1, 32, .inl (fun z => bI (rq z))))]) s.heap s.heap [] := va_S.rf
  have hl : lv_has ls 5 [(0, .ref M), (1, .int (nI t)), (2, .int lo), (3, .int (bI (b)))] := hl
  refine lv_aload_n hx hb dX5_addField_0 rfl (lv_at hl 0 rfl) ?_
  refine lv_iload_n hx hb dX5_addField_1 rfl (lv_at hl 1 rfl) ?_
  refine z_callS (As := [.int (nI t)]) (rest := [.ref M]) ⟨hx, hb, hml, hown, hts⟩ hK hP hS (c_X5_isType (x := nI t)) (va_cwS 1 hts gX5_addField_X5_isType rfl rfl rfl k_yX5_isType ⟨Nat.le_of_ble_eq_true rfl, Nat.le_of_ble_eq_true rfl⟩) rfl hl.1 rfl rfl dX5_addField_2 ⟨Nat.le_of_ble_eq_true rfl, Nat.le_of_ble_eq_true rfl⟩ (fun H locs hP hS => ?_)
  refine z_top (y := nI 1) (bI_in (by omega) (by omega)) ?_
  refine lv_if_eq (tgt := 17) hx hb dX5_addField_5 (by decide) (fun cb1 => ?_) (fun cb1 => ?_)
  · have cb1 : 1 = 0 := zn_eq_t (a := 1) (b := 0) (by omega) (by omega) cb1
    exact absurd cb1 (by decide)
  · have cb1 : ¬ (1 = 0) := zn_eq_f (a := 1) (b := 0) (by omega) (by omega) cb1
    refine lv_iload_n hx hb dX5_addField_8 rfl (lv_at hl 2 rfl) ?_
    refine lv_iconst (v := (-1 : Int32)) hx hb dX5_addField_9 (by decide) ?_
    refine lv_iconst (v := nI 3) hx hb dX5_addField_10 (by decide) ?_
    refine z_callS (As := [.int lo, .int ((-1 : Int32)), .int (nI 3)]) (rest := [.ref M]) ⟨hx, hb, hml, hown, hts⟩ hK hP hS (c_X5_in (v := lo) (lo := -1) (hi := nI 3)) (va_cwS 3 hts gX5_addField_X5_in rfl rfl rfl k_yX5_in ⟨Nat.le_of_ble_eq_true rfl, Nat.le_of_ble_eq_true rfl⟩) rfl hl.1 rfl rfl dX5_addField_11 ⟨Nat.le_of_ble_eq_true rfl, Nat.le_of_ble_eq_true rfl⟩ (fun H locs hP hS => ?_)
    refine z_top (y := bI (decide (lo = -1 ∨ inN 4 lo))) (congrArg bI (decide_eq_decide.mpr (zin2 (by decide)))) ?_
    refine lv_if_ne (tgt := 21) hx hb dX5_addField_14 (by decide) (fun cb2 => ?_) (fun cb2 => ?_)
    · have cb2 : (decide (lo = -1 ∨ inN 4 lo)) = true := bI_f0 cb2
      refine lv_aload_n hx hb dX5_addField_21 rfl (lv_at hl 0 rfl) ?_
      refine va_get (D := D) (ci := 5) (v := .ref m1) (C := RX5) (T := TX5) (N := 20) hx hb hts in_wsX5_addField_X5 hown hK.1 hP 0 rfl rfl 1 (by decide) (hts _ lk329_wsX5_addField) (fun _ h9 => h9) rfl dX5_addField_22 ?_
      refine lv_iload_n hx hb dX5_addField_25 rfl (lv_at hl 1 rfl) ?_
      refine z_iald (v := nI (fc t)) hx hb hK.1 hP 1 0 rfl rfl (k := t) (by omega) (by decide) rfl dX5_addField_26 ?_
      refine lv_bipush (v := nI 8) hx hb dX5_addField_27 (by decide) ?_
      refine lv_icmp_ne (tgt := 36) hx hb dX5_addField_29 (by decide) (fun cb3 => ?_) (fun cb3 => ?_)
      · have cb3 : ¬ ((fc t) = 8) := zn_ne_f (a := (fc t)) (b := 8) (by omega) (by omega) cb3
        refine lv_iconst (v := nI 0) hx hb dX5_addField_36 (by decide) ?_
        refine va_put (D := D) (ci := 5) (v := .int (nI 0)) (ty := .int) (C := RX5) (T := TX5) (N := 20) hx hb hts in_wsX5_addField_X5 tyX5 tyX5_ok nmX5 hown hK.1 hP hD hS 0 rfl rfl 0 (by decide) (hts _ lk331_wsX5_addField) (fun _ h9 => h9) rfl (by decide +kernel) rfl rfl (Nat.le_of_ble_eq_true rfl) dX5_addField_37 (fun H locs hP hD hS => ?_)
        have hP : va_P D vwCl [(M, .inr (5, [.int (nI 0), .ref m1, .ref m2, .ref m3, .ref m4, .ref m5, .int (nI fl), .int (nI qt), .int (nI nn), .ref m6, .ref m7, .ref m8, .ref m9, .ref m10, .ref m11, .ref m12, .ref m13, .ref m14, .ref m15, .int mam])), (m1, .inl (cy.1, 4, .inl (fun z => nI (fc z)))), (m2, .inl (cy.1, 32, .inl lm)), (m3, .inl (cy.2.1, 32, .inl (fun z => bI (rq z))))] H := hP
        have hD : va_D (zIn [(M, .inr (5, [.int thr, .ref m1, .ref m2, .ref m3, .ref m4, .ref m5, .int (nI fl), .int (nI qt), .int (nI nn), .ref m6, .ref m7, .ref m8, .ref m9, .ref m10, .ref m11, .ref m12, .ref m13, .ref m14, .ref m15, .int mam])), (m1, .inl (cy.1, 4, .inl (fun z => nI (fc z)))), (m2, .inl (cy.1, 32, .inl lm)), (m3, .inl (cy.2.1, 32, .inl (fun z => bI (rq z))))]) [(M, .inr (5, [.int (nI 0), .ref m1, .ref m2, .ref m3, .ref m4, .ref m5, .int (nI fl), .int (nI qt), .int (nI nn), .ref m6, .ref m7, .ref m8, .ref m9, .ref m10, .ref m11, .ref m12, .ref m13, .ref m14, .ref m15, .int mam])), (m1, .inl (cy.1, 4, .inl (fun z => nI (fc z)))), (m2, .inl (cy.1, 32, .inl lm)), (m3, .inl (cy.2.1, 32, .inl (fun z => bI (rq z))))] := hD
        refine lv_aload_n hx hb dX5_addField_40 rfl (lv_at hl 0 rfl) ?_
        refine va_get (D := D) (ci := 5) (v := .int (nI 0)) (C := RX5) (T := TX5) (N := 20) hx hb hts in_wsX5_addField_X5 hown hK.1 hP 0 rfl rfl 0 (by decide) (hts _ lk331_wsX5_addField) (fun _ h9 => h9) rfl dX5_addField_41 ?_
        refine lv_if_le (tgt := 49) hx hb dX5_addField_44 (by decide) (fun cb4 => ?_) (fun cb4 => ?_)
        · have cb4 : 0 ≤ 0 := zn_le_t (a := 0) (b := 0) (by omega) (by omega) cb4
          refine lv_aload_n hx hb dX5_addField_49 rfl (lv_at hl 0 rfl) ?_
          refine va_get (D := D) (ci := 5) (v := .ref m1) (C := RX5) (T := TX5) (N := 20) hx hb hts in_wsX5_addField_X5 hown hK.1 hP 0 rfl rfl 1 (by decide) (hts _ lk329_wsX5_addField) (fun _ h9 => h9) rfl dX5_addField_50 ?_
          refine lv_iload_n hx hb dX5_addField_53 rfl (lv_at hl 1 rfl) ?_
          refine z_iald (v := nI (fc t)) hx hb hK.1 hP 1 0 rfl rfl (k := t) (by omega) (by decide) rfl dX5_addField_54 ?_
          refine lv_istore (lv' := [(4, .int (nI (fc t))), (0, .ref M), (1, .int (nI t)), (2, .int lo), (3, .int (bI (b)))]) hx hb dX5_addField_55 hl (by decide) rfl (fun ls hl => ?_)
          refine lv_aload_n hx hb dX5_addField_57 rfl (lv_at hl 1 rfl) ?_
          refine va_get (D := D) (ci := 5) (v := .ref m2) (C := RX5) (T := TX5) (N := 20) hx hb hts in_wsX5_addField_X5 hown hK.1 hP 0 rfl rfl 2 (by decide) (hts _ lk332_wsX5_addField) (fun _ h9 => h9) rfl dX5_addField_58 ?_
          refine lv_bipush (v := nI 8) hx hb dX5_addField_61 (by decide) ?_
          refine lv_iload_n hx hb dX5_addField_63 rfl (lv_at hl 2 rfl) ?_
          refine lv_imul hx hb dX5_addField_64 ?_
          refine z_top (y := nI (8 * t)) (pk_mul _ _) ?_
          refine lv_iload hx hb dX5_addField_65 (lv_at hl 0 rfl) ?_
          refine lv_iadd hx hb dX5_addField_67 ?_
          refine z_top (y := nI ((8 * t) + (fc t))) (nI_add _ _) ?_
          refine lv_iload_n hx hb dX5_addField_68 rfl (lv_at hl 3 rfl) ?_
          refine z_iast (g := upd lm (t * 8 + fc t) lo) hx hb hK.1 hP hD hS 2 0 rfl rfl (k := (8 * t) + (fc t)) (by omega) (by decide) (fun _ _ => by rw [Nat.mul_comm 8 t]) dX5_addField_69 (fun H locs hP hD hS => ?_)
          have hP : va_P D vwCl [(M, .inr (5, [.int (nI 0), .ref m1, .ref m2, .ref m3, .ref m4, .ref m5, .int (nI fl), .int (nI qt), .int (nI nn), .ref m6, .ref m7, .ref m8, .ref m9, .ref m10, .ref m11, .ref m12, .ref m13, .ref m14, .ref m15, .int mam])), (m1, .inl (cy.1, 4, .inl (fun z => nI (fc z)))), (m2, .inl (cy.1, 32, .inl (upd lm (t * 8 + fc t) lo))), (m3, .inl (cy.2.1, 32, .inl (fun z => bI (rq z))))] H := hP
          have hD : va_D (zIn [(M, .inr (5, [.int thr, .ref m1, .ref m2, .ref m3, .ref m4, .ref m5, .int (nI fl), .int (nI qt), .int (nI nn), .ref m6, .ref m7, .ref m8, .ref m9, .ref m10, .ref m11, .ref m12, .ref m13, .ref m14, .ref m15, .int mam])), (m1, .inl (cy.1, 4, .inl (fun z => nI (fc z)))), (m2, .inl (cy.1, 32, .inl lm)), (m3, .inl (cy.2.1, 32, .inl (fun z => bI (rq z))))]) [(M, .inr (5, [.int (nI 0), .ref m1, .ref m2, .ref m3, .ref m4, .ref m5, .int (nI fl), .int (nI qt), .int (nI nn), .ref m6, .ref m7, .ref m8, .ref m9, .ref m10, .ref m11, .ref m12, .ref m13, .ref m14, .ref m15, .int mam])), (m1, .inl (cy.1, 4, .inl (fun z => nI (fc z)))), (m2, .inl (cy.1, 32, .inl (upd lm (t * 8 + fc t) lo))), (m3, .inl (cy.2.1, 32, .inl (fun z => bI (rq z))))] := hD
          refine lv_aload_n hx hb dX5_addField_70 rfl (lv_at hl 1 rfl) ?_
          refine va_get (D := D) (ci := 5) (v := .ref m3) (C := RX5) (T := TX5) (N := 20) hx hb hts in_wsX5_addField_X5 hown hK.1 hP 0 rfl rfl 3 (by decide) (hts _ lk333_wsX5_addField) (fun _ h9 => h9) rfl dX5_addField_71 ?_
          refine lv_bipush (v := nI 8) hx hb dX5_addField_74 (by decide) ?_
          refine lv_iload_n hx hb dX5_addField_76 rfl (lv_at hl 2 rfl) ?_
          refine lv_imul hx hb dX5_addField_77 ?_
          refine z_top (y := nI (8 * t)) (pk_mul _ _) ?_
          refine lv_iload hx hb dX5_addField_78 (lv_at hl 0 rfl) ?_
          refine lv_iadd hx hb dX5_addField_80 ?_
          refine z_top (y := nI ((8 * t) + (fc t))) (nI_add _ _) ?_
          refine lv_iload_n hx hb dX5_addField_81 rfl (lv_at hl 4 rfl) ?_
          refine z_zast (g := fun z => bI (va_up rq (t * 8 + fc t) b z)) hx hb hK.1 hP hD hS 3 1 rfl rfl (k := (8 * t) + (fc t)) (by omega) (by decide) (bI01 _) (fun z _ => by unfold upd va_up; rw [Nat.mul_comm 8 t]; split <;> rfl) dX5_addField_82 (fun H locs hP hD hS => ?_)
          have hP : va_P D vwCl [(M, .inr (5, [.int (nI 0), .ref m1, .ref m2, .ref m3, .ref m4, .ref m5, .int (nI fl), .int (nI qt), .int (nI nn), .ref m6, .ref m7, .ref m8, .ref m9, .ref m10, .ref m11, .ref m12, .ref m13, .ref m14, .ref m15, .int mam])), (m1, .inl (cy.1, 4, .inl (fun z => nI (fc z)))), (m2, .inl (cy.1, 32, .inl (upd lm (t * 8 + fc t) lo))), (m3, .inl (cy.2.1, 32, .inl (fun z => bI (va_up rq (t * 8 + fc t) b z))))] H := hP
          have hD : va_D (zIn [(M, .inr (5, [.int thr, .ref m1, .ref m2, .ref m3, .ref m4, .ref m5, .int (nI fl), .int (nI qt), .int (nI nn), .ref m6, .ref m7, .ref m8, .ref m9, .ref m10, .ref m11, .ref m12, .ref m13, .ref m14, .ref m15, .int mam])), (m1, .inl (cy.1, 4, .inl (fun z => nI (fc z)))), (m2, .inl (cy.1, 32, .inl lm)), (m3, .inl (cy.2.1, 32, .inl (fun z => bI (rq z))))]) [(M, .inr (5, [.int (nI 0), .ref m1, .ref m2, .ref m3, .ref m4, .ref m5, .int (nI fl), .int (nI qt), .int (nI nn), .ref m6, .ref m7, .ref m8, .ref m9, .ref m10, .ref m11, .ref m12, .ref m13, .ref m14, .ref m15, .int mam])), (m1, .inl (cy.1, 4, .inl (fun z => nI (fc z)))), (m2, .inl (cy.1, 32, .inl (upd lm (t * 8 + fc t) lo))), (m3, .inl (cy.2.1, 32, .inl (fun z => bI (va_up rq (t * 8 + fc t) b z))))] := hD
          refine lv_aload_n hx hb dX5_addField_83 rfl (lv_at hl 1 rfl) ?_
          refine va_get (D := D) (ci := 5) (v := .ref m1) (C := RX5) (T := TX5) (N := 20) hx hb hts in_wsX5_addField_X5 hown hK.1 hP 0 rfl rfl 1 (by decide) (hts _ lk329_wsX5_addField) (fun _ h9 => h9) rfl dX5_addField_84 ?_
          refine lv_iload_n hx hb dX5_addField_87 rfl (lv_at hl 2 rfl) ?_
          refine lv_dup2_11 hx hb dX5_addField_88 rfl rfl ?_
          refine z_iald (v := nI (fc t)) hx hb hK.1 hP 1 0 rfl rfl (k := t) (by omega) (by decide) rfl dX5_addField_89 ?_
          refine lv_iconst (v := nI 1) hx hb dX5_addField_90 (by decide) ?_
          refine lv_iadd hx hb dX5_addField_91 ?_
          refine z_top (y := nI ((fc t) + 1)) (nI_add _ _) ?_
          refine z_iast (g := fun z => nI (va_up fc (t) (fc t + 1) z)) hx hb hK.1 hP hD hS 1 0 rfl rfl (k := t) (by omega) (by decide) (fun z _ => by unfold upd va_up; split <;> rfl) dX5_addField_92 (fun H locs hP hD hS => ?_)
          have hP : va_P D vwCl [(M, .inr (5, [.int (nI 0), .ref m1, .ref m2, .ref m3, .ref m4, .ref m5, .int (nI fl), .int (nI qt), .int (nI nn), .ref m6, .ref m7, .ref m8, .ref m9, .ref m10, .ref m11, .ref m12, .ref m13, .ref m14, .ref m15, .int mam])), (m1, .inl (cy.1, 4, .inl (fun z => nI (va_up fc (t) (fc t + 1) z)))), (m2, .inl (cy.1, 32, .inl (upd lm (t * 8 + fc t) lo))), (m3, .inl (cy.2.1, 32, .inl (fun z => bI (va_up rq (t * 8 + fc t) b z))))] H := hP
          have hD : va_D (zIn [(M, .inr (5, [.int thr, .ref m1, .ref m2, .ref m3, .ref m4, .ref m5, .int (nI fl), .int (nI qt), .int (nI nn), .ref m6, .ref m7, .ref m8, .ref m9, .ref m10, .ref m11, .ref m12, .ref m13, .ref m14, .ref m15, .int mam])), (m1, .inl (cy.1, 4, .inl (fun z => nI (fc z)))), (m2, .inl (cy.1, 32, .inl lm)), (m3, .inl (cy.2.1, 32, .inl (fun z => bI (rq z))))]) [(M, .inr (5, [.int (nI 0), .ref m1, .ref m2, .ref m3, .ref m4, .ref m5, .int (nI fl), .int (nI qt), .int (nI nn), .ref m6, .ref m7, .ref m8, .ref m9, .ref m10, .ref m11, .ref m12, .ref m13, .ref m14, .ref m15, .int mam])), (m1, .inl (cy.1, 4, .inl (fun z => nI (va_up fc (t) (fc t + 1) z)))), (m2, .inl (cy.1, 32, .inl (upd lm (t * 8 + fc t) lo))), (m3, .inl (cy.2.1, 32, .inl (fun z => bI (va_up rq (t * 8 + fc t) b z))))] := hD
          refine lv_iload hx hb dX5_addField_93 (lv_at hl 0 rfl) ?_
          exact z_iretW () hx hb hr hlocks hS dX5_addField_95 hP rfl
        · have cb4 : ¬ (0 ≤ 0) := zn_le_f (a := 0) (b := 0) (by omega) (by omega) cb4
          exact absurd cb4 (by decide)
      · have cb3 : (fc t) = 8 := zn_ne_t (a := (fc t)) (b := 8) (by omega) (by omega) cb3
        exact absurd cb3 (by omega)
    · have cb2 : (decide (lo = -1 ∨ inN 4 lo)) = false := bI_t0 cb2
      exact absurd hlo (of_decide_eq_false cb2)
set_option maxHeartbeats 4000000 in
set_option maxRecDepth 100000 in
theorem c_X5_addField_badT {l : Launch} {D : va_G} {cy : zCy} {M m1 m2 m3 m4 m5 m6 m7 m8 m9 m10 m11 m12 m13 m14 m15 nn qt fl : Nat} {thr mam : Int32} {fc : Nat → Nat} {lm : Nat → Int32} {rq : Nat → Bool} {x lo : Int32} (hbad : ¬ inN 4 x) (b : Bool) : zW (Unit) l yX5_addField wsX5_addField rmX5_addField D cy [(M, .inr (5, [.int thr, .ref m1, .ref m2, .ref m3, .ref m4, .ref m5, .int (nI fl), .int (nI qt), .int (nI nn), .ref m6, .ref m7, .ref m8, .ref m9, .ref m10, .ref m11, .ref m12, .ref m13, .ref m14, .ref m15, .int mam])), (m1, .inl (cy.1, 4, .inl (fun z => nI (fc z)))), (m2, .inl (cy.1, 32, .inl lm)), (m3, .inl (cy.2.1, 32, .inl (fun z => bI (rq z))))] [.ref M, .int x, .int lo, .int (bI (b))] (fun _ _ => True) (fun _ => [(M, .inr (5, [.int (nI 1), .ref m1, .ref m2, .ref m3, .ref m4, .ref m5, .int (nI fl), .int (nI qt), .int (nI nn), .ref m6, .ref m7, .ref m8, .ref m9, .ref m10, .ref m11, .ref m12, .ref m13, .ref m14, .ref m15, .int mam])), (m1, .inl (cy.1, 4, .inl (fun z => nI (fc z)))), (m2, .inl (cy.1, 32, .inl lm)), (m3, .inl (cy.2.1, 32, .inl (fun z => bI (rq z))))]) := by
  refine zW.of (cc := cX5_addField) (maxL := 5) (ret := (some .int)) (by decide) rfl rfl ?_
  intro p e s m below meth c ls C hP hK hD hl
  obtain ⟨hx, hb, hr, hml, hts, hown, hlocks⟩ := C
  have hS : va_S (zIn [(M, .inr (5, [.int thr, .ref m1, .ref m2, .ref m3, .ref m4, .ref m5, .int (nI fl), .int (nI qt), .int (nI nn), .ref m6, .ref m7, .ref m8, .ref m9, .ref m10, .ref m11, .ref m12, .ref m13, .ref m14, .ref m15, .int mam])), (m1, .inl (cy.1, 4, .inl (fun z => nI (fc z)))), (m2, .inl (cy.1, 32, .inl lm)), (m3, .inl (cy.2.1, 32, .inl (fun z => bI (rq z))))]) s.heap s.heap [] := va_S.rf
  have hl : lv_has ls 5 [(0, .ref M), (1, .int x), (2, .int lo), (3, .int (bI (b)))] := hl
  refine lv_aload_n hx hb dX5_addField_0 rfl (lv_at hl 0 rfl) ?_
  refine lv_iload_n hx hb dX5_addField_1 rfl (lv_at hl 1 rfl) ?_
  refine z_callS (As := [.int x]) (rest := [.ref M]) ⟨hx, hb, hml, hown, hts⟩ hK hP hS (c_X5_isType (x := x)) (va_cwS 1 hts gX5_addField_X5_isType rfl rfl rfl k_yX5_isType ⟨Nat.le_of_ble_eq_true rfl, Nat.le_of_ble_eq_true rfl⟩) rfl hl.1 rfl rfl dX5_addField_2 ⟨Nat.le_of_ble_eq_true rfl, Nat.le_of_ble_eq_true rfl⟩ (fun H locs hP hS => ?_)
  refine lv_if_eq (tgt := 17) hx hb dX5_addField_5 (by decide) (fun cb1 => ?_) (fun cb1 => ?_)
  · have cb1 : (decide (inN 4 x)) = false := bI_t0 cb1
    refine lv_iconst (v := nI 1) hx hb dX5_addField_17 (by decide) ?_
    refine lv_goto (tgt := 37) hx hb dX5_addField_18 (by decide) ?_
    refine va_put (D := D) (ci := 5) (v := .int (nI 1)) (ty := .int) (C := RX5) (T := TX5) (N := 20) hx hb hts in_wsX5_addField_X5 tyX5 tyX5_ok nmX5 hown hK.1 hP hD hS 0 rfl rfl 0 (by decide) (hts _ lk331_wsX5_addField) (fun _ h9 => h9) rfl (by decide +kernel) rfl rfl (Nat.le_of_ble_eq_true rfl) dX5_addField_37 (fun H locs hP hD hS => ?_)
    have hP : va_P D vwCl [(M, .inr (5, [.int (nI 1), .ref m1, .ref m2, .ref m3, .ref m4, .ref m5, .int (nI fl), .int (nI qt), .int (nI nn), .ref m6, .ref m7, .ref m8, .ref m9, .ref m10, .ref m11, .ref m12, .ref m13, .ref m14, .ref m15, .int mam])), (m1, .inl (cy.1, 4, .inl (fun z => nI (fc z)))), (m2, .inl (cy.1, 32, .inl lm)), (m3, .inl (cy.2.1, 32, .inl (fun z => bI (rq z))))] H := hP
    have hD : va_D (zIn [(M, .inr (5, [.int thr, .ref m1, .ref m2, .ref m3, .ref m4, .ref m5, .int (nI fl), .int (nI qt), .int (nI nn), .ref m6, .ref m7, .ref m8, .ref m9, .ref m10, .ref m11, .ref m12, .ref m13, .ref m14, .ref m15, .int mam])), (m1, .inl (cy.1, 4, .inl (fun z => nI (fc z)))), (m2, .inl (cy.1, 32, .inl lm)), (m3, .inl (cy.2.1, 32, .inl (fun z => bI (rq z))))]) [(M, .inr (5, [.int (nI 1), .ref m1, .ref m2, .ref m3, .ref m4, .ref m5, .int (nI fl), .int (nI qt), .int (nI nn), .ref m6, .ref m7, .ref m8, .ref m9, .ref m10, .ref m11, .ref m12, .ref m13, .ref m14, .ref m15, .int mam])), (m1, .inl (cy.1, 4, .inl (fun z => nI (fc z)))), (m2, .inl (cy.1, 32, .inl lm)), (m3, .inl (cy.2.1, 32, .inl (fun z => bI (rq z))))] := hD
    refine lv_aload_n hx hb dX5_addField_40 rfl (lv_at hl 0 rfl) ?_
    refine va_get (D := D) (ci := 5) (v := .int (nI 1)) (C := RX5) (T := TX5) (N := 20) hx hb hts in_wsX5_addField_X5 hown hK.1 hP 0 rfl rfl 0 (by decide) (hts _ lk331_wsX5_addField) (fun _ h9 => h9) rfl dX5_addField_41 ?_
    refine lv_if_le (tgt := 49) hx hb dX5_addField_44 (by decide) (fun cb2 => ?_) (fun cb2 => ?_)
    · have cb2 : 1 ≤ 0 := zn_le_t (a := 1) (b := 0) (by omega) (by omega) cb2
      exact absurd cb2 (by decide)
    · have cb2 : ¬ (1 ≤ 0) := zn_le_f (a := 1) (b := 0) (by omega) (by omega) cb2
      refine lv_iconst (v := nI 0) hx hb dX5_addField_47 (by decide) ?_
      exact z_iretW () hx hb hr hlocks hS dX5_addField_48 hP trivial
  · have cb1 : (decide (inN 4 x)) = true := bI_f0 cb1
    exact absurd (of_decide_eq_true cb1) hbad
set_option maxHeartbeats 4000000 in
set_option maxRecDepth 100000 in
theorem c_X5_addField_badL {l : Launch} {D : va_G} {cy : zCy} {M m1 m2 m3 m4 m5 m6 m7 m8 m9 m10 m11 m12 m13 m14 m15 nn qt fl : Nat} {thr mam : Int32} {fc : Nat → Nat} {lm : Nat → Int32} {rq : Nat → Bool} {t : Nat} (ht : t < 4) {lo : Int32} (hlo : ¬ (lo = -1 ∨ inN 4 lo)) (b : Bool) : zW (Unit) l yX5_addField wsX5_addField rmX5_addField D cy [(M, .inr (5, [.int thr, .ref m1, .ref m2, .ref m3, .ref m4, .ref m5, .int (nI fl), .int (nI qt), .int (nI nn), .ref m6, .ref m7, .ref m8, .ref m9, .ref m10, .ref m11, .ref m12, .ref m13, .ref m14, .ref m15, .int mam])), (m1, .inl (cy.1, 4, .inl (fun z => nI (fc z)))), (m2, .inl (cy.1, 32, .inl lm)), (m3, .inl (cy.2.1, 32, .inl (fun z => bI (rq z))))] [.ref M, .int (nI t), .int lo, .int (bI (b))] (fun _ _ => True) (fun _ => [(M, .inr (5, [.int (nI 1), .ref m1, .ref m2, .ref m3, .ref m4, .ref m5, .int (nI fl), .int (nI qt), .int (nI nn), .ref m6, .ref m7, .ref m8, .ref m9, .ref m10, .ref m11, .ref m12, .ref m13, .ref m14, .ref m15, .int mam])), (m1, .inl (cy.1, 4, .inl (fun z => nI (fc z)))), (m2, .inl (cy.1, 32, .inl lm)), (m3, .inl (cy.2.1, 32, .inl (fun z => bI (rq z))))]) := by
  refine zW.of (cc := cX5_addField) (maxL := 5) (ret := (some .int)) (by decide) rfl rfl ?_
  intro p e s m below meth c ls C hP hK hD hl
  obtain ⟨hx, hb, hr, hml, hts, hown, hlocks⟩ := C
  have hS : va_S (zIn [(M, .inr (5, [.int thr, .ref m1, .ref m2, .ref m3, .ref m4, .ref m5, .int (nI fl), .int (nI qt), .int (nI nn), .ref m6, .ref m7, .ref m8, .ref m9, .ref m10, .ref m11, .ref m12, .ref m13, .ref m14, .ref m15, .int mam])), (m1, .inl (cy.1, 4, .inl (fun z => nI (fc z)))), (m2, .inl (cy.1, 32, .inl lm)), (m3, .inl (cy.2.1, 32, .inl (fun z => bI (rq z))))]) s.heap s.heap [] := va_S.rf
  have hl : lv_has ls 5 [(0, .ref M), (1, .int (nI t)), (2, .int lo), (3, .int (bI (b)))] := hl
  refine lv_aload_n hx hb dX5_addField_0 rfl (lv_at hl 0 rfl) ?_
  refine lv_iload_n hx hb dX5_addField_1 rfl (lv_at hl 1 rfl) ?_
  refine z_callS (As := [.int (nI t)]) (rest := [.ref M]) ⟨hx, hb, hml, hown, hts⟩ hK hP hS (c_X5_isType (x := nI t)) (va_cwS 1 hts gX5_addField_X5_isType rfl rfl rfl k_yX5_isType ⟨Nat.le_of_ble_eq_true rfl, Nat.le_of_ble_eq_true rfl⟩) rfl hl.1 rfl rfl dX5_addField_2 ⟨Nat.le_of_ble_eq_true rfl, Nat.le_of_ble_eq_true rfl⟩ (fun H locs hP hS => ?_)
  refine z_top (y := nI 1) (bI_in (by omega) (by omega)) ?_
  refine lv_if_eq (tgt := 17) hx hb dX5_addField_5 (by decide) (fun cb1 => ?_) (fun cb1 => ?_)
  · have cb1 : 1 = 0 := zn_eq_t (a := 1) (b := 0) (by omega) (by omega) cb1
    exact absurd cb1 (by decide)
  · have cb1 : ¬ (1 = 0) := zn_eq_f (a := 1) (b := 0) (by omega) (by omega) cb1
    refine lv_iload_n hx hb dX5_addField_8 rfl (lv_at hl 2 rfl) ?_
    refine lv_iconst (v := (-1 : Int32)) hx hb dX5_addField_9 (by decide) ?_
    refine lv_iconst (v := nI 3) hx hb dX5_addField_10 (by decide) ?_
    refine z_callS (As := [.int lo, .int ((-1 : Int32)), .int (nI 3)]) (rest := [.ref M]) ⟨hx, hb, hml, hown, hts⟩ hK hP hS (c_X5_in (v := lo) (lo := -1) (hi := nI 3)) (va_cwS 3 hts gX5_addField_X5_in rfl rfl rfl k_yX5_in ⟨Nat.le_of_ble_eq_true rfl, Nat.le_of_ble_eq_true rfl⟩) rfl hl.1 rfl rfl dX5_addField_11 ⟨Nat.le_of_ble_eq_true rfl, Nat.le_of_ble_eq_true rfl⟩ (fun H locs hP hS => ?_)
    refine z_top (y := bI (decide (lo = -1 ∨ inN 4 lo))) (congrArg bI (decide_eq_decide.mpr (zin2 (by decide)))) ?_
    refine lv_if_ne (tgt := 21) hx hb dX5_addField_14 (by decide) (fun cb2 => ?_) (fun cb2 => ?_)
    · have cb2 : (decide (lo = -1 ∨ inN 4 lo)) = true := bI_f0 cb2
      exact absurd (of_decide_eq_true cb2) hlo
    · have cb2 : (decide (lo = -1 ∨ inN 4 lo)) = false := bI_t0 cb2
      refine lv_iconst (v := nI 1) hx hb dX5_addField_17 (by decide) ?_
      refine lv_goto (tgt := 37) hx hb dX5_addField_18 (by decide) ?_
      refine va_put (D := D) (ci := 5) (v := .int (nI 1)) (ty := .int) (C := RX5) (T := TX5) (N := 20) hx hb hts in_wsX5_addField_X5 tyX5 tyX5_ok nmX5 hown hK.1 hP hD hS 0 rfl rfl 0 (by decide) (hts _ lk331_wsX5_addField) (fun _ h9 => h9) rfl (by decide +kernel) rfl rfl (Nat.le_of_ble_eq_true rfl) dX5_addField_37 (fun H locs hP hD hS => ?_)
      have hP : va_P D vwCl [(M, .inr (5, [.int (nI 1), .ref m1, .ref m2, .ref m3, .ref m4, .ref m5, .int (nI fl), .int (nI qt), .int (nI nn), .ref m6, .ref m7, .ref m8, .ref m9, .ref m10, .ref m11, .ref m12, .ref m13, .ref m14, .ref m15, .int mam])), (m1, .inl (cy.1, 4, .inl (fun z => nI (fc z)))), (m2, .inl (cy.1, 32, .inl lm)), (m3, .inl (cy.2.1, 32, .inl (fun z => bI (rq z))))] H := hP
      have hD : va_D (zIn [(M, .inr (5, [.int thr, .ref m1, .ref m2, .ref m3, .ref m4, .ref m5, .int (nI fl), .int (nI qt), .int (nI nn), .ref m6, .ref m7, .ref m8, .ref m9, .ref m10, .ref m11, .ref m12, .ref m13, .ref m14, .ref m15, .int mam])), (m1, .inl (cy.1, 4, .inl (fun z => nI (fc z)))), (m2, .inl (cy.1, 32, .inl lm)), (m3, .inl (cy.2.1, 32, .inl (fun z => bI (rq z))))]) [(M, .inr (5, [.int (nI 1), .ref m1, .ref m2, .ref m3, .ref m4, .ref m5, .int (nI fl), .int (nI qt), .int (nI nn), .ref m6, .ref m7, .ref m8, .ref m9, .ref m10, .ref m11, .ref m12, .ref m13, .ref m14, .ref m15, .int mam])), (m1, .inl (cy.1, 4, .inl (fun z => nI (fc z)))), (m2, .inl (cy.1, 32, .inl lm)), (m3, .inl (cy.2.1, 32, .inl (fun z => bI (rq z))))] := hD
      refine lv_aload_n hx hb dX5_addField_40 rfl (lv_at hl 0 rfl) ?_
      refine va_get (D := D) (ci := 5) (v := .int (nI 1)) (C := RX5) (T := TX5) (N := 20) hx hb hts in_wsX5_addField_X5 hown hK.1 hP 0 rfl rfl 0 (by decide) (hts _ lk331_wsX5_addField) (fun _ h9 => h9) rfl dX5_addField_41 ?_
      refine lv_if_le (tgt := 49) hx hb dX5_addField_44 (by decide) (fun cb3 => ?_) (fun cb3 => ?_)
      · have cb3 : 1 ≤ 0 := zn_le_t (a := 1) (b := 0) (by omega) (by omega) cb3
        exact absurd cb3 (by decide)
      · have cb3 : ¬ (1 ≤ 0) := zn_le_f (a := 1) (b := 0) (by omega) (by omega) cb3
        refine lv_iconst (v := nI 0) hx hb dX5_addField_47 (by decide) ?_
        exact z_iretW () hx hb hr hlocks hS dX5_addField_48 hP trivial
set_option maxHeartbeats 4000000 in
set_option maxRecDepth 100000 in
theorem c_X5_addField_badF {l : Launch} {D : va_G} {cy : zCy} {M m1 m2 m3 m4 m5 m6 m7 m8 m9 m10 m11 m12 m13 m14 m15 nn qt fl : Nat} {thr mam : Int32} {fc : Nat → Nat} {lm : Nat → Int32} {rq : Nat → Bool} {t : Nat} (ht : t < 4) (hf : ¬ fc t < 8) (hf8 : fc t ≤ 8) {lo : Int32} (hlo : (lo = -1 ∨ inN 4 lo)) (b : Bool) : zW (Unit) l yX5_addField wsX5_addField rmX5_addField D cy [(M, .inr (5, [.int thr, .ref m1, .ref m2, .ref m3, .ref m4, .ref m5, .int (nI fl), .int (nI qt), .int (nI nn), .ref m6, .ref m7, .ref m8, .ref m9, .ref m10, .ref m11, .ref m12, .ref m13, .ref m14, .ref m15, .int mam])), (m1, .inl (cy.1, 4, .inl (fun z => nI (fc z)))), (m2, .inl (cy.1, 32, .inl lm)), (m3, .inl (cy.2.1, 32, .inl (fun z => bI (rq z))))] [.ref M, .int (nI t), .int lo, .int (bI (b))] (fun _ _ => True) (fun _ => [(M, .inr (5, [.int (nI 2), .ref m1, .ref m2, .ref m3, .ref m4, .ref m5, .int (nI fl), .int (nI qt), .int (nI nn), .ref m6, .ref m7, .ref m8, .ref m9, .ref m10, .ref m11, .ref m12, .ref m13, .ref m14, .ref m15, .int mam])), (m1, .inl (cy.1, 4, .inl (fun z => nI (fc z)))), (m2, .inl (cy.1, 32, .inl lm)), (m3, .inl (cy.2.1, 32, .inl (fun z => bI (rq z))))]) := by
  refine zW.of (cc := cX5_addField) (maxL := 5) (ret := (some .int)) (by decide) rfl rfl ?_
  intro p e s m below meth c ls C hP hK hD hl
  obtain ⟨hx, hb, hr, hml, hts, hown, hlocks⟩ := C
  have hS : va_S (zIn [(M, .inr (5, [.int thr, .ref m1, .ref m2, .ref m3, .ref m4, .ref m5, .int (nI fl), .int (nI qt), .int (nI nn), .ref m6, .ref m7, .ref m8, .ref m9, .ref m10, .ref m11, .ref m12, .ref m13, .ref m14, .ref m15, .int mam])), (m1, .inl (cy.1, 4, .inl (fun z => nI (fc z)))), (m2, .inl (cy.1, 32, .inl lm)), (m3, .inl (cy.2.1, 32, .inl (fun z => bI (rq z))))]) s.heap s.heap [] := va_S.rf
  have hl : lv_has ls 5 [(0, .ref M), (1, .int (nI t)), (2, .int lo), (3, .int (bI (b)))] := hl
  refine lv_aload_n hx hb dX5_addField_0 rfl (lv_at hl 0 rfl) ?_
  refine lv_iload_n hx hb dX5_addField_1 rfl (lv_at hl 1 rfl) ?_
  refine z_callS (As := [.int (nI t)]) (rest := [.ref M]) ⟨hx, hb, hml, hown, hts⟩ hK hP hS (c_X5_isType (x := nI t)) (va_cwS 1 hts gX5_addField_X5_isType rfl rfl rfl k_yX5_isType ⟨Nat.le_of_ble_eq_true rfl, Nat.le_of_ble_eq_true rfl⟩) rfl hl.1 rfl rfl dX5_addField_2 ⟨Nat.le_of_ble_eq_true rfl, Nat.le_of_ble_eq_true rfl⟩ (fun H locs hP hS => ?_)
  refine z_top (y := nI 1) (bI_in (by omega) (by omega)) ?_
  refine lv_if_eq (tgt := 17) hx hb dX5_addField_5 (by decide) (fun cb1 => ?_) (fun cb1 => ?_)
  · have cb1 : 1 = 0 := zn_eq_t (a := 1) (b := 0) (by omega) (by omega) cb1
    exact absurd cb1 (by decide)
  · have cb1 : ¬ (1 = 0) := zn_eq_f (a := 1) (b := 0) (by omega) (by omega) cb1
    refine lv_iload_n hx hb dX5_addField_8 rfl (lv_at hl 2 rfl) ?_
    refine lv_iconst (v := (-1 : Int32)) hx hb dX5_addField_9 (by decide) ?_
    refine lv_iconst (v := nI 3) hx hb dX5_addField_10 (by decide) ?_
    refine z_callS (As := [.int lo, .int ((-1 : Int32)), .int (nI 3)]) (rest := [.ref M]) ⟨hx, hb, hml, hown, hts⟩ hK hP hS (c_X5_in (v := lo) (lo := -1) (hi := nI 3)) (va_cwS 3 hts gX5_addField_X5_in rfl rfl rfl k_yX5_in ⟨Nat.le_of_ble_eq_true rfl, Nat.le_of_ble_eq_true rfl⟩) rfl hl.1 rfl rfl dX5_addField_11 ⟨Nat.le_of_ble_eq_true rfl, Nat.le_of_ble_eq_true rfl⟩ (fun H locs hP hS => ?_)
    refine z_top (y := bI (decide (lo = -1 ∨ inN 4 lo))) (congrArg bI (decide_eq_decide.mpr (zin2 (by decide)))) ?_
    refine lv_if_ne (tgt := 21) hx hb dX5_addField_14 (by decide) (fun cb2 => ?_) (fun cb2 => ?_)
    · have cb2 : (decide (lo = -1 ∨ inN 4 lo)) = true := bI_f0 cb2
      refine lv_aload_n hx hb dX5_addField_21 rfl (lv_at hl 0 rfl) ?_
      refine va_get (D := D) (ci := 5) (v := .ref m1) (C := RX5) (T := TX5) (N := 20) hx hb hts in_wsX5_addField_X5 hown hK.1 hP 0 rfl rfl 1 (by decide) (hts _ lk329_wsX5_addField) (fun _ h9 => h9) rfl dX5_addField_22 ?_
      refine lv_iload_n hx hb dX5_addField_25 rfl (lv_at hl 1 rfl) ?_
      refine z_iald (v := nI (fc t)) hx hb hK.1 hP 1 0 rfl rfl (k := t) (by omega) (by decide) rfl dX5_addField_26 ?_
      refine lv_bipush (v := nI 8) hx hb dX5_addField_27 (by decide) ?_
      refine lv_icmp_ne (tgt := 36) hx hb dX5_addField_29 (by decide) (fun cb3 => ?_) (fun cb3 => ?_)
      · have cb3 : ¬ ((fc t) = 8) := zn_ne_f (a := (fc t)) (b := 8) (by omega) (by omega) cb3
        exact absurd (by omega) cb3
      · have cb3 : (fc t) = 8 := zn_ne_t (a := (fc t)) (b := 8) (by omega) (by omega) cb3
        refine lv_iconst (v := nI 2) hx hb dX5_addField_32 (by decide) ?_
        refine lv_goto (tgt := 37) hx hb dX5_addField_33 (by decide) ?_
        refine va_put (D := D) (ci := 5) (v := .int (nI 2)) (ty := .int) (C := RX5) (T := TX5) (N := 20) hx hb hts in_wsX5_addField_X5 tyX5 tyX5_ok nmX5 hown hK.1 hP hD hS 0 rfl rfl 0 (by decide) (hts _ lk331_wsX5_addField) (fun _ h9 => h9) rfl (by decide +kernel) rfl rfl (Nat.le_of_ble_eq_true rfl) dX5_addField_37 (fun H locs hP hD hS => ?_)
        have hP : va_P D vwCl [(M, .inr (5, [.int (nI 2), .ref m1, .ref m2, .ref m3, .ref m4, .ref m5, .int (nI fl), .int (nI qt), .int (nI nn), .ref m6, .ref m7, .ref m8, .ref m9, .ref m10, .ref m11, .ref m12, .ref m13, .ref m14, .ref m15, .int mam])), (m1, .inl (cy.1, 4, .inl (fun z => nI (fc z)))), (m2, .inl (cy.1, 32, .inl lm)), (m3, .inl (cy.2.1, 32, .inl (fun z => bI (rq z))))] H := hP
        have hD : va_D (zIn [(M, .inr (5, [.int thr, .ref m1, .ref m2, .ref m3, .ref m4, .ref m5, .int (nI fl), .int (nI qt), .int (nI nn), .ref m6, .ref m7, .ref m8, .ref m9, .ref m10, .ref m11, .ref m12, .ref m13, .ref m14, .ref m15, .int mam])), (m1, .inl (cy.1, 4, .inl (fun z => nI (fc z)))), (m2, .inl (cy.1, 32, .inl lm)), (m3, .inl (cy.2.1, 32, .inl (fun z => bI (rq z))))]) [(M, .inr (5, [.int (nI 2), .ref m1, .ref m2, .ref m3, .ref m4, .ref m5, .int (nI fl), .int (nI qt), .int (nI nn), .ref m6, .ref m7, .ref m8, .ref m9, .ref m10, .ref m11, .ref m12, .ref m13, .ref m14, .ref m15, .int mam])), (m1, .inl (cy.1, 4, .inl (fun z => nI (fc z)))), (m2, .inl (cy.1, 32, .inl lm)), (m3, .inl (cy.2.1, 32, .inl (fun z => bI (rq z))))] := hD
        refine lv_aload_n hx hb dX5_addField_40 rfl (lv_at hl 0 rfl) ?_
        refine va_get (D := D) (ci := 5) (v := .int (nI 2)) (C := RX5) (T := TX5) (N := 20) hx hb hts in_wsX5_addField_X5 hown hK.1 hP 0 rfl rfl 0 (by decide) (hts _ lk331_wsX5_addField) (fun _ h9 => h9) rfl dX5_addField_41 ?_
        refine lv_if_le (tgt := 49) hx hb dX5_addField_44 (by decide) (fun cb4 => ?_) (fun cb4 => ?_)
        · have cb4 : 2 ≤ 0 := zn_le_t (a := 2) (b := 0) (by omega) (by omega) cb4
          exact absurd cb4 (by decide)
        · have cb4 : ¬ (2 ≤ 0) := zn_le_f (a := 2) (b := 0) (by omega) (by omega) cb4
          refine lv_iconst (v := nI 0) hx hb dX5_addField_47 (by decide) ?_
          exact z_iretW () hx hb hr hlocks hS dX5_addField_48 hP trivial
    · have cb2 : (decide (lo = -1 ∨ inN 4 lo)) = false := bI_t0 cb2
      exact absurd hlo (of_decide_eq_false cb2)
theorem k_yX5_isService : yX5_isService.cls ≠ "java/lang/invoke/MethodHandle" ∧ yX5_isService.cls ≠ "java/lang/invoke/VarHandle" ∧ (parseMethodDescriptor yX5_isService.desc).map (fun d => d.parameters.length) = some 1 := by decide +kernel
theorem k_yX5_isField : yX5_isField.cls = RX5 ∧ yX5_isField.cls ≠ "java/lang/invoke/MethodHandle" ∧ yX5_isField.cls ≠ "java/lang/invoke/VarHandle" ∧ (parseMethodDescriptor yX5_isField.desc).map (fun d => d.parameters.length) = some 2 := by decide +kernel
set_option maxRecDepth 20000 in
theorem lk336_wsX5_own : Cond.fieldLink RX5 56 "QueryGatewayModel" "thrown" "I" ∈ wsX5_own := by decide +kernel
set_option maxRecDepth 20000 in
theorem in_wsX5_own_X5 : ∀ w ∈ wsX50, w ∈ wsX5_own := by decide +kernel
set_option maxRecDepth 20000 in
theorem lk338_wsX5_own : Cond.fieldLink RX5 20 "QueryGatewayModel" "owners" "[I" ∈ wsX5_own := by decide +kernel
abbrev rmX5_own : Room := { frames := 2, cells := 0, slots := 0, locals := 44 }
set_option maxHeartbeats 4000000 in
set_option maxRecDepth 100000 in
theorem c_X5_own_ok {l : Launch} {D : va_G} {cy : zCy} {M m1 m2 m3 m4 m5 m6 m7 m8 m9 m10 m11 m12 m13 m14 m15 nn qt fl : Nat} {thr mam : Int32} {fc ow : Nat → Nat} {v t f : Nat} (hv : v < 4) (ht : t < 4) (hf : f < fc t) (hf8 : fc t ≤ 8) (ho : ow (t * 8 + f) < 16) (b : Bool) : zW (Unit) l yX5_own wsX5_own rmX5_own D cy [(M, .inr (5, [.int thr, .ref m1, .ref m2, .ref m3, .ref m4, .ref m5, .int (nI fl), .int (nI qt), .int (nI nn), .ref m6, .ref m7, .ref m8, .ref m9, .ref m10, .ref m11, .ref m12, .ref m13, .ref m14, .ref m15, .int mam])), (m1, .inl (cy.1, 4, .inl (fun z => nI (fc z)))), (m4, .inl (cy.1, 32, .inl (fun z => nI (ow z))))] [.ref M, .int (nI v), .int (nI t), .int (nI f), .int (bI (b))] (fun r _ => r = bI ((ow (t * 8 + f)).testBit v)) (fun _ => [(M, .inr (5, [.int (nI 0), .ref m1, .ref m2, .ref m3, .ref m4, .ref m5, .int (nI fl), .int (nI qt), .int (nI nn), .ref m6, .ref m7, .ref m8, .ref m9, .ref m10, .ref m11, .ref m12, .ref m13, .ref m14, .ref m15, .int mam])), (m1, .inl (cy.1, 4, .inl (fun z => nI (fc z)))), (m4, .inl (cy.1, 32, .inl (fun z => nI (va_up ow (t * 8 + f) (zset b (ow (t * 8 + f)) v) z))))]) := by
  refine zW.of (cc := cX5_own) (maxL := 7) (ret := (some .boolean)) (by decide) rfl rfl ?_
  intro p e s m below meth c ls C hP hK hD hl
  obtain ⟨hx, hb, hr, hml, hts, hown, hlocks⟩ := C
  have hS : va_S (zIn [(M, .inr (5, [.int thr, .ref m1, .ref m2, .ref m3, .ref m4, .ref m5, .int (nI fl), .int (nI qt), .int (nI nn), .ref m6, .ref m7, .ref m8, .ref m9, .ref m10, .ref m11, .ref m12, .ref m13, .ref m14, .ref m15, .int mam])), (m1, .inl (cy.1, 4, .inl (fun z => nI (fc z)))), (m4, .inl (cy.1, 32, .inl (fun z => nI (ow z))))]) s.heap s.heap [] := va_S.rf
  have hl : lv_has ls 7 [(0, .ref M), (1, .int (nI v)), (2, .int (nI t)), (3, .int (nI f)), (4, .int (bI (b)))] := hl
  refine lv_aload_n hx hb dX5_own_0 rfl (lv_at hl 0 rfl) ?_
  refine lv_iload_n hx hb dX5_own_1 rfl (lv_at hl 1 rfl) ?_
  refine z_callS (As := [.int (nI v)]) (rest := [.ref M]) ⟨hx, hb, hml, hown, hts⟩ hK hP hS (c_X5_isService (x := nI v)) (va_cwS 1 hts gX5_own_X5_isService rfl rfl rfl k_yX5_isService ⟨Nat.le_of_ble_eq_true rfl, Nat.le_of_ble_eq_true rfl⟩) rfl hl.1 rfl rfl dX5_own_2 ⟨Nat.le_of_ble_eq_true rfl, Nat.le_of_ble_eq_true rfl⟩ (fun H locs hP hS => ?_)
  refine z_top (y := nI 1) (bI_in (by omega) (by omega)) ?_
  refine lv_if_eq (tgt := 15) hx hb dX5_own_5 (by decide) (fun cb1 => ?_) (fun cb1 => ?_)
  · have cb1 : 1 = 0 := zn_eq_t (a := 1) (b := 0) (by omega) (by omega) cb1
    exact absurd cb1 (by decide)
  · have cb1 : ¬ (1 = 0) := zn_eq_f (a := 1) (b := 0) (by omega) (by omega) cb1
    refine lv_iload_n hx hb dX5_own_8 rfl (lv_at hl 2 rfl) ?_
    refine z_callS (As := [.int (nI t)]) (rest := [.ref M]) ⟨hx, hb, hml, hown, hts⟩ hK hP hS (c_X5_isType (x := nI t)) (va_cwS 1 hts gX5_own_X5_isType rfl rfl rfl k_yX5_isType ⟨Nat.le_of_ble_eq_true rfl, Nat.le_of_ble_eq_true rfl⟩) rfl hl.1 rfl rfl dX5_own_9 ⟨Nat.le_of_ble_eq_true rfl, Nat.le_of_ble_eq_true rfl⟩ (fun H locs hP hS => ?_)
    refine z_top (y := nI 1) (bI_in (by omega) (by omega)) ?_
    refine lv_if_ne (tgt := 19) hx hb dX5_own_12 (by decide) (fun cb2 => ?_) (fun cb2 => ?_)
    · have cb2 : ¬ (1 = 0) := zn_ne_f (a := 1) (b := 0) (by omega) (by omega) cb2
      refine lv_aload_n hx hb dX5_own_19 rfl (lv_at hl 0 rfl) ?_
      refine lv_iload_n hx hb dX5_own_20 rfl (lv_at hl 2 rfl) ?_
      refine lv_iload_n hx hb dX5_own_21 rfl (lv_at hl 3 rfl) ?_
      refine z_callV (b := M) (As := [.int (nI t), .int (nI f)]) (rest := [.ref M]) ⟨hx, hb, hml, hown, hts⟩ hK hP hS (c_X5_isField (i := 0) (j1 := 1) rfl rfl (t := t) (by omega) hf8 (x := nI f)) (cwV 2 hts gX5_own_X5_isField rfl rfl rfl k_yX5_isField ⟨Nat.le_of_ble_eq_true rfl, Nat.le_of_ble_eq_true rfl⟩) 0 5 rfl rfl rfl rfl hl.1 rfl rfl dX5_own_22 ⟨Nat.le_of_ble_eq_true rfl, Nat.le_of_ble_eq_true rfl⟩ (fun H locs hP hS => ?_)
      refine z_top (y := nI 1) (bI_in (by omega) (by omega)) ?_
      refine lv_if_eq (tgt := 32) hx hb dX5_own_25 (by decide) (fun cb3 => ?_) (fun cb3 => ?_)
      · have cb3 : 1 = 0 := zn_eq_t (a := 1) (b := 0) (by omega) (by omega) cb3
        exact absurd cb3 (by decide)
      · have cb3 : ¬ (1 = 0) := zn_eq_f (a := 1) (b := 0) (by omega) (by omega) cb3
        refine lv_iconst (v := nI 0) hx hb dX5_own_28 (by decide) ?_
        refine lv_goto (tgt := 33) hx hb dX5_own_29 (by decide) ?_
        refine va_put (D := D) (ci := 5) (v := .int (nI 0)) (ty := .int) (C := RX5) (T := TX5) (N := 20) hx hb hts in_wsX5_own_X5 tyX5 tyX5_ok nmX5 hown hK.1 hP hD hS 0 rfl rfl 0 (by decide) (hts _ lk336_wsX5_own) (fun _ h9 => h9) rfl (by decide +kernel) rfl rfl (Nat.le_of_ble_eq_true rfl) dX5_own_33 (fun H locs hP hD hS => ?_)
        have hP : va_P D vwCl [(M, .inr (5, [.int (nI 0), .ref m1, .ref m2, .ref m3, .ref m4, .ref m5, .int (nI fl), .int (nI qt), .int (nI nn), .ref m6, .ref m7, .ref m8, .ref m9, .ref m10, .ref m11, .ref m12, .ref m13, .ref m14, .ref m15, .int mam])), (m1, .inl (cy.1, 4, .inl (fun z => nI (fc z)))), (m4, .inl (cy.1, 32, .inl (fun z => nI (ow z))))] H := hP
        have hD : va_D (zIn [(M, .inr (5, [.int thr, .ref m1, .ref m2, .ref m3, .ref m4, .ref m5, .int (nI fl), .int (nI qt), .int (nI nn), .ref m6, .ref m7, .ref m8, .ref m9, .ref m10, .ref m11, .ref m12, .ref m13, .ref m14, .ref m15, .int mam])), (m1, .inl (cy.1, 4, .inl (fun z => nI (fc z)))), (m4, .inl (cy.1, 32, .inl (fun z => nI (ow z))))]) [(M, .inr (5, [.int (nI 0), .ref m1, .ref m2, .ref m3, .ref m4, .ref m5, .int (nI fl), .int (nI qt), .int (nI nn), .ref m6, .ref m7, .ref m8, .ref m9, .ref m10, .ref m11, .ref m12, .ref m13, .ref m14, .ref m15, .int mam])), (m1, .inl (cy.1, 4, .inl (fun z => nI (fc z)))), (m4, .inl (cy.1, 32, .inl (fun z => nI (ow z))))] := hD
        refine lv_aload_n hx hb dX5_own_36 rfl (lv_at hl 0 rfl) ?_
        refine va_get (D := D) (ci := 5) (v := .int (nI 0)) (C := RX5) (T := TX5) (N := 20) hx hb hts in_wsX5_own_X5 hown hK.1 hP 0 rfl rfl 0 (by decide) (hts _ lk336_wsX5_own) (fun _ h9 => h9) rfl dX5_own_37 ?_
        refine lv_if_le (tgt := 45) hx hb dX5_own_40 (by decide) (fun cb4 => ?_) (fun cb4 => ?_)
        · have cb4 : 0 ≤ 0 := zn_le_t (a := 0) (b := 0) (by omega) (by omega) cb4
          refine lv_bipush (v := nI 8) hx hb dX5_own_45 (by decide) ?_
          refine lv_iload_n hx hb dX5_own_47 rfl (lv_at hl 2 rfl) ?_
          refine lv_imul hx hb dX5_own_48 ?_
          refine z_top (y := nI (8 * t)) (pk_mul _ _) ?_
          refine lv_iload_n hx hb dX5_own_49 rfl (lv_at hl 3 rfl) ?_
          refine lv_iadd hx hb dX5_own_50 ?_
          refine z_top (y := nI ((8 * t) + f)) (nI_add _ _) ?_
          refine lv_istore (lv' := [(5, .int (nI ((8 * t) + f))), (0, .ref M), (1, .int (nI v)), (2, .int (nI t)), (3, .int (nI f)), (4, .int (bI (b)))]) hx hb dX5_own_51 hl (by decide) rfl (fun ls hl => ?_)
          refine lv_aload_n hx hb dX5_own_53 rfl (lv_at hl 1 rfl) ?_
          refine va_get (D := D) (ci := 5) (v := .ref m4) (C := RX5) (T := TX5) (N := 20) hx hb hts in_wsX5_own_X5 hown hK.1 hP 0 rfl rfl 4 (by decide) (hts _ lk338_wsX5_own) (fun _ h9 => h9) rfl dX5_own_54 ?_
          refine lv_iload hx hb dX5_own_57 (lv_at hl 0 rfl) ?_
          refine z_iald (v := nI (ow (t * 8 + f))) hx hb hK.1 hP 2 0 rfl rfl (k := (8 * t) + f) (by omega) (by decide) (by show nI (ow (8 * t + f)) = _; rw [Nat.mul_comm]) dX5_own_59 ?_
          refine lv_istore (lv' := [(6, .int (nI (ow (t * 8 + f)))), (5, .int (nI ((8 * t) + f))), (0, .ref M), (1, .int (nI v)), (2, .int (nI t)), (3, .int (nI f)), (4, .int (bI (b)))]) hx hb dX5_own_60 hl (by decide) rfl (fun ls hl => ?_)
          refine lv_aload_n hx hb dX5_own_62 rfl (lv_at hl 2 rfl) ?_
          refine va_get (D := D) (ci := 5) (v := .ref m4) (C := RX5) (T := TX5) (N := 20) hx hb hts in_wsX5_own_X5 hown hK.1 hP 0 rfl rfl 4 (by decide) (hts _ lk338_wsX5_own) (fun _ h9 => h9) rfl dX5_own_63 ?_
          refine lv_iload hx hb dX5_own_66 (lv_at hl 1 rfl) ?_
          refine lv_iload hx hb dX5_own_68 (lv_at hl 6 rfl) ?_
          refine lv_if_eq (tgt := 82) hx hb dX5_own_70 (by decide) (fun cb5 => ?_) (fun cb5 => ?_)
          · have cb5 : (b) = false := bI_t0 cb5
            refine lv_iload hx hb dX5_own_82 (lv_at hl 0 rfl) ?_
            refine lv_iconst (v := nI 1) hx hb dX5_own_84 (by decide) ?_
            refine lv_iload_n hx hb dX5_own_85 rfl (lv_at hl 3 rfl) ?_
            refine lv_ishl hx hb dX5_own_86 ?_
            refine z_top (y := nI (2 ^ v)) (z_shl1 v (by omega)) ?_
            refine lv_iconst (v := (-1 : Int32)) hx hb dX5_own_87 (by decide) ?_
            refine lv_ixor hx hb dX5_own_88 ?_
            refine z_top (y := (nI (2 ^ v) ^^^ (-1 : Int32))) rfl ?_
            refine lv_iand hx hb dX5_own_89 ?_
            refine z_top (y := nI ((zset false (ow (t * 8 + f)) v))) (z_andn _ ho _ hv) ?_
            refine z_iast (g := fun z => nI (va_up ow (t * 8 + f) (zset b (ow (t * 8 + f)) v) z)) hx hb hK.1 hP hD hS 2 0 rfl rfl (k := (8 * t) + f) (by omega) (by decide) (fun z _ => by unfold upd va_up; rw [Nat.mul_comm 8 t, cb5]; split <;> rfl) dX5_own_90 (fun H locs hP hD hS => ?_)
            have hP : va_P D vwCl [(M, .inr (5, [.int (nI 0), .ref m1, .ref m2, .ref m3, .ref m4, .ref m5, .int (nI fl), .int (nI qt), .int (nI nn), .ref m6, .ref m7, .ref m8, .ref m9, .ref m10, .ref m11, .ref m12, .ref m13, .ref m14, .ref m15, .int mam])), (m1, .inl (cy.1, 4, .inl (fun z => nI (fc z)))), (m4, .inl (cy.1, 32, .inl (fun z => nI (va_up ow (t * 8 + f) (zset b (ow (t * 8 + f)) v) z))))] H := hP
            have hD : va_D (zIn [(M, .inr (5, [.int thr, .ref m1, .ref m2, .ref m3, .ref m4, .ref m5, .int (nI fl), .int (nI qt), .int (nI nn), .ref m6, .ref m7, .ref m8, .ref m9, .ref m10, .ref m11, .ref m12, .ref m13, .ref m14, .ref m15, .int mam])), (m1, .inl (cy.1, 4, .inl (fun z => nI (fc z)))), (m4, .inl (cy.1, 32, .inl (fun z => nI (ow z))))]) [(M, .inr (5, [.int (nI 0), .ref m1, .ref m2, .ref m3, .ref m4, .ref m5, .int (nI fl), .int (nI qt), .int (nI nn), .ref m6, .ref m7, .ref m8, .ref m9, .ref m10, .ref m11, .ref m12, .ref m13, .ref m14, .ref m15, .int mam])), (m1, .inl (cy.1, 4, .inl (fun z => nI (fc z)))), (m4, .inl (cy.1, 32, .inl (fun z => nI (va_up ow (t * 8 + f) (zset b (ow (t * 8 + f)) v) z))))] := hD
            refine lv_iload hx hb dX5_own_91 (lv_at hl 0 rfl) ?_
            refine lv_iload_n hx hb dX5_own_93 rfl (lv_at hl 3 rfl) ?_
            refine lv_ishr hx hb dX5_own_94 ?_
            refine z_top (y := (nI (ow (t * 8 + f)) >>> (nI v &&& 31))) rfl ?_
            refine lv_iconst (v := nI 1) hx hb dX5_own_95 (by decide) ?_
            refine lv_iand hx hb dX5_own_96 ?_
            refine z_top (y := bI ((ow (t * 8 + f)).testBit v)) (z_bit16 _ ho _ hv) ?_
            refine lv_iconst (v := nI 1) hx hb dX5_own_97 (by decide) ?_
            refine lv_icmp_ne (tgt := 105) hx hb dX5_own_98 (by decide) (fun cb6 => ?_) (fun cb6 => ?_)
            · have cb6 : ((ow (t * 8 + f)).testBit v) = false := bI_f1 cb6
              refine lv_iconst (v := nI 0) hx hb dX5_own_105 (by decide) ?_
              exact z_zretW () hx hb hr hlocks hS dX5_own_106 hP (by rw [cb6]; rfl) (by decide)
            · have cb6 : ((ow (t * 8 + f)).testBit v) = true := bI_t1 cb6
              refine lv_iconst (v := nI 1) hx hb dX5_own_101 (by decide) ?_
              refine lv_goto (tgt := 106) hx hb dX5_own_102 (by decide) ?_
              exact z_zretW () hx hb hr hlocks hS dX5_own_106 hP (by rw [cb6]; rfl) (by decide)
          · have cb5 : (b) = true := bI_f0 cb5
            refine lv_iload hx hb dX5_own_73 (lv_at hl 0 rfl) ?_
            refine lv_iconst (v := nI 1) hx hb dX5_own_75 (by decide) ?_
            refine lv_iload_n hx hb dX5_own_76 rfl (lv_at hl 3 rfl) ?_
            refine lv_ishl hx hb dX5_own_77 ?_
            refine z_top (y := nI (2 ^ v)) (z_shl1 v (by omega)) ?_
            refine lv_ior hx hb dX5_own_78 ?_
            refine z_top (y := nI ((ow (t * 8 + f) ||| 2 ^ v))) (nI_or _ _) ?_
            refine lv_goto (tgt := 90) hx hb dX5_own_79 (by decide) ?_
            refine z_iast (g := fun z => nI (va_up ow (t * 8 + f) (zset b (ow (t * 8 + f)) v) z)) hx hb hK.1 hP hD hS 2 0 rfl rfl (k := (8 * t) + f) (by omega) (by decide) (fun z _ => by unfold upd va_up; rw [Nat.mul_comm 8 t, cb5]; split <;> rfl) dX5_own_90 (fun H locs hP hD hS => ?_)
            have hP : va_P D vwCl [(M, .inr (5, [.int (nI 0), .ref m1, .ref m2, .ref m3, .ref m4, .ref m5, .int (nI fl), .int (nI qt), .int (nI nn), .ref m6, .ref m7, .ref m8, .ref m9, .ref m10, .ref m11, .ref m12, .ref m13, .ref m14, .ref m15, .int mam])), (m1, .inl (cy.1, 4, .inl (fun z => nI (fc z)))), (m4, .inl (cy.1, 32, .inl (fun z => nI (va_up ow (t * 8 + f) (zset b (ow (t * 8 + f)) v) z))))] H := hP
            have hD : va_D (zIn [(M, .inr (5, [.int thr, .ref m1, .ref m2, .ref m3, .ref m4, .ref m5, .int (nI fl), .int (nI qt), .int (nI nn), .ref m6, .ref m7, .ref m8, .ref m9, .ref m10, .ref m11, .ref m12, .ref m13, .ref m14, .ref m15, .int mam])), (m1, .inl (cy.1, 4, .inl (fun z => nI (fc z)))), (m4, .inl (cy.1, 32, .inl (fun z => nI (ow z))))]) [(M, .inr (5, [.int (nI 0), .ref m1, .ref m2, .ref m3, .ref m4, .ref m5, .int (nI fl), .int (nI qt), .int (nI nn), .ref m6, .ref m7, .ref m8, .ref m9, .ref m10, .ref m11, .ref m12, .ref m13, .ref m14, .ref m15, .int mam])), (m1, .inl (cy.1, 4, .inl (fun z => nI (fc z)))), (m4, .inl (cy.1, 32, .inl (fun z => nI (va_up ow (t * 8 + f) (zset b (ow (t * 8 + f)) v) z))))] := hD
            refine lv_iload hx hb dX5_own_91 (lv_at hl 0 rfl) ?_
            refine lv_iload_n hx hb dX5_own_93 rfl (lv_at hl 3 rfl) ?_
            refine lv_ishr hx hb dX5_own_94 ?_
            refine z_top (y := (nI (ow (t * 8 + f)) >>> (nI v &&& 31))) rfl ?_
            refine lv_iconst (v := nI 1) hx hb dX5_own_95 (by decide) ?_
            refine lv_iand hx hb dX5_own_96 ?_
            refine z_top (y := bI ((ow (t * 8 + f)).testBit v)) (z_bit16 _ ho _ hv) ?_
            refine lv_iconst (v := nI 1) hx hb dX5_own_97 (by decide) ?_
            refine lv_icmp_ne (tgt := 105) hx hb dX5_own_98 (by decide) (fun cb7 => ?_) (fun cb7 => ?_)
            · have cb7 : ((ow (t * 8 + f)).testBit v) = false := bI_f1 cb7
              refine lv_iconst (v := nI 0) hx hb dX5_own_105 (by decide) ?_
              exact z_zretW () hx hb hr hlocks hS dX5_own_106 hP (by rw [cb7]; rfl) (by decide)
            · have cb7 : ((ow (t * 8 + f)).testBit v) = true := bI_t1 cb7
              refine lv_iconst (v := nI 1) hx hb dX5_own_101 (by decide) ?_
              refine lv_goto (tgt := 106) hx hb dX5_own_102 (by decide) ?_
              exact z_zretW () hx hb hr hlocks hS dX5_own_106 hP (by rw [cb7]; rfl) (by decide)
        · have cb4 : ¬ (0 ≤ 0) := zn_le_f (a := 0) (b := 0) (by omega) (by omega) cb4
          exact absurd cb4 (by decide)
    · have cb2 : 1 = 0 := zn_ne_t (a := 1) (b := 0) (by omega) (by omega) cb2
      exact absurd cb2 (by decide)
set_option maxHeartbeats 4000000 in
set_option maxRecDepth 100000 in
theorem c_X5_own_badS {l : Launch} {D : va_G} {cy : zCy} {M m1 m2 m3 m4 m5 m6 m7 m8 m9 m10 m11 m12 m13 m14 m15 nn qt fl : Nat} {thr mam : Int32} {fc ow : Nat → Nat} {x y z : Int32} (hbad : ¬ inN 4 x) (b : Bool) : zW (Unit) l yX5_own wsX5_own rmX5_own D cy [(M, .inr (5, [.int thr, .ref m1, .ref m2, .ref m3, .ref m4, .ref m5, .int (nI fl), .int (nI qt), .int (nI nn), .ref m6, .ref m7, .ref m8, .ref m9, .ref m10, .ref m11, .ref m12, .ref m13, .ref m14, .ref m15, .int mam])), (m1, .inl (cy.1, 4, .inl (fun z => nI (fc z)))), (m4, .inl (cy.1, 32, .inl (fun z => nI (ow z))))] [.ref M, .int x, .int y, .int z, .int (bI (b))] (fun _ _ => True) (fun _ => [(M, .inr (5, [.int (nI 1), .ref m1, .ref m2, .ref m3, .ref m4, .ref m5, .int (nI fl), .int (nI qt), .int (nI nn), .ref m6, .ref m7, .ref m8, .ref m9, .ref m10, .ref m11, .ref m12, .ref m13, .ref m14, .ref m15, .int mam])), (m1, .inl (cy.1, 4, .inl (fun z => nI (fc z)))), (m4, .inl (cy.1, 32, .inl (fun z => nI (ow z))))]) := by
  refine zW.of (cc := cX5_own) (maxL := 7) (ret := (some .boolean)) (by decide) rfl rfl ?_
  intro p e s m below meth c ls C hP hK hD hl
  obtain ⟨hx, hb, hr, hml, hts, hown, hlocks⟩ := C
  have hS : va_S (zIn [(M, .inr (5, [.int thr, .ref m1, .ref m2, .ref m3, .ref m4, .ref m5, .int (nI fl), .int (nI qt), .int (nI nn), .ref m6, .ref m7, .ref m8, .ref m9, .ref m10, .ref m11, .ref m12, .ref m13, .ref m14, .ref m15, .int mam])), (m1, .inl (cy.1, 4, .inl (fun z => nI (fc z)))), (m4, .inl (cy.1, 32, .inl (fun z => nI (ow z))))]) s.heap s.heap [] := va_S.rf
  have hl : lv_has ls 7 [(0, .ref M), (1, .int x), (2, .int y), (3, .int z), (4, .int (bI (b)))] := hl
  refine lv_aload_n hx hb dX5_own_0 rfl (lv_at hl 0 rfl) ?_
  refine lv_iload_n hx hb dX5_own_1 rfl (lv_at hl 1 rfl) ?_
  refine z_callS (As := [.int x]) (rest := [.ref M]) ⟨hx, hb, hml, hown, hts⟩ hK hP hS (c_X5_isService (x := x)) (va_cwS 1 hts gX5_own_X5_isService rfl rfl rfl k_yX5_isService ⟨Nat.le_of_ble_eq_true rfl, Nat.le_of_ble_eq_true rfl⟩) rfl hl.1 rfl rfl dX5_own_2 ⟨Nat.le_of_ble_eq_true rfl, Nat.le_of_ble_eq_true rfl⟩ (fun H locs hP hS => ?_)
  refine lv_if_eq (tgt := 15) hx hb dX5_own_5 (by decide) (fun cb1 => ?_) (fun cb1 => ?_)
  · have cb1 : (decide (inN 4 x)) = false := bI_t0 cb1
    refine lv_iconst (v := nI 1) hx hb dX5_own_15 (by decide) ?_
    refine lv_goto (tgt := 33) hx hb dX5_own_16 (by decide) ?_
    refine va_put (D := D) (ci := 5) (v := .int (nI 1)) (ty := .int) (C := RX5) (T := TX5) (N := 20) hx hb hts in_wsX5_own_X5 tyX5 tyX5_ok nmX5 hown hK.1 hP hD hS 0 rfl rfl 0 (by decide) (hts _ lk336_wsX5_own) (fun _ h9 => h9) rfl (by decide +kernel) rfl rfl (Nat.le_of_ble_eq_true rfl) dX5_own_33 (fun H locs hP hD hS => ?_)
    have hP : va_P D vwCl [(M, .inr (5, [.int (nI 1), .ref m1, .ref m2, .ref m3, .ref m4, .ref m5, .int (nI fl), .int (nI qt), .int (nI nn), .ref m6, .ref m7, .ref m8, .ref m9, .ref m10, .ref m11, .ref m12, .ref m13, .ref m14, .ref m15, .int mam])), (m1, .inl (cy.1, 4, .inl (fun z => nI (fc z)))), (m4, .inl (cy.1, 32, .inl (fun z => nI (ow z))))] H := hP
    have hD : va_D (zIn [(M, .inr (5, [.int thr, .ref m1, .ref m2, .ref m3, .ref m4, .ref m5, .int (nI fl), .int (nI qt), .int (nI nn), .ref m6, .ref m7, .ref m8, .ref m9, .ref m10, .ref m11, .ref m12, .ref m13, .ref m14, .ref m15, .int mam])), (m1, .inl (cy.1, 4, .inl (fun z => nI (fc z)))), (m4, .inl (cy.1, 32, .inl (fun z => nI (ow z))))]) [(M, .inr (5, [.int (nI 1), .ref m1, .ref m2, .ref m3, .ref m4, .ref m5, .int (nI fl), .int (nI qt), .int (nI nn), .ref m6, .ref m7, .ref m8, .ref m9, .ref m10, .ref m11, .ref m12, .ref m13, .ref m14, .ref m15, .int mam])), (m1, .inl (cy.1, 4, .inl (fun z => nI (fc z)))), (m4, .inl (cy.1, 32, .inl (fun z => nI (ow z))))] := hD
    refine lv_aload_n hx hb dX5_own_36 rfl (lv_at hl 0 rfl) ?_
    refine va_get (D := D) (ci := 5) (v := .int (nI 1)) (C := RX5) (T := TX5) (N := 20) hx hb hts in_wsX5_own_X5 hown hK.1 hP 0 rfl rfl 0 (by decide) (hts _ lk336_wsX5_own) (fun _ h9 => h9) rfl dX5_own_37 ?_
    refine lv_if_le (tgt := 45) hx hb dX5_own_40 (by decide) (fun cb2 => ?_) (fun cb2 => ?_)
    · have cb2 : 1 ≤ 0 := zn_le_t (a := 1) (b := 0) (by omega) (by omega) cb2
      exact absurd cb2 (by decide)
    · have cb2 : ¬ (1 ≤ 0) := zn_le_f (a := 1) (b := 0) (by omega) (by omega) cb2
      refine lv_iconst (v := nI 0) hx hb dX5_own_43 (by decide) ?_
      exact z_zretW () hx hb hr hlocks hS dX5_own_44 hP trivial (by decide)
  · have cb1 : (decide (inN 4 x)) = true := bI_f0 cb1
    exact absurd (of_decide_eq_true cb1) hbad
set_option maxHeartbeats 4000000 in
set_option maxRecDepth 100000 in
theorem c_X5_own_badT {l : Launch} {D : va_G} {cy : zCy} {M m1 m2 m3 m4 m5 m6 m7 m8 m9 m10 m11 m12 m13 m14 m15 nn qt fl : Nat} {thr mam : Int32} {fc ow : Nat → Nat} {v : Nat} (hv : v < 4) {x z : Int32} (hbad : ¬ inN 4 x) (b : Bool) : zW (Unit) l yX5_own wsX5_own rmX5_own D cy [(M, .inr (5, [.int thr, .ref m1, .ref m2, .ref m3, .ref m4, .ref m5, .int (nI fl), .int (nI qt), .int (nI nn), .ref m6, .ref m7, .ref m8, .ref m9, .ref m10, .ref m11, .ref m12, .ref m13, .ref m14, .ref m15, .int mam])), (m1, .inl (cy.1, 4, .inl (fun z => nI (fc z)))), (m4, .inl (cy.1, 32, .inl (fun z => nI (ow z))))] [.ref M, .int (nI v), .int x, .int z, .int (bI (b))] (fun _ _ => True) (fun _ => [(M, .inr (5, [.int (nI 1), .ref m1, .ref m2, .ref m3, .ref m4, .ref m5, .int (nI fl), .int (nI qt), .int (nI nn), .ref m6, .ref m7, .ref m8, .ref m9, .ref m10, .ref m11, .ref m12, .ref m13, .ref m14, .ref m15, .int mam])), (m1, .inl (cy.1, 4, .inl (fun z => nI (fc z)))), (m4, .inl (cy.1, 32, .inl (fun z => nI (ow z))))]) := by
  refine zW.of (cc := cX5_own) (maxL := 7) (ret := (some .boolean)) (by decide) rfl rfl ?_
  intro p e s m below meth c ls C hP hK hD hl
  obtain ⟨hx, hb, hr, hml, hts, hown, hlocks⟩ := C
  have hS : va_S (zIn [(M, .inr (5, [.int thr, .ref m1, .ref m2, .ref m3, .ref m4, .ref m5, .int (nI fl), .int (nI qt), .int (nI nn), .ref m6, .ref m7, .ref m8, .ref m9, .ref m10, .ref m11, .ref m12, .ref m13, .ref m14, .ref m15, .int mam])), (m1, .inl (cy.1, 4, .inl (fun z => nI (fc z)))), (m4, .inl (cy.1, 32, .inl (fun z => nI (ow z))))]) s.heap s.heap [] := va_S.rf
  have hl : lv_has ls 7 [(0, .ref M), (1, .int (nI v)), (2, .int x), (3, .int z), (4, .int (bI (b)))] := hl
  refine lv_aload_n hx hb dX5_own_0 rfl (lv_at hl 0 rfl) ?_
  refine lv_iload_n hx hb dX5_own_1 rfl (lv_at hl 1 rfl) ?_
  refine z_callS (As := [.int (nI v)]) (rest := [.ref M]) ⟨hx, hb, hml, hown, hts⟩ hK hP hS (c_X5_isService (x := nI v)) (va_cwS 1 hts gX5_own_X5_isService rfl rfl rfl k_yX5_isService ⟨Nat.le_of_ble_eq_true rfl, Nat.le_of_ble_eq_true rfl⟩) rfl hl.1 rfl rfl dX5_own_2 ⟨Nat.le_of_ble_eq_true rfl, Nat.le_of_ble_eq_true rfl⟩ (fun H locs hP hS => ?_)
  refine z_top (y := nI 1) (bI_in (by omega) (by omega)) ?_
  refine lv_if_eq (tgt := 15) hx hb dX5_own_5 (by decide) (fun cb1 => ?_) (fun cb1 => ?_)
  · have cb1 : 1 = 0 := zn_eq_t (a := 1) (b := 0) (by omega) (by omega) cb1
    exact absurd cb1 (by decide)
  · have cb1 : ¬ (1 = 0) := zn_eq_f (a := 1) (b := 0) (by omega) (by omega) cb1
    refine lv_iload_n hx hb dX5_own_8 rfl (lv_at hl 2 rfl) ?_
    refine z_callS (As := [.int x]) (rest := [.ref M]) ⟨hx, hb, hml, hown, hts⟩ hK hP hS (c_X5_isType (x := x)) (va_cwS 1 hts gX5_own_X5_isType rfl rfl rfl k_yX5_isType ⟨Nat.le_of_ble_eq_true rfl, Nat.le_of_ble_eq_true rfl⟩) rfl hl.1 rfl rfl dX5_own_9 ⟨Nat.le_of_ble_eq_true rfl, Nat.le_of_ble_eq_true rfl⟩ (fun H locs hP hS => ?_)
    refine lv_if_ne (tgt := 19) hx hb dX5_own_12 (by decide) (fun cb2 => ?_) (fun cb2 => ?_)
    · have cb2 : (decide (inN 4 x)) = true := bI_f0 cb2
      exact absurd (of_decide_eq_true cb2) hbad
    · have cb2 : (decide (inN 4 x)) = false := bI_t0 cb2
      refine lv_iconst (v := nI 1) hx hb dX5_own_15 (by decide) ?_
      refine lv_goto (tgt := 33) hx hb dX5_own_16 (by decide) ?_
      refine va_put (D := D) (ci := 5) (v := .int (nI 1)) (ty := .int) (C := RX5) (T := TX5) (N := 20) hx hb hts in_wsX5_own_X5 tyX5 tyX5_ok nmX5 hown hK.1 hP hD hS 0 rfl rfl 0 (by decide) (hts _ lk336_wsX5_own) (fun _ h9 => h9) rfl (by decide +kernel) rfl rfl (Nat.le_of_ble_eq_true rfl) dX5_own_33 (fun H locs hP hD hS => ?_)
      have hP : va_P D vwCl [(M, .inr (5, [.int (nI 1), .ref m1, .ref m2, .ref m3, .ref m4, .ref m5, .int (nI fl), .int (nI qt), .int (nI nn), .ref m6, .ref m7, .ref m8, .ref m9, .ref m10, .ref m11, .ref m12, .ref m13, .ref m14, .ref m15, .int mam])), (m1, .inl (cy.1, 4, .inl (fun z => nI (fc z)))), (m4, .inl (cy.1, 32, .inl (fun z => nI (ow z))))] H := hP
      have hD : va_D (zIn [(M, .inr (5, [.int thr, .ref m1, .ref m2, .ref m3, .ref m4, .ref m5, .int (nI fl), .int (nI qt), .int (nI nn), .ref m6, .ref m7, .ref m8, .ref m9, .ref m10, .ref m11, .ref m12, .ref m13, .ref m14, .ref m15, .int mam])), (m1, .inl (cy.1, 4, .inl (fun z => nI (fc z)))), (m4, .inl (cy.1, 32, .inl (fun z => nI (ow z))))]) [(M, .inr (5, [.int (nI 1), .ref m1, .ref m2, .ref m3, .ref m4, .ref m5, .int (nI fl), .int (nI qt), .int (nI nn), .ref m6, .ref m7, .ref m8, .ref m9, .ref m10, .ref m11, .ref m12, .ref m13, .ref m14, .ref m15, .int mam])), (m1, .inl (cy.1, 4, .inl (fun z => nI (fc z)))), (m4, .inl (cy.1, 32, .inl (fun z => nI (ow z))))] := hD
      refine lv_aload_n hx hb dX5_own_36 rfl (lv_at hl 0 rfl) ?_
      refine va_get (D := D) (ci := 5) (v := .int (nI 1)) (C := RX5) (T := TX5) (N := 20) hx hb hts in_wsX5_own_X5 hown hK.1 hP 0 rfl rfl 0 (by decide) (hts _ lk336_wsX5_own) (fun _ h9 => h9) rfl dX5_own_37 ?_
      refine lv_if_le (tgt := 45) hx hb dX5_own_40 (by decide) (fun cb3 => ?_) (fun cb3 => ?_)
      · have cb3 : 1 ≤ 0 := zn_le_t (a := 1) (b := 0) (by omega) (by omega) cb3
        exact absurd cb3 (by decide)
      · have cb3 : ¬ (1 ≤ 0) := zn_le_f (a := 1) (b := 0) (by omega) (by omega) cb3
        refine lv_iconst (v := nI 0) hx hb dX5_own_43 (by decide) ?_
        exact z_zretW () hx hb hr hlocks hS dX5_own_44 hP trivial (by decide)
set_option maxHeartbeats 4000000 in
set_option maxRecDepth 100000 in
theorem c_X5_own_badF {l : Launch} {D : va_G} {cy : zCy} {M m1 m2 m3 m4 m5 m6 m7 m8 m9 m10 m11 m12 m13 m14 m15 nn qt fl : Nat} {thr mam : Int32} {fc ow : Nat → Nat} {v t : Nat} (hv : v < 4) (ht : t < 4) {x : Int32} (hbad : ¬ inN (fc t) x) (hf8 : fc t ≤ 8) (b : Bool) : zW (Unit) l yX5_own wsX5_own rmX5_own D cy [(M, .inr (5, [.int thr, .ref m1, .ref m2, .ref m3, .ref m4, .ref m5, .int (nI fl), .int (nI qt), .int (nI nn), .ref m6, .ref m7, .ref m8, .ref m9, .ref m10, .ref m11, .ref m12, .ref m13, .ref m14, .ref m15, .int mam])), (m1, .inl (cy.1, 4, .inl (fun z => nI (fc z)))), (m4, .inl (cy.1, 32, .inl (fun z => nI (ow z))))] [.ref M, .int (nI v), .int (nI t), .int x, .int (bI (b))] (fun _ _ => True) (fun _ => [(M, .inr (5, [.int (nI 2), .ref m1, .ref m2, .ref m3, .ref m4, .ref m5, .int (nI fl), .int (nI qt), .int (nI nn), .ref m6, .ref m7, .ref m8, .ref m9, .ref m10, .ref m11, .ref m12, .ref m13, .ref m14, .ref m15, .int mam])), (m1, .inl (cy.1, 4, .inl (fun z => nI (fc z)))), (m4, .inl (cy.1, 32, .inl (fun z => nI (ow z))))]) := by
  refine zW.of (cc := cX5_own) (maxL := 7) (ret := (some .boolean)) (by decide) rfl rfl ?_
  intro p e s m below meth c ls C hP hK hD hl
  obtain ⟨hx, hb, hr, hml, hts, hown, hlocks⟩ := C
  have hS : va_S (zIn [(M, .inr (5, [.int thr, .ref m1, .ref m2, .ref m3, .ref m4, .ref m5, .int (nI fl), .int (nI qt), .int (nI nn), .ref m6, .ref m7, .ref m8, .ref m9, .ref m10, .ref m11, .ref m12, .ref m13, .ref m14, .ref m15, .int mam])), (m1, .inl (cy.1, 4, .inl (fun z => nI (fc z)))), (m4, .inl (cy.1, 32, .inl (fun z => nI (ow z))))]) s.heap s.heap [] := va_S.rf
  have hl : lv_has ls 7 [(0, .ref M), (1, .int (nI v)), (2, .int (nI t)), (3, .int x), (4, .int (bI (b)))] := hl
  refine lv_aload_n hx hb dX5_own_0 rfl (lv_at hl 0 rfl) ?_
  refine lv_iload_n hx hb dX5_own_1 rfl (lv_at hl 1 rfl) ?_
  refine z_callS (As := [.int (nI v)]) (rest := [.ref M]) ⟨hx, hb, hml, hown, hts⟩ hK hP hS (c_X5_isService (x := nI v)) (va_cwS 1 hts gX5_own_X5_isService rfl rfl rfl k_yX5_isService ⟨Nat.le_of_ble_eq_true rfl, Nat.le_of_ble_eq_true rfl⟩) rfl hl.1 rfl rfl dX5_own_2 ⟨Nat.le_of_ble_eq_true rfl, Nat.le_of_ble_eq_true rfl⟩ (fun H locs hP hS => ?_)
  refine z_top (y := nI 1) (bI_in (by omega) (by omega)) ?_
  refine lv_if_eq (tgt := 15) hx hb dX5_own_5 (by decide) (fun cb1 => ?_) (fun cb1 => ?_)
  · have cb1 : 1 = 0 := zn_eq_t (a := 1) (b := 0) (by omega) (by omega) cb1
    exact absurd cb1 (by decide)
  · have cb1 : ¬ (1 = 0) := zn_eq_f (a := 1) (b := 0) (by omega) (by omega) cb1
    refine lv_iload_n hx hb dX5_own_8 rfl (lv_at hl 2 rfl) ?_
    refine z_callS (As := [.int (nI t)]) (rest := [.ref M]) ⟨hx, hb, hml, hown, hts⟩ hK hP hS (c_X5_isType (x := nI t)) (va_cwS 1 hts gX5_own_X5_isType rfl rfl rfl k_yX5_isType ⟨Nat.le_of_ble_eq_true rfl, Nat.le_of_ble_eq_true rfl⟩) rfl hl.1 rfl rfl dX5_own_9 ⟨Nat.le_of_ble_eq_true rfl, Nat.le_of_ble_eq_true rfl⟩ (fun H locs hP hS => ?_)
    refine z_top (y := nI 1) (bI_in (by omega) (by omega)) ?_
    refine lv_if_ne (tgt := 19) hx hb dX5_own_12 (by decide) (fun cb2 => ?_) (fun cb2 => ?_)
    · have cb2 : ¬ (1 = 0) := zn_ne_f (a := 1) (b := 0) (by omega) (by omega) cb2
      refine lv_aload_n hx hb dX5_own_19 rfl (lv_at hl 0 rfl) ?_
      refine lv_iload_n hx hb dX5_own_20 rfl (lv_at hl 2 rfl) ?_
      refine lv_iload_n hx hb dX5_own_21 rfl (lv_at hl 3 rfl) ?_
      refine z_callV (b := M) (As := [.int (nI t), .int x]) (rest := [.ref M]) ⟨hx, hb, hml, hown, hts⟩ hK hP hS (c_X5_isField (i := 0) (j1 := 1) rfl rfl (t := t) (by omega) hf8 (x := x)) (cwV 2 hts gX5_own_X5_isField rfl rfl rfl k_yX5_isField ⟨Nat.le_of_ble_eq_true rfl, Nat.le_of_ble_eq_true rfl⟩) 0 5 rfl rfl rfl rfl hl.1 rfl rfl dX5_own_22 ⟨Nat.le_of_ble_eq_true rfl, Nat.le_of_ble_eq_true rfl⟩ (fun H locs hP hS => ?_)
      refine lv_if_eq (tgt := 32) hx hb dX5_own_25 (by decide) (fun cb3 => ?_) (fun cb3 => ?_)
      · have cb3 : (decide (inN (fc t) x)) = false := bI_t0 cb3
        refine lv_iconst (v := nI 2) hx hb dX5_own_32 (by decide) ?_
        refine va_put (D := D) (ci := 5) (v := .int (nI 2)) (ty := .int) (C := RX5) (T := TX5) (N := 20) hx hb hts in_wsX5_own_X5 tyX5 tyX5_ok nmX5 hown hK.1 hP hD hS 0 rfl rfl 0 (by decide) (hts _ lk336_wsX5_own) (fun _ h9 => h9) rfl (by decide +kernel) rfl rfl (Nat.le_of_ble_eq_true rfl) dX5_own_33 (fun H locs hP hD hS => ?_)
        have hP : va_P D vwCl [(M, .inr (5, [.int (nI 2), .ref m1, .ref m2, .ref m3, .ref m4, .ref m5, .int (nI fl), .int (nI qt), .int (nI nn), .ref m6, .ref m7, .ref m8, .ref m9, .ref m10, .ref m11, .ref m12, .ref m13, .ref m14, .ref m15, .int mam])), (m1, .inl (cy.1, 4, .inl (fun z => nI (fc z)))), (m4, .inl (cy.1, 32, .inl (fun z => nI (ow z))))] H := hP
        have hD : va_D (zIn [(M, .inr (5, [.int thr, .ref m1, .ref m2, .ref m3, .ref m4, .ref m5, .int (nI fl), .int (nI qt), .int (nI nn), .ref m6, .ref m7, .ref m8, .ref m9, .ref m10, .ref m11, .ref m12, .ref m13, .ref m14, .ref m15, .int mam])), (m1, .inl (cy.1, 4, .inl (fun z => nI (fc z)))), (m4, .inl (cy.1, 32, .inl (fun z => nI (ow z))))]) [(M, .inr (5, [.int (nI 2), .ref m1, .ref m2, .ref m3, .ref m4, .ref m5, .int (nI fl), .int (nI qt), .int (nI nn), .ref m6, .ref m7, .ref m8, .ref m9, .ref m10, .ref m11, .ref m12, .ref m13, .ref m14, .ref m15, .int mam])), (m1, .inl (cy.1, 4, .inl (fun z => nI (fc z)))), (m4, .inl (cy.1, 32, .inl (fun z => nI (ow z))))] := hD
        refine lv_aload_n hx hb dX5_own_36 rfl (lv_at hl 0 rfl) ?_
        refine va_get (D := D) (ci := 5) (v := .int (nI 2)) (C := RX5) (T := TX5) (N := 20) hx hb hts in_wsX5_own_X5 hown hK.1 hP 0 rfl rfl 0 (by decide) (hts _ lk336_wsX5_own) (fun _ h9 => h9) rfl dX5_own_37 ?_
        refine lv_if_le (tgt := 45) hx hb dX5_own_40 (by decide) (fun cb4 => ?_) (fun cb4 => ?_)
        · have cb4 : 2 ≤ 0 := zn_le_t (a := 2) (b := 0) (by omega) (by omega) cb4
          exact absurd cb4 (by decide)
        · have cb4 : ¬ (2 ≤ 0) := zn_le_f (a := 2) (b := 0) (by omega) (by omega) cb4
          refine lv_iconst (v := nI 0) hx hb dX5_own_43 (by decide) ?_
          exact z_zretW () hx hb hr hlocks hS dX5_own_44 hP trivial (by decide)
      · have cb3 : (decide (inN (fc t) x)) = true := bI_f0 cb3
        exact absurd (of_decide_eq_true cb3) hbad
    · have cb2 : 1 = 0 := zn_ne_t (a := 1) (b := 0) (by omega) (by omega) cb2
      exact absurd cb2 (by decide)
theorem z_vread2 {vl : Nat → Nat → Int32} {t k f : Nat} (hk : k < 20) (hf : f < 8) : (fun z => vl (z / 160 * 8 + z % 8) (z % 160 / 8) + 1) (160 * t + 8 * k + f) = vl (t * 8 + f) k + 1 := by
  show vl ((160 * t + 8 * k + f) / 160 * 8 + (160 * t + 8 * k + f) % 8) ((160 * t + 8 * k + f) % 160 / 8) + 1 = _
  rw [show (160 * t + 8 * k + f) / 160 * 8 + (160 * t + 8 * k + f) % 8 = t * 8 + f by omega, show (160 * t + 8 * k + f) % 160 / 8 = k by omega]
theorem z_vwrite {vl : Nat → Nat → Int32} {t k f : Nat} {x : Int32} (hk : k < 20) (hf : f < 8) (z : Nat) : upd (fun z => vl (z / 160 * 8 + z % 8) (z % 160 / 8) + 1) (160 * t + 8 * k + f) (x + 1) z = zup2 vl (t * 8 + f) k x (z / 160 * 8 + z % 8) (z % 160 / 8) + 1 := by
  unfold upd zup2
  by_cases e : z = 160 * t + 8 * k + f
  · rw [if_pos e, if_pos (by omega)]
  · rw [if_neg e, if_neg (by omega)]
theorem k_yX5_isKey : yX5_isKey.cls ≠ "java/lang/invoke/MethodHandle" ∧ yX5_isKey.cls ≠ "java/lang/invoke/VarHandle" ∧ (parseMethodDescriptor yX5_isKey.desc).map (fun d => d.parameters.length) = some 1 := by decide +kernel
set_option maxRecDepth 20000 in
theorem lk340_wsX5_set : Cond.fieldLink RX5 56 "QueryGatewayModel" "thrown" "I" ∈ wsX5_set := by decide +kernel
set_option maxRecDepth 20000 in
theorem in_wsX5_set_X5 : ∀ w ∈ wsX50, w ∈ wsX5_set := by decide +kernel
set_option maxRecDepth 20000 in
theorem lk342_wsX5_set : Cond.fieldLink RX5 13 "QueryGatewayModel" "leads" "[I" ∈ wsX5_set := by decide +kernel
set_option maxRecDepth 20000 in
theorem lk343_wsX5_set : Cond.fieldLink RX5 23 "QueryGatewayModel" "values" "[I" ∈ wsX5_set := by decide +kernel
abbrev rmX5_set : Room := { frames := 2, cells := 0, slots := 0, locals := 44 }
set_option maxHeartbeats 4000000 in
set_option maxRecDepth 100000 in
theorem c_X5_set_ok {l : Launch} {D : va_G} {cy : zCy} {M m1 m2 m3 m4 m5 m6 m7 m8 m9 m10 m11 m12 m13 m14 m15 nn qt fl : Nat} {thr mam : Int32} {fc : Nat → Nat} {lm : Nat → Int32} {vl : Nat → Nat → Int32} {t k f : Nat} (ht : t < 4) (hk : k < 20) (hf : f < fc t) (hf8 : fc t ≤ 8) {x : Int32} (hx9 : (x = -1 ∨ inN (if lm (t * 8 + f) = -1 then 100 else 20) x)) : zW (Unit) l yX5_set wsX5_set rmX5_set D cy [(M, .inr (5, [.int thr, .ref m1, .ref m2, .ref m3, .ref m4, .ref m5, .int (nI fl), .int (nI qt), .int (nI nn), .ref m6, .ref m7, .ref m8, .ref m9, .ref m10, .ref m11, .ref m12, .ref m13, .ref m14, .ref m15, .int mam])), (m1, .inl (cy.1, 4, .inl (fun z => nI (fc z)))), (m2, .inl (cy.1, 32, .inl lm)), (m5, .inl (cy.1, 640, .inl (fun z => vl (z / 160 * 8 + z % 8) (z % 160 / 8) + 1)))] [.ref M, .int (nI t), .int (nI k), .int (nI f), .int x] (fun r _ => r = vl (t * 8 + f) k) (fun _ => [(M, .inr (5, [.int (nI 0), .ref m1, .ref m2, .ref m3, .ref m4, .ref m5, .int (nI fl), .int (nI qt), .int (nI nn), .ref m6, .ref m7, .ref m8, .ref m9, .ref m10, .ref m11, .ref m12, .ref m13, .ref m14, .ref m15, .int mam])), (m1, .inl (cy.1, 4, .inl (fun z => nI (fc z)))), (m2, .inl (cy.1, 32, .inl lm)), (m5, .inl (cy.1, 640, .inl (fun z => zup2 vl (t * 8 + f) k x (z / 160 * 8 + z % 8) (z % 160 / 8) + 1)))]) := by
  refine zW.of (cc := cX5_set) (maxL := 7) (ret := (some .int)) (by decide) rfl rfl ?_
  intro p e s m below meth c ls C hP hK hD hl
  obtain ⟨hx, hb, hr, hml, hts, hown, hlocks⟩ := C
  have hS : va_S (zIn [(M, .inr (5, [.int thr, .ref m1, .ref m2, .ref m3, .ref m4, .ref m5, .int (nI fl), .int (nI qt), .int (nI nn), .ref m6, .ref m7, .ref m8, .ref m9, .ref m10, .ref m11, .ref m12, .ref m13, .ref m14, .ref m15, .int mam])), (m1, .inl (cy.1, 4, .inl (fun z => nI (fc z)))), (m2, .inl (cy.1, 32, .inl lm)), (m5, .inl (cy.1, 640, .inl (fun z => vl (z / 160 * 8 + z % 8) (z % 160 / 8) + 1)))]) s.heap s.heap [] := va_S.rf
  have hl : lv_has ls 7 [(0, .ref M), (1, .int (nI t)), (2, .int (nI k)), (3, .int (nI f)), (4, .int x)] := hl
  refine lv_aload_n hx hb dX5_set_0 rfl (lv_at hl 0 rfl) ?_
  refine lv_iload_n hx hb dX5_set_1 rfl (lv_at hl 1 rfl) ?_
  refine z_callS (As := [.int (nI t)]) (rest := [.ref M]) ⟨hx, hb, hml, hown, hts⟩ hK hP hS (c_X5_isType (x := nI t)) (va_cwS 1 hts gX5_set_X5_isType rfl rfl rfl k_yX5_isType ⟨Nat.le_of_ble_eq_true rfl, Nat.le_of_ble_eq_true rfl⟩) rfl hl.1 rfl rfl dX5_set_2 ⟨Nat.le_of_ble_eq_true rfl, Nat.le_of_ble_eq_true rfl⟩ (fun H locs hP hS => ?_)
  refine z_top (y := nI 1) (bI_in (by omega) (by omega)) ?_
  refine lv_if_eq (tgt := 19) hx hb dX5_set_5 (by decide) (fun cb1 => ?_) (fun cb1 => ?_)
  · have cb1 : 1 = 0 := zn_eq_t (a := 1) (b := 0) (by omega) (by omega) cb1
    exact absurd cb1 (by decide)
  · have cb1 : ¬ (1 = 0) := zn_eq_f (a := 1) (b := 0) (by omega) (by omega) cb1
    refine lv_iload_n hx hb dX5_set_8 rfl (lv_at hl 2 rfl) ?_
    refine z_callS (As := [.int (nI k)]) (rest := [.ref M]) ⟨hx, hb, hml, hown, hts⟩ hK hP hS (c_X5_isKey (x := nI k)) (va_cwS 1 hts gX5_set_X5_isKey rfl rfl rfl k_yX5_isKey ⟨Nat.le_of_ble_eq_true rfl, Nat.le_of_ble_eq_true rfl⟩) rfl hl.1 rfl rfl dX5_set_9 ⟨Nat.le_of_ble_eq_true rfl, Nat.le_of_ble_eq_true rfl⟩ (fun H locs hP hS => ?_)
    refine z_top (y := nI 1) (bI_in (by omega) (by omega)) ?_
    refine lv_if_eq (tgt := 19) hx hb dX5_set_12 (by decide) (fun cb2 => ?_) (fun cb2 => ?_)
    · have cb2 : 1 = 0 := zn_eq_t (a := 1) (b := 0) (by omega) (by omega) cb2
      exact absurd cb2 (by decide)
    · have cb2 : ¬ (1 = 0) := zn_eq_f (a := 1) (b := 0) (by omega) (by omega) cb2
      refine lv_iconst (v := nI 0) hx hb dX5_set_15 (by decide) ?_
      refine lv_goto (tgt := 20) hx hb dX5_set_16 (by decide) ?_
      refine va_put (D := D) (ci := 5) (v := .int (nI 0)) (ty := .int) (C := RX5) (T := TX5) (N := 20) hx hb hts in_wsX5_set_X5 tyX5 tyX5_ok nmX5 hown hK.1 hP hD hS 0 rfl rfl 0 (by decide) (hts _ lk340_wsX5_set) (fun _ h9 => h9) rfl (by decide +kernel) rfl rfl (Nat.le_of_ble_eq_true rfl) dX5_set_20 (fun H locs hP hD hS => ?_)
      have hP : va_P D vwCl [(M, .inr (5, [.int (nI 0), .ref m1, .ref m2, .ref m3, .ref m4, .ref m5, .int (nI fl), .int (nI qt), .int (nI nn), .ref m6, .ref m7, .ref m8, .ref m9, .ref m10, .ref m11, .ref m12, .ref m13, .ref m14, .ref m15, .int mam])), (m1, .inl (cy.1, 4, .inl (fun z => nI (fc z)))), (m2, .inl (cy.1, 32, .inl lm)), (m5, .inl (cy.1, 640, .inl (fun z => vl (z / 160 * 8 + z % 8) (z % 160 / 8) + 1)))] H := hP
      have hD : va_D (zIn [(M, .inr (5, [.int thr, .ref m1, .ref m2, .ref m3, .ref m4, .ref m5, .int (nI fl), .int (nI qt), .int (nI nn), .ref m6, .ref m7, .ref m8, .ref m9, .ref m10, .ref m11, .ref m12, .ref m13, .ref m14, .ref m15, .int mam])), (m1, .inl (cy.1, 4, .inl (fun z => nI (fc z)))), (m2, .inl (cy.1, 32, .inl lm)), (m5, .inl (cy.1, 640, .inl (fun z => vl (z / 160 * 8 + z % 8) (z % 160 / 8) + 1)))]) [(M, .inr (5, [.int (nI 0), .ref m1, .ref m2, .ref m3, .ref m4, .ref m5, .int (nI fl), .int (nI qt), .int (nI nn), .ref m6, .ref m7, .ref m8, .ref m9, .ref m10, .ref m11, .ref m12, .ref m13, .ref m14, .ref m15, .int mam])), (m1, .inl (cy.1, 4, .inl (fun z => nI (fc z)))), (m2, .inl (cy.1, 32, .inl lm)), (m5, .inl (cy.1, 640, .inl (fun z => vl (z / 160 * 8 + z % 8) (z % 160 / 8) + 1)))] := hD
      refine lv_aload_n hx hb dX5_set_23 rfl (lv_at hl 0 rfl) ?_
      refine va_get (D := D) (ci := 5) (v := .int (nI 0)) (C := RX5) (T := TX5) (N := 20) hx hb hts in_wsX5_set_X5 hown hK.1 hP 0 rfl rfl 0 (by decide) (hts _ lk340_wsX5_set) (fun _ h9 => h9) rfl dX5_set_24 ?_
      refine lv_if_ne (tgt := 44) hx hb dX5_set_27 (by decide) (fun cb3 => ?_) (fun cb3 => ?_)
      · have cb3 : ¬ (0 = 0) := zn_ne_f (a := 0) (b := 0) (by omega) (by omega) cb3
        exact absurd cb3 (by decide)
      · have cb3 : 0 = 0 := zn_ne_t (a := 0) (b := 0) (by omega) (by omega) cb3
        refine lv_aload_n hx hb dX5_set_30 rfl (lv_at hl 0 rfl) ?_
        refine lv_iload_n hx hb dX5_set_31 rfl (lv_at hl 1 rfl) ?_
        refine lv_iload_n hx hb dX5_set_32 rfl (lv_at hl 3 rfl) ?_
        refine z_callV (b := M) (As := [.int (nI t), .int (nI f)]) (rest := []) ⟨hx, hb, hml, hown, hts⟩ hK hP hS (c_X5_isField (i := 0) (j1 := 1) rfl rfl (t := t) (by omega) hf8 (x := nI f)) (cwV 2 hts gX5_set_X5_isField rfl rfl rfl k_yX5_isField ⟨Nat.le_of_ble_eq_true rfl, Nat.le_of_ble_eq_true rfl⟩) 0 5 rfl rfl rfl rfl hl.1 rfl rfl dX5_set_33 ⟨Nat.le_of_ble_eq_true rfl, Nat.le_of_ble_eq_true rfl⟩ (fun H locs hP hS => ?_)
        refine z_top (y := nI 1) (bI_in (by omega) (by omega)) ?_
        refine lv_if_ne (tgt := 44) hx hb dX5_set_36 (by decide) (fun cb4 => ?_) (fun cb4 => ?_)
        · have cb4 : ¬ (1 = 0) := zn_ne_f (a := 1) (b := 0) (by omega) (by omega) cb4
          refine lv_aload_n hx hb dX5_set_44 rfl (lv_at hl 0 rfl) ?_
          refine va_get (D := D) (ci := 5) (v := .int (nI 0)) (C := RX5) (T := TX5) (N := 20) hx hb hts in_wsX5_set_X5 hown hK.1 hP 0 rfl rfl 0 (by decide) (hts _ lk340_wsX5_set) (fun _ h9 => h9) rfl dX5_set_45 ?_
          refine lv_if_ne (tgt := 95) hx hb dX5_set_48 (by decide) (fun cb5 => ?_) (fun cb5 => ?_)
          · have cb5 : ¬ (0 = 0) := zn_ne_f (a := 0) (b := 0) (by omega) (by omega) cb5
            exact absurd cb5 (by decide)
          · have cb5 : 0 = 0 := zn_ne_t (a := 0) (b := 0) (by omega) (by omega) cb5
            refine lv_aload_n hx hb dX5_set_51 rfl (lv_at hl 0 rfl) ?_
            refine va_get (D := D) (ci := 5) (v := .ref m2) (C := RX5) (T := TX5) (N := 20) hx hb hts in_wsX5_set_X5 hown hK.1 hP 0 rfl rfl 2 (by decide) (hts _ lk342_wsX5_set) (fun _ h9 => h9) rfl dX5_set_52 ?_
            refine lv_bipush (v := nI 8) hx hb dX5_set_55 (by decide) ?_
            refine lv_iload_n hx hb dX5_set_57 rfl (lv_at hl 1 rfl) ?_
            refine lv_imul hx hb dX5_set_58 ?_
            refine z_top (y := nI (8 * t)) (pk_mul _ _) ?_
            refine lv_iload_n hx hb dX5_set_59 rfl (lv_at hl 3 rfl) ?_
            refine lv_iadd hx hb dX5_set_60 ?_
            refine z_top (y := nI ((8 * t) + f)) (nI_add _ _) ?_
            refine z_iald (v := (lm (t * 8 + f))) hx hb hK.1 hP 2 0 rfl rfl (k := (8 * t) + f) (by omega) (by decide) (by rw [Nat.mul_comm]) dX5_set_61 ?_
            refine lv_iconst (v := (-1 : Int32)) hx hb dX5_set_62 (by decide) ?_
            refine lv_icmp_ne (tgt := 71) hx hb dX5_set_63 (by decide) (fun cb6 => ?_) (fun cb6 => ?_)
            · skip
              rw [if_neg cb6] at hx9
              refine lv_bipush (v := nI 19) hx hb dX5_set_71 (by decide) ?_
              refine lv_istore (lv' := [(5, .int (nI 19)), (0, .ref M), (1, .int (nI t)), (2, .int (nI k)), (3, .int (nI f)), (4, .int x)]) hx hb dX5_set_73 hl (by decide) rfl (fun ls hl => ?_)
              refine lv_aload_n hx hb dX5_set_75 rfl (lv_at hl 1 rfl) ?_
              refine lv_iload hx hb dX5_set_76 (lv_at hl 5 rfl) ?_
              refine lv_iconst (v := (-1 : Int32)) hx hb dX5_set_78 (by decide) ?_
              refine lv_iload hx hb dX5_set_79 (lv_at hl 0 rfl) ?_
              refine z_callS (As := [.int x, .int ((-1 : Int32)), .int (nI 19)]) (rest := [.ref M]) ⟨hx, hb, hml, hown, hts⟩ hK hP hS (c_X5_in (v := x) (lo := -1) (hi := nI 19)) (va_cwS 3 hts gX5_set_X5_in rfl rfl rfl k_yX5_in ⟨Nat.le_of_ble_eq_true rfl, Nat.le_of_ble_eq_true rfl⟩) rfl hl.1 rfl rfl dX5_set_81 ⟨Nat.le_of_ble_eq_true rfl, Nat.le_of_ble_eq_true rfl⟩ (fun H locs hP hS => ?_)
              refine z_top (y := bI (decide (x = -1 ∨ inN 20 x))) (congrArg bI (decide_eq_decide.mpr (zin2 (by decide)))) ?_
              refine lv_if_eq (tgt := 91) hx hb dX5_set_84 (by decide) (fun cb7 => ?_) (fun cb7 => ?_)
              · have cb7 : (decide (x = -1 ∨ inN 20 x)) = false := bI_t0 cb7
                exact absurd hx9 (of_decide_eq_false cb7)
              · have cb7 : (decide (x = -1 ∨ inN 20 x)) = true := bI_f0 cb7
                refine lv_iconst (v := nI 0) hx hb dX5_set_87 (by decide) ?_
                refine lv_goto (tgt := 92) hx hb dX5_set_88 (by decide) ?_
                refine va_put (D := D) (ci := 5) (v := .int (nI 0)) (ty := .int) (C := RX5) (T := TX5) (N := 20) hx hb hts in_wsX5_set_X5 tyX5 tyX5_ok nmX5 hown hK.1 hP hD hS 0 rfl rfl 0 (by decide) (hts _ lk340_wsX5_set) (fun _ h9 => h9) rfl (by decide +kernel) rfl rfl (Nat.le_of_ble_eq_true rfl) dX5_set_92 (fun H locs hP hD hS => ?_)
                have hP : va_P D vwCl [(M, .inr (5, [.int (nI 0), .ref m1, .ref m2, .ref m3, .ref m4, .ref m5, .int (nI fl), .int (nI qt), .int (nI nn), .ref m6, .ref m7, .ref m8, .ref m9, .ref m10, .ref m11, .ref m12, .ref m13, .ref m14, .ref m15, .int mam])), (m1, .inl (cy.1, 4, .inl (fun z => nI (fc z)))), (m2, .inl (cy.1, 32, .inl lm)), (m5, .inl (cy.1, 640, .inl (fun z => vl (z / 160 * 8 + z % 8) (z % 160 / 8) + 1)))] H := hP
                have hD : va_D (zIn [(M, .inr (5, [.int thr, .ref m1, .ref m2, .ref m3, .ref m4, .ref m5, .int (nI fl), .int (nI qt), .int (nI nn), .ref m6, .ref m7, .ref m8, .ref m9, .ref m10, .ref m11, .ref m12, .ref m13, .ref m14, .ref m15, .int mam])), (m1, .inl (cy.1, 4, .inl (fun z => nI (fc z)))), (m2, .inl (cy.1, 32, .inl lm)), (m5, .inl (cy.1, 640, .inl (fun z => vl (z / 160 * 8 + z % 8) (z % 160 / 8) + 1)))]) [(M, .inr (5, [.int (nI 0), .ref m1, .ref m2, .ref m3, .ref m4, .ref m5, .int (nI fl), .int (nI qt), .int (nI nn), .ref m6, .ref m7, .ref m8, .ref m9, .ref m10, .ref m11, .ref m12, .ref m13, .ref m14, .ref m15, .int mam])), (m1, .inl (cy.1, 4, .inl (fun z => nI (fc z)))), (m2, .inl (cy.1, 32, .inl lm)), (m5, .inl (cy.1, 640, .inl (fun z => vl (z / 160 * 8 + z % 8) (z % 160 / 8) + 1)))] := hD
                refine lv_aload_n hx hb dX5_set_95 rfl (lv_at hl 1 rfl) ?_
                refine va_get (D := D) (ci := 5) (v := .int (nI 0)) (C := RX5) (T := TX5) (N := 20) hx hb hts in_wsX5_set_X5 hown hK.1 hP 0 rfl rfl 0 (by decide) (hts _ lk340_wsX5_set) (fun _ h9 => h9) rfl dX5_set_96 ?_
                refine lv_if_le (tgt := 104) hx hb dX5_set_99 (by decide) (fun cb8 => ?_) (fun cb8 => ?_)
                · have cb8 : 0 ≤ 0 := zn_le_t (a := 0) (b := 0) (by omega) (by omega) cb8
                  refine lv_sipush (v := nI 160) hx hb dX5_set_104 (by decide) ?_
                  refine lv_iload_n hx hb dX5_set_107 rfl (lv_at hl 2 rfl) ?_
                  refine lv_imul hx hb dX5_set_108 ?_
                  refine z_top (y := nI (160 * t)) (pk_mul _ _) ?_
                  refine lv_bipush (v := nI 8) hx hb dX5_set_109 (by decide) ?_
                  refine lv_iload_n hx hb dX5_set_111 rfl (lv_at hl 3 rfl) ?_
                  refine lv_imul hx hb dX5_set_112 ?_
                  refine z_top (y := nI (8 * k)) (pk_mul _ _) ?_
                  refine lv_iadd hx hb dX5_set_113 ?_
                  refine z_top (y := nI ((160 * t) + (8 * k))) (nI_add _ _) ?_
                  refine lv_iload_n hx hb dX5_set_114 rfl (lv_at hl 4 rfl) ?_
                  refine lv_iadd hx hb dX5_set_115 ?_
                  refine z_top (y := nI (((160 * t) + (8 * k)) + f)) (nI_add _ _) ?_
                  refine lv_istore (lv' := [(5, .int (nI (((160 * t) + (8 * k)) + f))), (0, .ref M), (1, .int (nI t)), (2, .int (nI k)), (3, .int (nI f)), (4, .int x)]) hx hb dX5_set_116 hl (by decide) rfl (fun ls hl => ?_)
                  refine lv_aload_n hx hb dX5_set_118 rfl (lv_at hl 1 rfl) ?_
                  refine va_get (D := D) (ci := 5) (v := .ref m5) (C := RX5) (T := TX5) (N := 20) hx hb hts in_wsX5_set_X5 hown hK.1 hP 0 rfl rfl 5 (by decide) (hts _ lk343_wsX5_set) (fun _ h9 => h9) rfl dX5_set_119 ?_
                  refine lv_iload hx hb dX5_set_122 (lv_at hl 0 rfl) ?_
                  refine z_iald (v := (vl (t * 8 + f) k + 1)) hx hb hK.1 hP 3 0 rfl rfl (k := ((160 * t) + (8 * k)) + f) (by omega) (by decide) (z_vread2 hk (by omega)) dX5_set_124 ?_
                  refine lv_iconst (v := nI 1) hx hb dX5_set_125 (by decide) ?_
                  refine lv_isub hx hb dX5_set_126 ?_
                  refine z_top (y := (vl (t * 8 + f) k)) (z_add1 _) ?_
                  refine lv_istore (lv' := [(6, .int ((vl (t * 8 + f) k))), (5, .int (nI (((160 * t) + (8 * k)) + f))), (0, .ref M), (1, .int (nI t)), (2, .int (nI k)), (3, .int (nI f)), (4, .int x)]) hx hb dX5_set_127 hl (by decide) rfl (fun ls hl => ?_)
                  refine lv_aload_n hx hb dX5_set_129 rfl (lv_at hl 2 rfl) ?_
                  refine va_get (D := D) (ci := 5) (v := .ref m5) (C := RX5) (T := TX5) (N := 20) hx hb hts in_wsX5_set_X5 hown hK.1 hP 0 rfl rfl 5 (by decide) (hts _ lk343_wsX5_set) (fun _ h9 => h9) rfl dX5_set_130 ?_
                  refine lv_iload hx hb dX5_set_133 (lv_at hl 1 rfl) ?_
                  refine lv_iload hx hb dX5_set_135 (lv_at hl 6 rfl) ?_
                  refine lv_iconst (v := nI 1) hx hb dX5_set_137 (by decide) ?_
                  refine lv_iadd hx hb dX5_set_138 ?_
                  refine z_top (y := (x + 1)) rfl ?_
                  refine z_iast (g := fun z => zup2 vl (t * 8 + f) k x (z / 160 * 8 + z % 8) (z % 160 / 8) + 1) hx hb hK.1 hP hD hS 3 0 rfl rfl (k := ((160 * t) + (8 * k)) + f) (by omega) (by decide) (fun z _ => z_vwrite hk (by omega) z) dX5_set_139 (fun H locs hP hD hS => ?_)
                  have hP : va_P D vwCl [(M, .inr (5, [.int (nI 0), .ref m1, .ref m2, .ref m3, .ref m4, .ref m5, .int (nI fl), .int (nI qt), .int (nI nn), .ref m6, .ref m7, .ref m8, .ref m9, .ref m10, .ref m11, .ref m12, .ref m13, .ref m14, .ref m15, .int mam])), (m1, .inl (cy.1, 4, .inl (fun z => nI (fc z)))), (m2, .inl (cy.1, 32, .inl lm)), (m5, .inl (cy.1, 640, .inl (fun z => zup2 vl (t * 8 + f) k x (z / 160 * 8 + z % 8) (z % 160 / 8) + 1)))] H := hP
                  have hD : va_D (zIn [(M, .inr (5, [.int thr, .ref m1, .ref m2, .ref m3, .ref m4, .ref m5, .int (nI fl), .int (nI qt), .int (nI nn), .ref m6, .ref m7, .ref m8, .ref m9, .ref m10, .ref m11, .ref m12, .ref m13, .ref m14, .ref m15, .int mam])), (m1, .inl (cy.1, 4, .inl (fun z => nI (fc z)))), (m2, .inl (cy.1, 32, .inl lm)), (m5, .inl (cy.1, 640, .inl (fun z => vl (z / 160 * 8 + z % 8) (z % 160 / 8) + 1)))]) [(M, .inr (5, [.int (nI 0), .ref m1, .ref m2, .ref m3, .ref m4, .ref m5, .int (nI fl), .int (nI qt), .int (nI nn), .ref m6, .ref m7, .ref m8, .ref m9, .ref m10, .ref m11, .ref m12, .ref m13, .ref m14, .ref m15, .int mam])), (m1, .inl (cy.1, 4, .inl (fun z => nI (fc z)))), (m2, .inl (cy.1, 32, .inl lm)), (m5, .inl (cy.1, 640, .inl (fun z => zup2 vl (t * 8 + f) k x (z / 160 * 8 + z % 8) (z % 160 / 8) + 1)))] := hD
                  refine lv_iload hx hb dX5_set_140 (lv_at hl 0 rfl) ?_
                  exact z_iretW () hx hb hr hlocks hS dX5_set_142 hP rfl
                · have cb8 : ¬ (0 ≤ 0) := zn_le_f (a := 0) (b := 0) (by omega) (by omega) cb8
                  exact absurd cb8 (by decide)
            · skip
              rw [if_pos cb6] at hx9
              refine lv_bipush (v := nI 99) hx hb dX5_set_66 (by decide) ?_
              refine lv_goto (tgt := 73) hx hb dX5_set_68 (by decide) ?_
              refine lv_istore (lv' := [(5, .int (nI 99)), (0, .ref M), (1, .int (nI t)), (2, .int (nI k)), (3, .int (nI f)), (4, .int x)]) hx hb dX5_set_73 hl (by decide) rfl (fun ls hl => ?_)
              refine lv_aload_n hx hb dX5_set_75 rfl (lv_at hl 1 rfl) ?_
              refine lv_iload hx hb dX5_set_76 (lv_at hl 5 rfl) ?_
              refine lv_iconst (v := (-1 : Int32)) hx hb dX5_set_78 (by decide) ?_
              refine lv_iload hx hb dX5_set_79 (lv_at hl 0 rfl) ?_
              refine z_callS (As := [.int x, .int ((-1 : Int32)), .int (nI 99)]) (rest := [.ref M]) ⟨hx, hb, hml, hown, hts⟩ hK hP hS (c_X5_in (v := x) (lo := -1) (hi := nI 99)) (va_cwS 3 hts gX5_set_X5_in rfl rfl rfl k_yX5_in ⟨Nat.le_of_ble_eq_true rfl, Nat.le_of_ble_eq_true rfl⟩) rfl hl.1 rfl rfl dX5_set_81 ⟨Nat.le_of_ble_eq_true rfl, Nat.le_of_ble_eq_true rfl⟩ (fun H locs hP hS => ?_)
              refine z_top (y := bI (decide (x = -1 ∨ inN 100 x))) (congrArg bI (decide_eq_decide.mpr (zin2 (by decide)))) ?_
              refine lv_if_eq (tgt := 91) hx hb dX5_set_84 (by decide) (fun cb9 => ?_) (fun cb9 => ?_)
              · have cb9 : (decide (x = -1 ∨ inN 100 x)) = false := bI_t0 cb9
                exact absurd hx9 (of_decide_eq_false cb9)
              · have cb9 : (decide (x = -1 ∨ inN 100 x)) = true := bI_f0 cb9
                refine lv_iconst (v := nI 0) hx hb dX5_set_87 (by decide) ?_
                refine lv_goto (tgt := 92) hx hb dX5_set_88 (by decide) ?_
                refine va_put (D := D) (ci := 5) (v := .int (nI 0)) (ty := .int) (C := RX5) (T := TX5) (N := 20) hx hb hts in_wsX5_set_X5 tyX5 tyX5_ok nmX5 hown hK.1 hP hD hS 0 rfl rfl 0 (by decide) (hts _ lk340_wsX5_set) (fun _ h9 => h9) rfl (by decide +kernel) rfl rfl (Nat.le_of_ble_eq_true rfl) dX5_set_92 (fun H locs hP hD hS => ?_)
                have hP : va_P D vwCl [(M, .inr (5, [.int (nI 0), .ref m1, .ref m2, .ref m3, .ref m4, .ref m5, .int (nI fl), .int (nI qt), .int (nI nn), .ref m6, .ref m7, .ref m8, .ref m9, .ref m10, .ref m11, .ref m12, .ref m13, .ref m14, .ref m15, .int mam])), (m1, .inl (cy.1, 4, .inl (fun z => nI (fc z)))), (m2, .inl (cy.1, 32, .inl lm)), (m5, .inl (cy.1, 640, .inl (fun z => vl (z / 160 * 8 + z % 8) (z % 160 / 8) + 1)))] H := hP
                have hD : va_D (zIn [(M, .inr (5, [.int thr, .ref m1, .ref m2, .ref m3, .ref m4, .ref m5, .int (nI fl), .int (nI qt), .int (nI nn), .ref m6, .ref m7, .ref m8, .ref m9, .ref m10, .ref m11, .ref m12, .ref m13, .ref m14, .ref m15, .int mam])), (m1, .inl (cy.1, 4, .inl (fun z => nI (fc z)))), (m2, .inl (cy.1, 32, .inl lm)), (m5, .inl (cy.1, 640, .inl (fun z => vl (z / 160 * 8 + z % 8) (z % 160 / 8) + 1)))]) [(M, .inr (5, [.int (nI 0), .ref m1, .ref m2, .ref m3, .ref m4, .ref m5, .int (nI fl), .int (nI qt), .int (nI nn), .ref m6, .ref m7, .ref m8, .ref m9, .ref m10, .ref m11, .ref m12, .ref m13, .ref m14, .ref m15, .int mam])), (m1, .inl (cy.1, 4, .inl (fun z => nI (fc z)))), (m2, .inl (cy.1, 32, .inl lm)), (m5, .inl (cy.1, 640, .inl (fun z => vl (z / 160 * 8 + z % 8) (z % 160 / 8) + 1)))] := hD
                refine lv_aload_n hx hb dX5_set_95 rfl (lv_at hl 1 rfl) ?_
                refine va_get (D := D) (ci := 5) (v := .int (nI 0)) (C := RX5) (T := TX5) (N := 20) hx hb hts in_wsX5_set_X5 hown hK.1 hP 0 rfl rfl 0 (by decide) (hts _ lk340_wsX5_set) (fun _ h9 => h9) rfl dX5_set_96 ?_
                refine lv_if_le (tgt := 104) hx hb dX5_set_99 (by decide) (fun cb10 => ?_) (fun cb10 => ?_)
                · have cb10 : 0 ≤ 0 := zn_le_t (a := 0) (b := 0) (by omega) (by omega) cb10
                  refine lv_sipush (v := nI 160) hx hb dX5_set_104 (by decide) ?_
                  refine lv_iload_n hx hb dX5_set_107 rfl (lv_at hl 2 rfl) ?_
                  refine lv_imul hx hb dX5_set_108 ?_
                  refine z_top (y := nI (160 * t)) (pk_mul _ _) ?_
                  refine lv_bipush (v := nI 8) hx hb dX5_set_109 (by decide) ?_
                  refine lv_iload_n hx hb dX5_set_111 rfl (lv_at hl 3 rfl) ?_
                  refine lv_imul hx hb dX5_set_112 ?_
                  refine z_top (y := nI (8 * k)) (pk_mul _ _) ?_
                  refine lv_iadd hx hb dX5_set_113 ?_
                  refine z_top (y := nI ((160 * t) + (8 * k))) (nI_add _ _) ?_
                  refine lv_iload_n hx hb dX5_set_114 rfl (lv_at hl 4 rfl) ?_
                  refine lv_iadd hx hb dX5_set_115 ?_
                  refine z_top (y := nI (((160 * t) + (8 * k)) + f)) (nI_add _ _) ?_
                  refine lv_istore (lv' := [(5, .int (nI (((160 * t) + (8 * k)) + f))), (0, .ref M), (1, .int (nI t)), (2, .int (nI k)), (3, .int (nI f)), (4, .int x)]) hx hb dX5_set_116 hl (by decide) rfl (fun ls hl => ?_)
                  refine lv_aload_n hx hb dX5_set_118 rfl (lv_at hl 1 rfl) ?_
                  refine va_get (D := D) (ci := 5) (v := .ref m5) (C := RX5) (T := TX5) (N := 20) hx hb hts in_wsX5_set_X5 hown hK.1 hP 0 rfl rfl 5 (by decide) (hts _ lk343_wsX5_set) (fun _ h9 => h9) rfl dX5_set_119 ?_
                  refine lv_iload hx hb dX5_set_122 (lv_at hl 0 rfl) ?_
                  refine z_iald (v := (vl (t * 8 + f) k + 1)) hx hb hK.1 hP 3 0 rfl rfl (k := ((160 * t) + (8 * k)) + f) (by omega) (by decide) (z_vread2 hk (by omega)) dX5_set_124 ?_
                  refine lv_iconst (v := nI 1) hx hb dX5_set_125 (by decide) ?_
                  refine lv_isub hx hb dX5_set_126 ?_
                  refine z_top (y := (vl (t * 8 + f) k)) (z_add1 _) ?_
                  refine lv_istore (lv' := [(6, .int ((vl (t * 8 + f) k))), (5, .int (nI (((160 * t) + (8 * k)) + f))), (0, .ref M), (1, .int (nI t)), (2, .int (nI k)), (3, .int (nI f)), (4, .int x)]) hx hb dX5_set_127 hl (by decide) rfl (fun ls hl => ?_)
                  refine lv_aload_n hx hb dX5_set_129 rfl (lv_at hl 2 rfl) ?_
                  refine va_get (D := D) (ci := 5) (v := .ref m5) (C := RX5) (T := TX5) (N := 20) hx hb hts in_wsX5_set_X5 hown hK.1 hP 0 rfl rfl 5 (by decide) (hts _ lk343_wsX5_set) (fun _ h9 => h9) rfl dX5_set_130 ?_
                  refine lv_iload hx hb dX5_set_133 (lv_at hl 1 rfl) ?_
                  refine lv_iload hx hb dX5_set_135 (lv_at hl 6 rfl) ?_
                  refine lv_iconst (v := nI 1) hx hb dX5_set_137 (by decide) ?_
                  refine lv_iadd hx hb dX5_set_138 ?_
                  refine z_top (y := (x + 1)) rfl ?_
                  refine z_iast (g := fun z => zup2 vl (t * 8 + f) k x (z / 160 * 8 + z % 8) (z % 160 / 8) + 1) hx hb hK.1 hP hD hS 3 0 rfl rfl (k := ((160 * t) + (8 * k)) + f) (by omega) (by decide) (fun z _ => z_vwrite hk (by omega) z) dX5_set_139 (fun H locs hP hD hS => ?_)
                  have hP : va_P D vwCl [(M, .inr (5, [.int (nI 0), .ref m1, .ref m2, .ref m3, .ref m4, .ref m5, .int (nI fl), .int (nI qt), .int (nI nn), .ref m6, .ref m7, .ref m8, .ref m9, .ref m10, .ref m11, .ref m12, .ref m13, .ref m14, .ref m15, .int mam])), (m1, .inl (cy.1, 4, .inl (fun z => nI (fc z)))), (m2, .inl (cy.1, 32, .inl lm)), (m5, .inl (cy.1, 640, .inl (fun z => zup2 vl (t * 8 + f) k x (z / 160 * 8 + z % 8) (z % 160 / 8) + 1)))] H := hP
                  have hD : va_D (zIn [(M, .inr (5, [.int thr, .ref m1, .ref m2, .ref m3, .ref m4, .ref m5, .int (nI fl), .int (nI qt), .int (nI nn), .ref m6, .ref m7, .ref m8, .ref m9, .ref m10, .ref m11, .ref m12, .ref m13, .ref m14, .ref m15, .int mam])), (m1, .inl (cy.1, 4, .inl (fun z => nI (fc z)))), (m2, .inl (cy.1, 32, .inl lm)), (m5, .inl (cy.1, 640, .inl (fun z => vl (z / 160 * 8 + z % 8) (z % 160 / 8) + 1)))]) [(M, .inr (5, [.int (nI 0), .ref m1, .ref m2, .ref m3, .ref m4, .ref m5, .int (nI fl), .int (nI qt), .int (nI nn), .ref m6, .ref m7, .ref m8, .ref m9, .ref m10, .ref m11, .ref m12, .ref m13, .ref m14, .ref m15, .int mam])), (m1, .inl (cy.1, 4, .inl (fun z => nI (fc z)))), (m2, .inl (cy.1, 32, .inl lm)), (m5, .inl (cy.1, 640, .inl (fun z => zup2 vl (t * 8 + f) k x (z / 160 * 8 + z % 8) (z % 160 / 8) + 1)))] := hD
                  refine lv_iload hx hb dX5_set_140 (lv_at hl 0 rfl) ?_
                  exact z_iretW () hx hb hr hlocks hS dX5_set_142 hP rfl
                · have cb10 : ¬ (0 ≤ 0) := zn_le_f (a := 0) (b := 0) (by omega) (by omega) cb10
                  exact absurd cb10 (by decide)
        · have cb4 : 1 = 0 := zn_ne_t (a := 1) (b := 0) (by omega) (by omega) cb4
          exact absurd cb4 (by decide)
set_option maxHeartbeats 4000000 in
set_option maxRecDepth 100000 in
theorem c_X5_set_badT {l : Launch} {D : va_G} {cy : zCy} {M m1 m2 m3 m4 m5 m6 m7 m8 m9 m10 m11 m12 m13 m14 m15 nn qt fl : Nat} {thr mam : Int32} {fc : Nat → Nat} {lm : Nat → Int32} {vl : Nat → Nat → Int32} {x y z u : Int32} (hbad : ¬ inN 4 x) : zW (Unit) l yX5_set wsX5_set rmX5_set D cy [(M, .inr (5, [.int thr, .ref m1, .ref m2, .ref m3, .ref m4, .ref m5, .int (nI fl), .int (nI qt), .int (nI nn), .ref m6, .ref m7, .ref m8, .ref m9, .ref m10, .ref m11, .ref m12, .ref m13, .ref m14, .ref m15, .int mam])), (m1, .inl (cy.1, 4, .inl (fun z => nI (fc z)))), (m2, .inl (cy.1, 32, .inl lm)), (m5, .inl (cy.1, 640, .inl (fun z => vl (z / 160 * 8 + z % 8) (z % 160 / 8) + 1)))] [.ref M, .int x, .int y, .int z, .int u] (fun _ _ => True) (fun _ => [(M, .inr (5, [.int (nI 1), .ref m1, .ref m2, .ref m3, .ref m4, .ref m5, .int (nI fl), .int (nI qt), .int (nI nn), .ref m6, .ref m7, .ref m8, .ref m9, .ref m10, .ref m11, .ref m12, .ref m13, .ref m14, .ref m15, .int mam])), (m1, .inl (cy.1, 4, .inl (fun z => nI (fc z)))), (m2, .inl (cy.1, 32, .inl lm)), (m5, .inl (cy.1, 640, .inl (fun z => vl (z / 160 * 8 + z % 8) (z % 160 / 8) + 1)))]) := by
  refine zW.of (cc := cX5_set) (maxL := 7) (ret := (some .int)) (by decide) rfl rfl ?_
  intro p e s m below meth c ls C hP hK hD hl
  obtain ⟨hx, hb, hr, hml, hts, hown, hlocks⟩ := C
  have hS : va_S (zIn [(M, .inr (5, [.int thr, .ref m1, .ref m2, .ref m3, .ref m4, .ref m5, .int (nI fl), .int (nI qt), .int (nI nn), .ref m6, .ref m7, .ref m8, .ref m9, .ref m10, .ref m11, .ref m12, .ref m13, .ref m14, .ref m15, .int mam])), (m1, .inl (cy.1, 4, .inl (fun z => nI (fc z)))), (m2, .inl (cy.1, 32, .inl lm)), (m5, .inl (cy.1, 640, .inl (fun z => vl (z / 160 * 8 + z % 8) (z % 160 / 8) + 1)))]) s.heap s.heap [] := va_S.rf
  have hl : lv_has ls 7 [(0, .ref M), (1, .int x), (2, .int y), (3, .int z), (4, .int u)] := hl
  refine lv_aload_n hx hb dX5_set_0 rfl (lv_at hl 0 rfl) ?_
  refine lv_iload_n hx hb dX5_set_1 rfl (lv_at hl 1 rfl) ?_
  refine z_callS (As := [.int x]) (rest := [.ref M]) ⟨hx, hb, hml, hown, hts⟩ hK hP hS (c_X5_isType (x := x)) (va_cwS 1 hts gX5_set_X5_isType rfl rfl rfl k_yX5_isType ⟨Nat.le_of_ble_eq_true rfl, Nat.le_of_ble_eq_true rfl⟩) rfl hl.1 rfl rfl dX5_set_2 ⟨Nat.le_of_ble_eq_true rfl, Nat.le_of_ble_eq_true rfl⟩ (fun H locs hP hS => ?_)
  refine lv_if_eq (tgt := 19) hx hb dX5_set_5 (by decide) (fun cb1 => ?_) (fun cb1 => ?_)
  · have cb1 : (decide (inN 4 x)) = false := bI_t0 cb1
    refine lv_iconst (v := nI 1) hx hb dX5_set_19 (by decide) ?_
    refine va_put (D := D) (ci := 5) (v := .int (nI 1)) (ty := .int) (C := RX5) (T := TX5) (N := 20) hx hb hts in_wsX5_set_X5 tyX5 tyX5_ok nmX5 hown hK.1 hP hD hS 0 rfl rfl 0 (by decide) (hts _ lk340_wsX5_set) (fun _ h9 => h9) rfl (by decide +kernel) rfl rfl (Nat.le_of_ble_eq_true rfl) dX5_set_20 (fun H locs hP hD hS => ?_)
    have hP : va_P D vwCl [(M, .inr (5, [.int (nI 1), .ref m1, .ref m2, .ref m3, .ref m4, .ref m5, .int (nI fl), .int (nI qt), .int (nI nn), .ref m6, .ref m7, .ref m8, .ref m9, .ref m10, .ref m11, .ref m12, .ref m13, .ref m14, .ref m15, .int mam])), (m1, .inl (cy.1, 4, .inl (fun z => nI (fc z)))), (m2, .inl (cy.1, 32, .inl lm)), (m5, .inl (cy.1, 640, .inl (fun z => vl (z / 160 * 8 + z % 8) (z % 160 / 8) + 1)))] H := hP
    have hD : va_D (zIn [(M, .inr (5, [.int thr, .ref m1, .ref m2, .ref m3, .ref m4, .ref m5, .int (nI fl), .int (nI qt), .int (nI nn), .ref m6, .ref m7, .ref m8, .ref m9, .ref m10, .ref m11, .ref m12, .ref m13, .ref m14, .ref m15, .int mam])), (m1, .inl (cy.1, 4, .inl (fun z => nI (fc z)))), (m2, .inl (cy.1, 32, .inl lm)), (m5, .inl (cy.1, 640, .inl (fun z => vl (z / 160 * 8 + z % 8) (z % 160 / 8) + 1)))]) [(M, .inr (5, [.int (nI 1), .ref m1, .ref m2, .ref m3, .ref m4, .ref m5, .int (nI fl), .int (nI qt), .int (nI nn), .ref m6, .ref m7, .ref m8, .ref m9, .ref m10, .ref m11, .ref m12, .ref m13, .ref m14, .ref m15, .int mam])), (m1, .inl (cy.1, 4, .inl (fun z => nI (fc z)))), (m2, .inl (cy.1, 32, .inl lm)), (m5, .inl (cy.1, 640, .inl (fun z => vl (z / 160 * 8 + z % 8) (z % 160 / 8) + 1)))] := hD
    refine lv_aload_n hx hb dX5_set_23 rfl (lv_at hl 0 rfl) ?_
    refine va_get (D := D) (ci := 5) (v := .int (nI 1)) (C := RX5) (T := TX5) (N := 20) hx hb hts in_wsX5_set_X5 hown hK.1 hP 0 rfl rfl 0 (by decide) (hts _ lk340_wsX5_set) (fun _ h9 => h9) rfl dX5_set_24 ?_
    refine lv_if_ne (tgt := 44) hx hb dX5_set_27 (by decide) (fun cb2 => ?_) (fun cb2 => ?_)
    · have cb2 : ¬ (1 = 0) := zn_ne_f (a := 1) (b := 0) (by omega) (by omega) cb2
      refine lv_aload_n hx hb dX5_set_44 rfl (lv_at hl 0 rfl) ?_
      refine va_get (D := D) (ci := 5) (v := .int (nI 1)) (C := RX5) (T := TX5) (N := 20) hx hb hts in_wsX5_set_X5 hown hK.1 hP 0 rfl rfl 0 (by decide) (hts _ lk340_wsX5_set) (fun _ h9 => h9) rfl dX5_set_45 ?_
      refine lv_if_ne (tgt := 95) hx hb dX5_set_48 (by decide) (fun cb3 => ?_) (fun cb3 => ?_)
      · have cb3 : ¬ (1 = 0) := zn_ne_f (a := 1) (b := 0) (by omega) (by omega) cb3
        refine lv_aload_n hx hb dX5_set_95 rfl (lv_at hl 0 rfl) ?_
        refine va_get (D := D) (ci := 5) (v := .int (nI 1)) (C := RX5) (T := TX5) (N := 20) hx hb hts in_wsX5_set_X5 hown hK.1 hP 0 rfl rfl 0 (by decide) (hts _ lk340_wsX5_set) (fun _ h9 => h9) rfl dX5_set_96 ?_
        refine lv_if_le (tgt := 104) hx hb dX5_set_99 (by decide) (fun cb4 => ?_) (fun cb4 => ?_)
        · have cb4 : 1 ≤ 0 := zn_le_t (a := 1) (b := 0) (by omega) (by omega) cb4
          exact absurd cb4 (by decide)
        · have cb4 : ¬ (1 ≤ 0) := zn_le_f (a := 1) (b := 0) (by omega) (by omega) cb4
          refine lv_iconst (v := nI 0) hx hb dX5_set_102 (by decide) ?_
          exact z_iretW () hx hb hr hlocks hS dX5_set_103 hP trivial
      · have cb3 : 1 = 0 := zn_ne_t (a := 1) (b := 0) (by omega) (by omega) cb3
        exact absurd cb3 (by decide)
    · have cb2 : 1 = 0 := zn_ne_t (a := 1) (b := 0) (by omega) (by omega) cb2
      exact absurd cb2 (by decide)
  · have cb1 : (decide (inN 4 x)) = true := bI_f0 cb1
    exact absurd (of_decide_eq_true cb1) hbad
set_option maxHeartbeats 4000000 in
set_option maxRecDepth 100000 in
theorem c_X5_set_badK {l : Launch} {D : va_G} {cy : zCy} {M m1 m2 m3 m4 m5 m6 m7 m8 m9 m10 m11 m12 m13 m14 m15 nn qt fl : Nat} {thr mam : Int32} {fc : Nat → Nat} {lm : Nat → Int32} {vl : Nat → Nat → Int32} {t : Nat} (ht : t < 4) {x z u : Int32} (hbad : ¬ inN 20 x) : zW (Unit) l yX5_set wsX5_set rmX5_set D cy [(M, .inr (5, [.int thr, .ref m1, .ref m2, .ref m3, .ref m4, .ref m5, .int (nI fl), .int (nI qt), .int (nI nn), .ref m6, .ref m7, .ref m8, .ref m9, .ref m10, .ref m11, .ref m12, .ref m13, .ref m14, .ref m15, .int mam])), (m1, .inl (cy.1, 4, .inl (fun z => nI (fc z)))), (m2, .inl (cy.1, 32, .inl lm)), (m5, .inl (cy.1, 640, .inl (fun z => vl (z / 160 * 8 + z % 8) (z % 160 / 8) + 1)))] [.ref M, .int (nI t), .int x, .int z, .int u] (fun _ _ => True) (fun _ => [(M, .inr (5, [.int (nI 1), .ref m1, .ref m2, .ref m3, .ref m4, .ref m5, .int (nI fl), .int (nI qt), .int (nI nn), .ref m6, .ref m7, .ref m8, .ref m9, .ref m10, .ref m11, .ref m12, .ref m13, .ref m14, .ref m15, .int mam])), (m1, .inl (cy.1, 4, .inl (fun z => nI (fc z)))), (m2, .inl (cy.1, 32, .inl lm)), (m5, .inl (cy.1, 640, .inl (fun z => vl (z / 160 * 8 + z % 8) (z % 160 / 8) + 1)))]) := by
  refine zW.of (cc := cX5_set) (maxL := 7) (ret := (some .int)) (by decide) rfl rfl ?_
  intro p e s m below meth c ls C hP hK hD hl
  obtain ⟨hx, hb, hr, hml, hts, hown, hlocks⟩ := C
  have hS : va_S (zIn [(M, .inr (5, [.int thr, .ref m1, .ref m2, .ref m3, .ref m4, .ref m5, .int (nI fl), .int (nI qt), .int (nI nn), .ref m6, .ref m7, .ref m8, .ref m9, .ref m10, .ref m11, .ref m12, .ref m13, .ref m14, .ref m15, .int mam])), (m1, .inl (cy.1, 4, .inl (fun z => nI (fc z)))), (m2, .inl (cy.1, 32, .inl lm)), (m5, .inl (cy.1, 640, .inl (fun z => vl (z / 160 * 8 + z % 8) (z % 160 / 8) + 1)))]) s.heap s.heap [] := va_S.rf
  have hl : lv_has ls 7 [(0, .ref M), (1, .int (nI t)), (2, .int x), (3, .int z), (4, .int u)] := hl
  refine lv_aload_n hx hb dX5_set_0 rfl (lv_at hl 0 rfl) ?_
  refine lv_iload_n hx hb dX5_set_1 rfl (lv_at hl 1 rfl) ?_
  refine z_callS (As := [.int (nI t)]) (rest := [.ref M]) ⟨hx, hb, hml, hown, hts⟩ hK hP hS (c_X5_isType (x := nI t)) (va_cwS 1 hts gX5_set_X5_isType rfl rfl rfl k_yX5_isType ⟨Nat.le_of_ble_eq_true rfl, Nat.le_of_ble_eq_true rfl⟩) rfl hl.1 rfl rfl dX5_set_2 ⟨Nat.le_of_ble_eq_true rfl, Nat.le_of_ble_eq_true rfl⟩ (fun H locs hP hS => ?_)
  refine z_top (y := nI 1) (bI_in (by omega) (by omega)) ?_
  refine lv_if_eq (tgt := 19) hx hb dX5_set_5 (by decide) (fun cb1 => ?_) (fun cb1 => ?_)
  · have cb1 : 1 = 0 := zn_eq_t (a := 1) (b := 0) (by omega) (by omega) cb1
    exact absurd cb1 (by decide)
  · have cb1 : ¬ (1 = 0) := zn_eq_f (a := 1) (b := 0) (by omega) (by omega) cb1
    refine lv_iload_n hx hb dX5_set_8 rfl (lv_at hl 2 rfl) ?_
    refine z_callS (As := [.int x]) (rest := [.ref M]) ⟨hx, hb, hml, hown, hts⟩ hK hP hS (c_X5_isKey (x := x)) (va_cwS 1 hts gX5_set_X5_isKey rfl rfl rfl k_yX5_isKey ⟨Nat.le_of_ble_eq_true rfl, Nat.le_of_ble_eq_true rfl⟩) rfl hl.1 rfl rfl dX5_set_9 ⟨Nat.le_of_ble_eq_true rfl, Nat.le_of_ble_eq_true rfl⟩ (fun H locs hP hS => ?_)
    refine lv_if_eq (tgt := 19) hx hb dX5_set_12 (by decide) (fun cb2 => ?_) (fun cb2 => ?_)
    · have cb2 : (decide (inN 20 x)) = false := bI_t0 cb2
      refine lv_iconst (v := nI 1) hx hb dX5_set_19 (by decide) ?_
      refine va_put (D := D) (ci := 5) (v := .int (nI 1)) (ty := .int) (C := RX5) (T := TX5) (N := 20) hx hb hts in_wsX5_set_X5 tyX5 tyX5_ok nmX5 hown hK.1 hP hD hS 0 rfl rfl 0 (by decide) (hts _ lk340_wsX5_set) (fun _ h9 => h9) rfl (by decide +kernel) rfl rfl (Nat.le_of_ble_eq_true rfl) dX5_set_20 (fun H locs hP hD hS => ?_)
      have hP : va_P D vwCl [(M, .inr (5, [.int (nI 1), .ref m1, .ref m2, .ref m3, .ref m4, .ref m5, .int (nI fl), .int (nI qt), .int (nI nn), .ref m6, .ref m7, .ref m8, .ref m9, .ref m10, .ref m11, .ref m12, .ref m13, .ref m14, .ref m15, .int mam])), (m1, .inl (cy.1, 4, .inl (fun z => nI (fc z)))), (m2, .inl (cy.1, 32, .inl lm)), (m5, .inl (cy.1, 640, .inl (fun z => vl (z / 160 * 8 + z % 8) (z % 160 / 8) + 1)))] H := hP
      have hD : va_D (zIn [(M, .inr (5, [.int thr, .ref m1, .ref m2, .ref m3, .ref m4, .ref m5, .int (nI fl), .int (nI qt), .int (nI nn), .ref m6, .ref m7, .ref m8, .ref m9, .ref m10, .ref m11, .ref m12, .ref m13, .ref m14, .ref m15, .int mam])), (m1, .inl (cy.1, 4, .inl (fun z => nI (fc z)))), (m2, .inl (cy.1, 32, .inl lm)), (m5, .inl (cy.1, 640, .inl (fun z => vl (z / 160 * 8 + z % 8) (z % 160 / 8) + 1)))]) [(M, .inr (5, [.int (nI 1), .ref m1, .ref m2, .ref m3, .ref m4, .ref m5, .int (nI fl), .int (nI qt), .int (nI nn), .ref m6, .ref m7, .ref m8, .ref m9, .ref m10, .ref m11, .ref m12, .ref m13, .ref m14, .ref m15, .int mam])), (m1, .inl (cy.1, 4, .inl (fun z => nI (fc z)))), (m2, .inl (cy.1, 32, .inl lm)), (m5, .inl (cy.1, 640, .inl (fun z => vl (z / 160 * 8 + z % 8) (z % 160 / 8) + 1)))] := hD
      refine lv_aload_n hx hb dX5_set_23 rfl (lv_at hl 0 rfl) ?_
      refine va_get (D := D) (ci := 5) (v := .int (nI 1)) (C := RX5) (T := TX5) (N := 20) hx hb hts in_wsX5_set_X5 hown hK.1 hP 0 rfl rfl 0 (by decide) (hts _ lk340_wsX5_set) (fun _ h9 => h9) rfl dX5_set_24 ?_
      refine lv_if_ne (tgt := 44) hx hb dX5_set_27 (by decide) (fun cb3 => ?_) (fun cb3 => ?_)
      · have cb3 : ¬ (1 = 0) := zn_ne_f (a := 1) (b := 0) (by omega) (by omega) cb3
        refine lv_aload_n hx hb dX5_set_44 rfl (lv_at hl 0 rfl) ?_
        refine va_get (D := D) (ci := 5) (v := .int (nI 1)) (C := RX5) (T := TX5) (N := 20) hx hb hts in_wsX5_set_X5 hown hK.1 hP 0 rfl rfl 0 (by decide) (hts _ lk340_wsX5_set) (fun _ h9 => h9) rfl dX5_set_45 ?_
        refine lv_if_ne (tgt := 95) hx hb dX5_set_48 (by decide) (fun cb4 => ?_) (fun cb4 => ?_)
        · have cb4 : ¬ (1 = 0) := zn_ne_f (a := 1) (b := 0) (by omega) (by omega) cb4
          refine lv_aload_n hx hb dX5_set_95 rfl (lv_at hl 0 rfl) ?_
          refine va_get (D := D) (ci := 5) (v := .int (nI 1)) (C := RX5) (T := TX5) (N := 20) hx hb hts in_wsX5_set_X5 hown hK.1 hP 0 rfl rfl 0 (by decide) (hts _ lk340_wsX5_set) (fun _ h9 => h9) rfl dX5_set_96 ?_
          refine lv_if_le (tgt := 104) hx hb dX5_set_99 (by decide) (fun cb5 => ?_) (fun cb5 => ?_)
          · have cb5 : 1 ≤ 0 := zn_le_t (a := 1) (b := 0) (by omega) (by omega) cb5
            exact absurd cb5 (by decide)
          · have cb5 : ¬ (1 ≤ 0) := zn_le_f (a := 1) (b := 0) (by omega) (by omega) cb5
            refine lv_iconst (v := nI 0) hx hb dX5_set_102 (by decide) ?_
            exact z_iretW () hx hb hr hlocks hS dX5_set_103 hP trivial
        · have cb4 : 1 = 0 := zn_ne_t (a := 1) (b := 0) (by omega) (by omega) cb4
          exact absurd cb4 (by decide)
      · have cb3 : 1 = 0 := zn_ne_t (a := 1) (b := 0) (by omega) (by omega) cb3
        exact absurd cb3 (by decide)
    · have cb2 : (decide (inN 20 x)) = true := bI_f0 cb2
      exact absurd (of_decide_eq_true cb2) hbad
set_option maxHeartbeats 4000000 in
set_option maxRecDepth 100000 in
theorem c_X5_set_badF {l : Launch} {D : va_G} {cy : zCy} {M m1 m2 m3 m4 m5 m6 m7 m8 m9 m10 m11 m12 m13 m14 m15 nn qt fl : Nat} {thr mam : Int32} {fc : Nat → Nat} {lm : Nat → Int32} {vl : Nat → Nat → Int32} {t k : Nat} (ht : t < 4) (hk : k < 20) {x u : Int32} (hbad : ¬ inN (fc t) x) (hf8 : fc t ≤ 8) : zW (Unit) l yX5_set wsX5_set rmX5_set D cy [(M, .inr (5, [.int thr, .ref m1, .ref m2, .ref m3, .ref m4, .ref m5, .int (nI fl), .int (nI qt), .int (nI nn), .ref m6, .ref m7, .ref m8, .ref m9, .ref m10, .ref m11, .ref m12, .ref m13, .ref m14, .ref m15, .int mam])), (m1, .inl (cy.1, 4, .inl (fun z => nI (fc z)))), (m2, .inl (cy.1, 32, .inl lm)), (m5, .inl (cy.1, 640, .inl (fun z => vl (z / 160 * 8 + z % 8) (z % 160 / 8) + 1)))] [.ref M, .int (nI t), .int (nI k), .int x, .int u] (fun _ _ => True) (fun _ => [(M, .inr (5, [.int (nI 2), .ref m1, .ref m2, .ref m3, .ref m4, .ref m5, .int (nI fl), .int (nI qt), .int (nI nn), .ref m6, .ref m7, .ref m8, .ref m9, .ref m10, .ref m11, .ref m12, .ref m13, .ref m14, .ref m15, .int mam])), (m1, .inl (cy.1, 4, .inl (fun z => nI (fc z)))), (m2, .inl (cy.1, 32, .inl lm)), (m5, .inl (cy.1, 640, .inl (fun z => vl (z / 160 * 8 + z % 8) (z % 160 / 8) + 1)))]) := by
  refine zW.of (cc := cX5_set) (maxL := 7) (ret := (some .int)) (by decide) rfl rfl ?_
  intro p e s m below meth c ls C hP hK hD hl
  obtain ⟨hx, hb, hr, hml, hts, hown, hlocks⟩ := C
  have hS : va_S (zIn [(M, .inr (5, [.int thr, .ref m1, .ref m2, .ref m3, .ref m4, .ref m5, .int (nI fl), .int (nI qt), .int (nI nn), .ref m6, .ref m7, .ref m8, .ref m9, .ref m10, .ref m11, .ref m12, .ref m13, .ref m14, .ref m15, .int mam])), (m1, .inl (cy.1, 4, .inl (fun z => nI (fc z)))), (m2, .inl (cy.1, 32, .inl lm)), (m5, .inl (cy.1, 640, .inl (fun z => vl (z / 160 * 8 + z % 8) (z % 160 / 8) + 1)))]) s.heap s.heap [] := va_S.rf
  have hl : lv_has ls 7 [(0, .ref M), (1, .int (nI t)), (2, .int (nI k)), (3, .int x), (4, .int u)] := hl
  refine lv_aload_n hx hb dX5_set_0 rfl (lv_at hl 0 rfl) ?_
  refine lv_iload_n hx hb dX5_set_1 rfl (lv_at hl 1 rfl) ?_
  refine z_callS (As := [.int (nI t)]) (rest := [.ref M]) ⟨hx, hb, hml, hown, hts⟩ hK hP hS (c_X5_isType (x := nI t)) (va_cwS 1 hts gX5_set_X5_isType rfl rfl rfl k_yX5_isType ⟨Nat.le_of_ble_eq_true rfl, Nat.le_of_ble_eq_true rfl⟩) rfl hl.1 rfl rfl dX5_set_2 ⟨Nat.le_of_ble_eq_true rfl, Nat.le_of_ble_eq_true rfl⟩ (fun H locs hP hS => ?_)
  refine z_top (y := nI 1) (bI_in (by omega) (by omega)) ?_
  refine lv_if_eq (tgt := 19) hx hb dX5_set_5 (by decide) (fun cb1 => ?_) (fun cb1 => ?_)
  · have cb1 : 1 = 0 := zn_eq_t (a := 1) (b := 0) (by omega) (by omega) cb1
    exact absurd cb1 (by decide)
  · have cb1 : ¬ (1 = 0) := zn_eq_f (a := 1) (b := 0) (by omega) (by omega) cb1
    refine lv_iload_n hx hb dX5_set_8 rfl (lv_at hl 2 rfl) ?_
    refine z_callS (As := [.int (nI k)]) (rest := [.ref M]) ⟨hx, hb, hml, hown, hts⟩ hK hP hS (c_X5_isKey (x := nI k)) (va_cwS 1 hts gX5_set_X5_isKey rfl rfl rfl k_yX5_isKey ⟨Nat.le_of_ble_eq_true rfl, Nat.le_of_ble_eq_true rfl⟩) rfl hl.1 rfl rfl dX5_set_9 ⟨Nat.le_of_ble_eq_true rfl, Nat.le_of_ble_eq_true rfl⟩ (fun H locs hP hS => ?_)
    refine z_top (y := nI 1) (bI_in (by omega) (by omega)) ?_
    refine lv_if_eq (tgt := 19) hx hb dX5_set_12 (by decide) (fun cb2 => ?_) (fun cb2 => ?_)
    · have cb2 : 1 = 0 := zn_eq_t (a := 1) (b := 0) (by omega) (by omega) cb2
      exact absurd cb2 (by decide)
    · have cb2 : ¬ (1 = 0) := zn_eq_f (a := 1) (b := 0) (by omega) (by omega) cb2
      refine lv_iconst (v := nI 0) hx hb dX5_set_15 (by decide) ?_
      refine lv_goto (tgt := 20) hx hb dX5_set_16 (by decide) ?_
      refine va_put (D := D) (ci := 5) (v := .int (nI 0)) (ty := .int) (C := RX5) (T := TX5) (N := 20) hx hb hts in_wsX5_set_X5 tyX5 tyX5_ok nmX5 hown hK.1 hP hD hS 0 rfl rfl 0 (by decide) (hts _ lk340_wsX5_set) (fun _ h9 => h9) rfl (by decide +kernel) rfl rfl (Nat.le_of_ble_eq_true rfl) dX5_set_20 (fun H locs hP hD hS => ?_)
      have hP : va_P D vwCl [(M, .inr (5, [.int (nI 0), .ref m1, .ref m2, .ref m3, .ref m4, .ref m5, .int (nI fl), .int (nI qt), .int (nI nn), .ref m6, .ref m7, .ref m8, .ref m9, .ref m10, .ref m11, .ref m12, .ref m13, .ref m14, .ref m15, .int mam])), (m1, .inl (cy.1, 4, .inl (fun z => nI (fc z)))), (m2, .inl (cy.1, 32, .inl lm)), (m5, .inl (cy.1, 640, .inl (fun z => vl (z / 160 * 8 + z % 8) (z % 160 / 8) + 1)))] H := hP
      have hD : va_D (zIn [(M, .inr (5, [.int thr, .ref m1, .ref m2, .ref m3, .ref m4, .ref m5, .int (nI fl), .int (nI qt), .int (nI nn), .ref m6, .ref m7, .ref m8, .ref m9, .ref m10, .ref m11, .ref m12, .ref m13, .ref m14, .ref m15, .int mam])), (m1, .inl (cy.1, 4, .inl (fun z => nI (fc z)))), (m2, .inl (cy.1, 32, .inl lm)), (m5, .inl (cy.1, 640, .inl (fun z => vl (z / 160 * 8 + z % 8) (z % 160 / 8) + 1)))]) [(M, .inr (5, [.int (nI 0), .ref m1, .ref m2, .ref m3, .ref m4, .ref m5, .int (nI fl), .int (nI qt), .int (nI nn), .ref m6, .ref m7, .ref m8, .ref m9, .ref m10, .ref m11, .ref m12, .ref m13, .ref m14, .ref m15, .int mam])), (m1, .inl (cy.1, 4, .inl (fun z => nI (fc z)))), (m2, .inl (cy.1, 32, .inl lm)), (m5, .inl (cy.1, 640, .inl (fun z => vl (z / 160 * 8 + z % 8) (z % 160 / 8) + 1)))] := hD
      refine lv_aload_n hx hb dX5_set_23 rfl (lv_at hl 0 rfl) ?_
      refine va_get (D := D) (ci := 5) (v := .int (nI 0)) (C := RX5) (T := TX5) (N := 20) hx hb hts in_wsX5_set_X5 hown hK.1 hP 0 rfl rfl 0 (by decide) (hts _ lk340_wsX5_set) (fun _ h9 => h9) rfl dX5_set_24 ?_
      refine lv_if_ne (tgt := 44) hx hb dX5_set_27 (by decide) (fun cb3 => ?_) (fun cb3 => ?_)
      · have cb3 : ¬ (0 = 0) := zn_ne_f (a := 0) (b := 0) (by omega) (by omega) cb3
        exact absurd cb3 (by decide)
      · have cb3 : 0 = 0 := zn_ne_t (a := 0) (b := 0) (by omega) (by omega) cb3
        refine lv_aload_n hx hb dX5_set_30 rfl (lv_at hl 0 rfl) ?_
        refine lv_iload_n hx hb dX5_set_31 rfl (lv_at hl 1 rfl) ?_
        refine lv_iload_n hx hb dX5_set_32 rfl (lv_at hl 3 rfl) ?_
        refine z_callV (b := M) (As := [.int (nI t), .int x]) (rest := []) ⟨hx, hb, hml, hown, hts⟩ hK hP hS (c_X5_isField (i := 0) (j1 := 1) rfl rfl (t := t) (by omega) hf8 (x := x)) (cwV 2 hts gX5_set_X5_isField rfl rfl rfl k_yX5_isField ⟨Nat.le_of_ble_eq_true rfl, Nat.le_of_ble_eq_true rfl⟩) 0 5 rfl rfl rfl rfl hl.1 rfl rfl dX5_set_33 ⟨Nat.le_of_ble_eq_true rfl, Nat.le_of_ble_eq_true rfl⟩ (fun H locs hP hS => ?_)
        refine lv_if_ne (tgt := 44) hx hb dX5_set_36 (by decide) (fun cb4 => ?_) (fun cb4 => ?_)
        · have cb4 : (decide (inN (fc t) x)) = true := bI_f0 cb4
          exact absurd (of_decide_eq_true cb4) hbad
        · have cb4 : (decide (inN (fc t) x)) = false := bI_t0 cb4
          refine lv_aload_n hx hb dX5_set_39 rfl (lv_at hl 0 rfl) ?_
          refine lv_iconst (v := nI 2) hx hb dX5_set_40 (by decide) ?_
          refine va_put (D := D) (ci := 5) (v := .int (nI 2)) (ty := .int) (C := RX5) (T := TX5) (N := 20) hx hb hts in_wsX5_set_X5 tyX5 tyX5_ok nmX5 hown hK.1 hP hD hS 0 rfl rfl 0 (by decide) (hts _ lk340_wsX5_set) (fun _ h9 => h9) rfl (by decide +kernel) rfl rfl (Nat.le_of_ble_eq_true rfl) dX5_set_41 (fun H locs hP hD hS => ?_)
          have hP : va_P D vwCl [(M, .inr (5, [.int (nI 2), .ref m1, .ref m2, .ref m3, .ref m4, .ref m5, .int (nI fl), .int (nI qt), .int (nI nn), .ref m6, .ref m7, .ref m8, .ref m9, .ref m10, .ref m11, .ref m12, .ref m13, .ref m14, .ref m15, .int mam])), (m1, .inl (cy.1, 4, .inl (fun z => nI (fc z)))), (m2, .inl (cy.1, 32, .inl lm)), (m5, .inl (cy.1, 640, .inl (fun z => vl (z / 160 * 8 + z % 8) (z % 160 / 8) + 1)))] H := hP
          have hD : va_D (zIn [(M, .inr (5, [.int thr, .ref m1, .ref m2, .ref m3, .ref m4, .ref m5, .int (nI fl), .int (nI qt), .int (nI nn), .ref m6, .ref m7, .ref m8, .ref m9, .ref m10, .ref m11, .ref m12, .ref m13, .ref m14, .ref m15, .int mam])), (m1, .inl (cy.1, 4, .inl (fun z => nI (fc z)))), (m2, .inl (cy.1, 32, .inl lm)), (m5, .inl (cy.1, 640, .inl (fun z => vl (z / 160 * 8 + z % 8) (z % 160 / 8) + 1)))]) [(M, .inr (5, [.int (nI 2), .ref m1, .ref m2, .ref m3, .ref m4, .ref m5, .int (nI fl), .int (nI qt), .int (nI nn), .ref m6, .ref m7, .ref m8, .ref m9, .ref m10, .ref m11, .ref m12, .ref m13, .ref m14, .ref m15, .int mam])), (m1, .inl (cy.1, 4, .inl (fun z => nI (fc z)))), (m2, .inl (cy.1, 32, .inl lm)), (m5, .inl (cy.1, 640, .inl (fun z => vl (z / 160 * 8 + z % 8) (z % 160 / 8) + 1)))] := hD
          refine lv_aload_n hx hb dX5_set_44 rfl (lv_at hl 0 rfl) ?_
          refine va_get (D := D) (ci := 5) (v := .int (nI 2)) (C := RX5) (T := TX5) (N := 20) hx hb hts in_wsX5_set_X5 hown hK.1 hP 0 rfl rfl 0 (by decide) (hts _ lk340_wsX5_set) (fun _ h9 => h9) rfl dX5_set_45 ?_
          refine lv_if_ne (tgt := 95) hx hb dX5_set_48 (by decide) (fun cb5 => ?_) (fun cb5 => ?_)
          · have cb5 : ¬ (2 = 0) := zn_ne_f (a := 2) (b := 0) (by omega) (by omega) cb5
            refine lv_aload_n hx hb dX5_set_95 rfl (lv_at hl 0 rfl) ?_
            refine va_get (D := D) (ci := 5) (v := .int (nI 2)) (C := RX5) (T := TX5) (N := 20) hx hb hts in_wsX5_set_X5 hown hK.1 hP 0 rfl rfl 0 (by decide) (hts _ lk340_wsX5_set) (fun _ h9 => h9) rfl dX5_set_96 ?_
            refine lv_if_le (tgt := 104) hx hb dX5_set_99 (by decide) (fun cb6 => ?_) (fun cb6 => ?_)
            · have cb6 : 2 ≤ 0 := zn_le_t (a := 2) (b := 0) (by omega) (by omega) cb6
              exact absurd cb6 (by decide)
            · have cb6 : ¬ (2 ≤ 0) := zn_le_f (a := 2) (b := 0) (by omega) (by omega) cb6
              refine lv_iconst (v := nI 0) hx hb dX5_set_102 (by decide) ?_
              exact z_iretW () hx hb hr hlocks hS dX5_set_103 hP trivial
          · have cb5 : 2 = 0 := zn_ne_t (a := 2) (b := 0) (by omega) (by omega) cb5
            exact absurd cb5 (by decide)
set_option maxHeartbeats 4000000 in
set_option maxRecDepth 100000 in
theorem c_X5_set_badV {l : Launch} {D : va_G} {cy : zCy} {M m1 m2 m3 m4 m5 m6 m7 m8 m9 m10 m11 m12 m13 m14 m15 nn qt fl : Nat} {thr mam : Int32} {fc : Nat → Nat} {lm : Nat → Int32} {vl : Nat → Nat → Int32} {t k f : Nat} (ht : t < 4) (hk : k < 20) (hf : f < fc t) (hf8 : fc t ≤ 8) {x : Int32} (hx9 : ¬ (x = -1 ∨ inN (if lm (t * 8 + f) = -1 then 100 else 20) x)) : zW (Unit) l yX5_set wsX5_set rmX5_set D cy [(M, .inr (5, [.int thr, .ref m1, .ref m2, .ref m3, .ref m4, .ref m5, .int (nI fl), .int (nI qt), .int (nI nn), .ref m6, .ref m7, .ref m8, .ref m9, .ref m10, .ref m11, .ref m12, .ref m13, .ref m14, .ref m15, .int mam])), (m1, .inl (cy.1, 4, .inl (fun z => nI (fc z)))), (m2, .inl (cy.1, 32, .inl lm)), (m5, .inl (cy.1, 640, .inl (fun z => vl (z / 160 * 8 + z % 8) (z % 160 / 8) + 1)))] [.ref M, .int (nI t), .int (nI k), .int (nI f), .int x] (fun _ _ => True) (fun _ => [(M, .inr (5, [.int (nI 1), .ref m1, .ref m2, .ref m3, .ref m4, .ref m5, .int (nI fl), .int (nI qt), .int (nI nn), .ref m6, .ref m7, .ref m8, .ref m9, .ref m10, .ref m11, .ref m12, .ref m13, .ref m14, .ref m15, .int mam])), (m1, .inl (cy.1, 4, .inl (fun z => nI (fc z)))), (m2, .inl (cy.1, 32, .inl lm)), (m5, .inl (cy.1, 640, .inl (fun z => vl (z / 160 * 8 + z % 8) (z % 160 / 8) + 1)))]) := by
  refine zW.of (cc := cX5_set) (maxL := 7) (ret := (some .int)) (by decide) rfl rfl ?_
  intro p e s m below meth c ls C hP hK hD hl
  obtain ⟨hx, hb, hr, hml, hts, hown, hlocks⟩ := C
  have hS : va_S (zIn [(M, .inr (5, [.int thr, .ref m1, .ref m2, .ref m3, .ref m4, .ref m5, .int (nI fl), .int (nI qt), .int (nI nn), .ref m6, .ref m7, .ref m8, .ref m9, .ref m10, .ref m11, .ref m12, .ref m13, .ref m14, .ref m15, .int mam])), (m1, .inl (cy.1, 4, .inl (fun z => nI (fc z)))), (m2, .inl (cy.1, 32, .inl lm)), (m5, .inl (cy.1, 640, .inl (fun z => vl (z / 160 * 8 + z % 8) (z % 160 / 8) + 1)))]) s.heap s.heap [] := va_S.rf
  have hl : lv_has ls 7 [(0, .ref M), (1, .int (nI t)), (2, .int (nI k)), (3, .int (nI f)), (4, .int x)] := hl
  refine lv_aload_n hx hb dX5_set_0 rfl (lv_at hl 0 rfl) ?_
  refine lv_iload_n hx hb dX5_set_1 rfl (lv_at hl 1 rfl) ?_
  refine z_callS (As := [.int (nI t)]) (rest := [.ref M]) ⟨hx, hb, hml, hown, hts⟩ hK hP hS (c_X5_isType (x := nI t)) (va_cwS 1 hts gX5_set_X5_isType rfl rfl rfl k_yX5_isType ⟨Nat.le_of_ble_eq_true rfl, Nat.le_of_ble_eq_true rfl⟩) rfl hl.1 rfl rfl dX5_set_2 ⟨Nat.le_of_ble_eq_true rfl, Nat.le_of_ble_eq_true rfl⟩ (fun H locs hP hS => ?_)
  refine z_top (y := nI 1) (bI_in (by omega) (by omega)) ?_
  refine lv_if_eq (tgt := 19) hx hb dX5_set_5 (by decide) (fun cb1 => ?_) (fun cb1 => ?_)
  · have cb1 : 1 = 0 := zn_eq_t (a := 1) (b := 0) (by omega) (by omega) cb1
    exact absurd cb1 (by decide)
  · have cb1 : ¬ (1 = 0) := zn_eq_f (a := 1) (b := 0) (by omega) (by omega) cb1
    refine lv_iload_n hx hb dX5_set_8 rfl (lv_at hl 2 rfl) ?_
    refine z_callS (As := [.int (nI k)]) (rest := [.ref M]) ⟨hx, hb, hml, hown, hts⟩ hK hP hS (c_X5_isKey (x := nI k)) (va_cwS 1 hts gX5_set_X5_isKey rfl rfl rfl k_yX5_isKey ⟨Nat.le_of_ble_eq_true rfl, Nat.le_of_ble_eq_true rfl⟩) rfl hl.1 rfl rfl dX5_set_9 ⟨Nat.le_of_ble_eq_true rfl, Nat.le_of_ble_eq_true rfl⟩ (fun H locs hP hS => ?_)
    refine z_top (y := nI 1) (bI_in (by omega) (by omega)) ?_
    refine lv_if_eq (tgt := 19) hx hb dX5_set_12 (by decide) (fun cb2 => ?_) (fun cb2 => ?_)
    · have cb2 : 1 = 0 := zn_eq_t (a := 1) (b := 0) (by omega) (by omega) cb2
      exact absurd cb2 (by decide)
    · have cb2 : ¬ (1 = 0) := zn_eq_f (a := 1) (b := 0) (by omega) (by omega) cb2
      refine lv_iconst (v := nI 0) hx hb dX5_set_15 (by decide) ?_
      refine lv_goto (tgt := 20) hx hb dX5_set_16 (by decide) ?_
      refine va_put (D := D) (ci := 5) (v := .int (nI 0)) (ty := .int) (C := RX5) (T := TX5) (N := 20) hx hb hts in_wsX5_set_X5 tyX5 tyX5_ok nmX5 hown hK.1 hP hD hS 0 rfl rfl 0 (by decide) (hts _ lk340_wsX5_set) (fun _ h9 => h9) rfl (by decide +kernel) rfl rfl (Nat.le_of_ble_eq_true rfl) dX5_set_20 (fun H locs hP hD hS => ?_)
      have hP : va_P D vwCl [(M, .inr (5, [.int (nI 0), .ref m1, .ref m2, .ref m3, .ref m4, .ref m5, .int (nI fl), .int (nI qt), .int (nI nn), .ref m6, .ref m7, .ref m8, .ref m9, .ref m10, .ref m11, .ref m12, .ref m13, .ref m14, .ref m15, .int mam])), (m1, .inl (cy.1, 4, .inl (fun z => nI (fc z)))), (m2, .inl (cy.1, 32, .inl lm)), (m5, .inl (cy.1, 640, .inl (fun z => vl (z / 160 * 8 + z % 8) (z % 160 / 8) + 1)))] H := hP
      have hD : va_D (zIn [(M, .inr (5, [.int thr, .ref m1, .ref m2, .ref m3, .ref m4, .ref m5, .int (nI fl), .int (nI qt), .int (nI nn), .ref m6, .ref m7, .ref m8, .ref m9, .ref m10, .ref m11, .ref m12, .ref m13, .ref m14, .ref m15, .int mam])), (m1, .inl (cy.1, 4, .inl (fun z => nI (fc z)))), (m2, .inl (cy.1, 32, .inl lm)), (m5, .inl (cy.1, 640, .inl (fun z => vl (z / 160 * 8 + z % 8) (z % 160 / 8) + 1)))]) [(M, .inr (5, [.int (nI 0), .ref m1, .ref m2, .ref m3, .ref m4, .ref m5, .int (nI fl), .int (nI qt), .int (nI nn), .ref m6, .ref m7, .ref m8, .ref m9, .ref m10, .ref m11, .ref m12, .ref m13, .ref m14, .ref m15, .int mam])), (m1, .inl (cy.1, 4, .inl (fun z => nI (fc z)))), (m2, .inl (cy.1, 32, .inl lm)), (m5, .inl (cy.1, 640, .inl (fun z => vl (z / 160 * 8 + z % 8) (z % 160 / 8) + 1)))] := hD
      refine lv_aload_n hx hb dX5_set_23 rfl (lv_at hl 0 rfl) ?_
      refine va_get (D := D) (ci := 5) (v := .int (nI 0)) (C := RX5) (T := TX5) (N := 20) hx hb hts in_wsX5_set_X5 hown hK.1 hP 0 rfl rfl 0 (by decide) (hts _ lk340_wsX5_set) (fun _ h9 => h9) rfl dX5_set_24 ?_
      refine lv_if_ne (tgt := 44) hx hb dX5_set_27 (by decide) (fun cb3 => ?_) (fun cb3 => ?_)
      · have cb3 : ¬ (0 = 0) := zn_ne_f (a := 0) (b := 0) (by omega) (by omega) cb3
        exact absurd cb3 (by decide)
      · have cb3 : 0 = 0 := zn_ne_t (a := 0) (b := 0) (by omega) (by omega) cb3
        refine lv_aload_n hx hb dX5_set_30 rfl (lv_at hl 0 rfl) ?_
        refine lv_iload_n hx hb dX5_set_31 rfl (lv_at hl 1 rfl) ?_
        refine lv_iload_n hx hb dX5_set_32 rfl (lv_at hl 3 rfl) ?_
        refine z_callV (b := M) (As := [.int (nI t), .int (nI f)]) (rest := []) ⟨hx, hb, hml, hown, hts⟩ hK hP hS (c_X5_isField (i := 0) (j1 := 1) rfl rfl (t := t) (by omega) hf8 (x := nI f)) (cwV 2 hts gX5_set_X5_isField rfl rfl rfl k_yX5_isField ⟨Nat.le_of_ble_eq_true rfl, Nat.le_of_ble_eq_true rfl⟩) 0 5 rfl rfl rfl rfl hl.1 rfl rfl dX5_set_33 ⟨Nat.le_of_ble_eq_true rfl, Nat.le_of_ble_eq_true rfl⟩ (fun H locs hP hS => ?_)
        refine z_top (y := nI 1) (bI_in (by omega) (by omega)) ?_
        refine lv_if_ne (tgt := 44) hx hb dX5_set_36 (by decide) (fun cb4 => ?_) (fun cb4 => ?_)
        · have cb4 : ¬ (1 = 0) := zn_ne_f (a := 1) (b := 0) (by omega) (by omega) cb4
          refine lv_aload_n hx hb dX5_set_44 rfl (lv_at hl 0 rfl) ?_
          refine va_get (D := D) (ci := 5) (v := .int (nI 0)) (C := RX5) (T := TX5) (N := 20) hx hb hts in_wsX5_set_X5 hown hK.1 hP 0 rfl rfl 0 (by decide) (hts _ lk340_wsX5_set) (fun _ h9 => h9) rfl dX5_set_45 ?_
          refine lv_if_ne (tgt := 95) hx hb dX5_set_48 (by decide) (fun cb5 => ?_) (fun cb5 => ?_)
          · have cb5 : ¬ (0 = 0) := zn_ne_f (a := 0) (b := 0) (by omega) (by omega) cb5
            exact absurd cb5 (by decide)
          · have cb5 : 0 = 0 := zn_ne_t (a := 0) (b := 0) (by omega) (by omega) cb5
            refine lv_aload_n hx hb dX5_set_51 rfl (lv_at hl 0 rfl) ?_
            refine va_get (D := D) (ci := 5) (v := .ref m2) (C := RX5) (T := TX5) (N := 20) hx hb hts in_wsX5_set_X5 hown hK.1 hP 0 rfl rfl 2 (by decide) (hts _ lk342_wsX5_set) (fun _ h9 => h9) rfl dX5_set_52 ?_
            refine lv_bipush (v := nI 8) hx hb dX5_set_55 (by decide) ?_
            refine lv_iload_n hx hb dX5_set_57 rfl (lv_at hl 1 rfl) ?_
            refine lv_imul hx hb dX5_set_58 ?_
            refine z_top (y := nI (8 * t)) (pk_mul _ _) ?_
            refine lv_iload_n hx hb dX5_set_59 rfl (lv_at hl 3 rfl) ?_
            refine lv_iadd hx hb dX5_set_60 ?_
            refine z_top (y := nI ((8 * t) + f)) (nI_add _ _) ?_
            refine z_iald (v := (lm (t * 8 + f))) hx hb hK.1 hP 2 0 rfl rfl (k := (8 * t) + f) (by omega) (by decide) (by rw [Nat.mul_comm]) dX5_set_61 ?_
            refine lv_iconst (v := (-1 : Int32)) hx hb dX5_set_62 (by decide) ?_
            refine lv_icmp_ne (tgt := 71) hx hb dX5_set_63 (by decide) (fun cb6 => ?_) (fun cb6 => ?_)
            · skip
              rw [if_neg cb6] at hx9
              refine lv_bipush (v := nI 19) hx hb dX5_set_71 (by decide) ?_
              refine lv_istore (lv' := [(5, .int (nI 19)), (0, .ref M), (1, .int (nI t)), (2, .int (nI k)), (3, .int (nI f)), (4, .int x)]) hx hb dX5_set_73 hl (by decide) rfl (fun ls hl => ?_)
              refine lv_aload_n hx hb dX5_set_75 rfl (lv_at hl 1 rfl) ?_
              refine lv_iload hx hb dX5_set_76 (lv_at hl 5 rfl) ?_
              refine lv_iconst (v := (-1 : Int32)) hx hb dX5_set_78 (by decide) ?_
              refine lv_iload hx hb dX5_set_79 (lv_at hl 0 rfl) ?_
              refine z_callS (As := [.int x, .int ((-1 : Int32)), .int (nI 19)]) (rest := [.ref M]) ⟨hx, hb, hml, hown, hts⟩ hK hP hS (c_X5_in (v := x) (lo := -1) (hi := nI 19)) (va_cwS 3 hts gX5_set_X5_in rfl rfl rfl k_yX5_in ⟨Nat.le_of_ble_eq_true rfl, Nat.le_of_ble_eq_true rfl⟩) rfl hl.1 rfl rfl dX5_set_81 ⟨Nat.le_of_ble_eq_true rfl, Nat.le_of_ble_eq_true rfl⟩ (fun H locs hP hS => ?_)
              refine z_top (y := bI (decide (x = -1 ∨ inN 20 x))) (congrArg bI (decide_eq_decide.mpr (zin2 (by decide)))) ?_
              refine lv_if_eq (tgt := 91) hx hb dX5_set_84 (by decide) (fun cb7 => ?_) (fun cb7 => ?_)
              · have cb7 : (decide (x = -1 ∨ inN 20 x)) = false := bI_t0 cb7
                refine lv_iconst (v := nI 1) hx hb dX5_set_91 (by decide) ?_
                refine va_put (D := D) (ci := 5) (v := .int (nI 1)) (ty := .int) (C := RX5) (T := TX5) (N := 20) hx hb hts in_wsX5_set_X5 tyX5 tyX5_ok nmX5 hown hK.1 hP hD hS 0 rfl rfl 0 (by decide) (hts _ lk340_wsX5_set) (fun _ h9 => h9) rfl (by decide +kernel) rfl rfl (Nat.le_of_ble_eq_true rfl) dX5_set_92 (fun H locs hP hD hS => ?_)
                have hP : va_P D vwCl [(M, .inr (5, [.int (nI 1), .ref m1, .ref m2, .ref m3, .ref m4, .ref m5, .int (nI fl), .int (nI qt), .int (nI nn), .ref m6, .ref m7, .ref m8, .ref m9, .ref m10, .ref m11, .ref m12, .ref m13, .ref m14, .ref m15, .int mam])), (m1, .inl (cy.1, 4, .inl (fun z => nI (fc z)))), (m2, .inl (cy.1, 32, .inl lm)), (m5, .inl (cy.1, 640, .inl (fun z => vl (z / 160 * 8 + z % 8) (z % 160 / 8) + 1)))] H := hP
                have hD : va_D (zIn [(M, .inr (5, [.int thr, .ref m1, .ref m2, .ref m3, .ref m4, .ref m5, .int (nI fl), .int (nI qt), .int (nI nn), .ref m6, .ref m7, .ref m8, .ref m9, .ref m10, .ref m11, .ref m12, .ref m13, .ref m14, .ref m15, .int mam])), (m1, .inl (cy.1, 4, .inl (fun z => nI (fc z)))), (m2, .inl (cy.1, 32, .inl lm)), (m5, .inl (cy.1, 640, .inl (fun z => vl (z / 160 * 8 + z % 8) (z % 160 / 8) + 1)))]) [(M, .inr (5, [.int (nI 1), .ref m1, .ref m2, .ref m3, .ref m4, .ref m5, .int (nI fl), .int (nI qt), .int (nI nn), .ref m6, .ref m7, .ref m8, .ref m9, .ref m10, .ref m11, .ref m12, .ref m13, .ref m14, .ref m15, .int mam])), (m1, .inl (cy.1, 4, .inl (fun z => nI (fc z)))), (m2, .inl (cy.1, 32, .inl lm)), (m5, .inl (cy.1, 640, .inl (fun z => vl (z / 160 * 8 + z % 8) (z % 160 / 8) + 1)))] := hD
                refine lv_aload_n hx hb dX5_set_95 rfl (lv_at hl 1 rfl) ?_
                refine va_get (D := D) (ci := 5) (v := .int (nI 1)) (C := RX5) (T := TX5) (N := 20) hx hb hts in_wsX5_set_X5 hown hK.1 hP 0 rfl rfl 0 (by decide) (hts _ lk340_wsX5_set) (fun _ h9 => h9) rfl dX5_set_96 ?_
                refine lv_if_le (tgt := 104) hx hb dX5_set_99 (by decide) (fun cb8 => ?_) (fun cb8 => ?_)
                · have cb8 : 1 ≤ 0 := zn_le_t (a := 1) (b := 0) (by omega) (by omega) cb8
                  exact absurd cb8 (by decide)
                · have cb8 : ¬ (1 ≤ 0) := zn_le_f (a := 1) (b := 0) (by omega) (by omega) cb8
                  refine lv_iconst (v := nI 0) hx hb dX5_set_102 (by decide) ?_
                  exact z_iretW () hx hb hr hlocks hS dX5_set_103 hP trivial
              · have cb7 : (decide (x = -1 ∨ inN 20 x)) = true := bI_f0 cb7
                exact absurd (of_decide_eq_true cb7) hx9
            · skip
              rw [if_pos cb6] at hx9
              refine lv_bipush (v := nI 99) hx hb dX5_set_66 (by decide) ?_
              refine lv_goto (tgt := 73) hx hb dX5_set_68 (by decide) ?_
              refine lv_istore (lv' := [(5, .int (nI 99)), (0, .ref M), (1, .int (nI t)), (2, .int (nI k)), (3, .int (nI f)), (4, .int x)]) hx hb dX5_set_73 hl (by decide) rfl (fun ls hl => ?_)
              refine lv_aload_n hx hb dX5_set_75 rfl (lv_at hl 1 rfl) ?_
              refine lv_iload hx hb dX5_set_76 (lv_at hl 5 rfl) ?_
              refine lv_iconst (v := (-1 : Int32)) hx hb dX5_set_78 (by decide) ?_
              refine lv_iload hx hb dX5_set_79 (lv_at hl 0 rfl) ?_
              refine z_callS (As := [.int x, .int ((-1 : Int32)), .int (nI 99)]) (rest := [.ref M]) ⟨hx, hb, hml, hown, hts⟩ hK hP hS (c_X5_in (v := x) (lo := -1) (hi := nI 99)) (va_cwS 3 hts gX5_set_X5_in rfl rfl rfl k_yX5_in ⟨Nat.le_of_ble_eq_true rfl, Nat.le_of_ble_eq_true rfl⟩) rfl hl.1 rfl rfl dX5_set_81 ⟨Nat.le_of_ble_eq_true rfl, Nat.le_of_ble_eq_true rfl⟩ (fun H locs hP hS => ?_)
              refine z_top (y := bI (decide (x = -1 ∨ inN 100 x))) (congrArg bI (decide_eq_decide.mpr (zin2 (by decide)))) ?_
              refine lv_if_eq (tgt := 91) hx hb dX5_set_84 (by decide) (fun cb9 => ?_) (fun cb9 => ?_)
              · have cb9 : (decide (x = -1 ∨ inN 100 x)) = false := bI_t0 cb9
                refine lv_iconst (v := nI 1) hx hb dX5_set_91 (by decide) ?_
                refine va_put (D := D) (ci := 5) (v := .int (nI 1)) (ty := .int) (C := RX5) (T := TX5) (N := 20) hx hb hts in_wsX5_set_X5 tyX5 tyX5_ok nmX5 hown hK.1 hP hD hS 0 rfl rfl 0 (by decide) (hts _ lk340_wsX5_set) (fun _ h9 => h9) rfl (by decide +kernel) rfl rfl (Nat.le_of_ble_eq_true rfl) dX5_set_92 (fun H locs hP hD hS => ?_)
                have hP : va_P D vwCl [(M, .inr (5, [.int (nI 1), .ref m1, .ref m2, .ref m3, .ref m4, .ref m5, .int (nI fl), .int (nI qt), .int (nI nn), .ref m6, .ref m7, .ref m8, .ref m9, .ref m10, .ref m11, .ref m12, .ref m13, .ref m14, .ref m15, .int mam])), (m1, .inl (cy.1, 4, .inl (fun z => nI (fc z)))), (m2, .inl (cy.1, 32, .inl lm)), (m5, .inl (cy.1, 640, .inl (fun z => vl (z / 160 * 8 + z % 8) (z % 160 / 8) + 1)))] H := hP
                have hD : va_D (zIn [(M, .inr (5, [.int thr, .ref m1, .ref m2, .ref m3, .ref m4, .ref m5, .int (nI fl), .int (nI qt), .int (nI nn), .ref m6, .ref m7, .ref m8, .ref m9, .ref m10, .ref m11, .ref m12, .ref m13, .ref m14, .ref m15, .int mam])), (m1, .inl (cy.1, 4, .inl (fun z => nI (fc z)))), (m2, .inl (cy.1, 32, .inl lm)), (m5, .inl (cy.1, 640, .inl (fun z => vl (z / 160 * 8 + z % 8) (z % 160 / 8) + 1)))]) [(M, .inr (5, [.int (nI 1), .ref m1, .ref m2, .ref m3, .ref m4, .ref m5, .int (nI fl), .int (nI qt), .int (nI nn), .ref m6, .ref m7, .ref m8, .ref m9, .ref m10, .ref m11, .ref m12, .ref m13, .ref m14, .ref m15, .int mam])), (m1, .inl (cy.1, 4, .inl (fun z => nI (fc z)))), (m2, .inl (cy.1, 32, .inl lm)), (m5, .inl (cy.1, 640, .inl (fun z => vl (z / 160 * 8 + z % 8) (z % 160 / 8) + 1)))] := hD
                refine lv_aload_n hx hb dX5_set_95 rfl (lv_at hl 1 rfl) ?_
                refine va_get (D := D) (ci := 5) (v := .int (nI 1)) (C := RX5) (T := TX5) (N := 20) hx hb hts in_wsX5_set_X5 hown hK.1 hP 0 rfl rfl 0 (by decide) (hts _ lk340_wsX5_set) (fun _ h9 => h9) rfl dX5_set_96 ?_
                refine lv_if_le (tgt := 104) hx hb dX5_set_99 (by decide) (fun cb10 => ?_) (fun cb10 => ?_)
                · have cb10 : 1 ≤ 0 := zn_le_t (a := 1) (b := 0) (by omega) (by omega) cb10
                  exact absurd cb10 (by decide)
                · have cb10 : ¬ (1 ≤ 0) := zn_le_f (a := 1) (b := 0) (by omega) (by omega) cb10
                  refine lv_iconst (v := nI 0) hx hb dX5_set_102 (by decide) ?_
                  exact z_iretW () hx hb hr hlocks hS dX5_set_103 hP trivial
              · have cb9 : (decide (x = -1 ∨ inN 100 x)) = true := bI_f0 cb9
                exact absurd (of_decide_eq_true cb9) hx9
        · have cb4 : 1 = 0 := zn_ne_t (a := 1) (b := 0) (by omega) (by omega) cb4
          exact absurd cb4 (by decide)
set_option maxRecDepth 20000 in
theorem lk344_wsX5_fail : Cond.fieldLink RX5 56 "QueryGatewayModel" "thrown" "I" ∈ wsX5_fail := by decide +kernel
set_option maxRecDepth 20000 in
theorem in_wsX5_fail_X5 : ∀ w ∈ wsX50, w ∈ wsX5_fail := by decide +kernel
set_option maxRecDepth 20000 in
theorem lk346_wsX5_fail : Cond.fieldLink RX5 78 "QueryGatewayModel" "failed" "I" ∈ wsX5_fail := by decide +kernel
abbrev rmX5_fail : Room := { frames := 2, cells := 0, slots := 0, locals := 42 }
set_option maxHeartbeats 4000000 in
set_option maxRecDepth 100000 in
theorem c_X5_fail_ok {l : Launch} {D : va_G} {cy : zCy} {M m1 m2 m3 m4 m5 m6 m7 m8 m9 m10 m11 m12 m13 m14 m15 nn qt fl : Nat} {thr mam : Int32} {v : Nat} (hv : v < 4) (hfl : fl < 16) (b : Bool) : zW (Unit) l yX5_fail wsX5_fail rmX5_fail D cy [(M, .inr (5, [.int thr, .ref m1, .ref m2, .ref m3, .ref m4, .ref m5, .int (nI fl), .int (nI qt), .int (nI nn), .ref m6, .ref m7, .ref m8, .ref m9, .ref m10, .ref m11, .ref m12, .ref m13, .ref m14, .ref m15, .int mam]))] [.ref M, .int (nI v), .int (bI (b))] (fun r _ => r = bI (fl.testBit v)) (fun _ => [(M, .inr (5, [.int (nI 0), .ref m1, .ref m2, .ref m3, .ref m4, .ref m5, .int (nI (zset b fl v)), .int (nI qt), .int (nI nn), .ref m6, .ref m7, .ref m8, .ref m9, .ref m10, .ref m11, .ref m12, .ref m13, .ref m14, .ref m15, .int mam]))]) := by
  refine zW.of (cc := cX5_fail) (maxL := 4) (ret := (some .boolean)) (by decide) rfl rfl ?_
  intro p e s m below meth c ls C hP hK hD hl
  obtain ⟨hx, hb, hr, hml, hts, hown, hlocks⟩ := C
  have hS : va_S (zIn [(M, .inr (5, [.int thr, .ref m1, .ref m2, .ref m3, .ref m4, .ref m5, .int (nI fl), .int (nI qt), .int (nI nn), .ref m6, .ref m7, .ref m8, .ref m9, .ref m10, .ref m11, .ref m12, .ref m13, .ref m14, .ref m15, .int mam]))]) s.heap s.heap [] := va_S.rf
  have hl : lv_has ls 4 [(0, .ref M), (1, .int (nI v)), (2, .int (bI (b)))] := hl
  refine lv_aload_n hx hb dX5_fail_0 rfl (lv_at hl 0 rfl) ?_
  refine lv_iload_n hx hb dX5_fail_1 rfl (lv_at hl 1 rfl) ?_
  refine z_callS (As := [.int (nI v)]) (rest := [.ref M]) ⟨hx, hb, hml, hown, hts⟩ hK hP hS (c_X5_isService (x := nI v)) (va_cwS 1 hts gX5_fail_X5_isService rfl rfl rfl k_yX5_isService ⟨Nat.le_of_ble_eq_true rfl, Nat.le_of_ble_eq_true rfl⟩) rfl hl.1 rfl rfl dX5_fail_2 ⟨Nat.le_of_ble_eq_true rfl, Nat.le_of_ble_eq_true rfl⟩ (fun H locs hP hS => ?_)
  refine z_top (y := nI 1) (bI_in (by omega) (by omega)) ?_
  refine lv_if_eq (tgt := 12) hx hb dX5_fail_5 (by decide) (fun cb1 => ?_) (fun cb1 => ?_)
  · have cb1 : 1 = 0 := zn_eq_t (a := 1) (b := 0) (by omega) (by omega) cb1
    exact absurd cb1 (by decide)
  · have cb1 : ¬ (1 = 0) := zn_eq_f (a := 1) (b := 0) (by omega) (by omega) cb1
    refine lv_iconst (v := nI 0) hx hb dX5_fail_8 (by decide) ?_
    refine lv_goto (tgt := 13) hx hb dX5_fail_9 (by decide) ?_
    refine va_put (D := D) (ci := 5) (v := .int (nI 0)) (ty := .int) (C := RX5) (T := TX5) (N := 20) hx hb hts in_wsX5_fail_X5 tyX5 tyX5_ok nmX5 hown hK.1 hP hD hS 0 rfl rfl 0 (by decide) (hts _ lk344_wsX5_fail) (fun _ h9 => h9) rfl (by decide +kernel) rfl rfl (Nat.le_of_ble_eq_true rfl) dX5_fail_13 (fun H locs hP hD hS => ?_)
    have hP : va_P D vwCl [(M, .inr (5, [.int (nI 0), .ref m1, .ref m2, .ref m3, .ref m4, .ref m5, .int (nI fl), .int (nI qt), .int (nI nn), .ref m6, .ref m7, .ref m8, .ref m9, .ref m10, .ref m11, .ref m12, .ref m13, .ref m14, .ref m15, .int mam]))] H := hP
    have hD : va_D (zIn [(M, .inr (5, [.int thr, .ref m1, .ref m2, .ref m3, .ref m4, .ref m5, .int (nI fl), .int (nI qt), .int (nI nn), .ref m6, .ref m7, .ref m8, .ref m9, .ref m10, .ref m11, .ref m12, .ref m13, .ref m14, .ref m15, .int mam]))]) [(M, .inr (5, [.int (nI 0), .ref m1, .ref m2, .ref m3, .ref m4, .ref m5, .int (nI fl), .int (nI qt), .int (nI nn), .ref m6, .ref m7, .ref m8, .ref m9, .ref m10, .ref m11, .ref m12, .ref m13, .ref m14, .ref m15, .int mam]))] := hD
    refine lv_aload_n hx hb dX5_fail_16 rfl (lv_at hl 0 rfl) ?_
    refine va_get (D := D) (ci := 5) (v := .int (nI 0)) (C := RX5) (T := TX5) (N := 20) hx hb hts in_wsX5_fail_X5 hown hK.1 hP 0 rfl rfl 0 (by decide) (hts _ lk344_wsX5_fail) (fun _ h9 => h9) rfl dX5_fail_17 ?_
    refine lv_if_le (tgt := 25) hx hb dX5_fail_20 (by decide) (fun cb2 => ?_) (fun cb2 => ?_)
    · have cb2 : 0 ≤ 0 := zn_le_t (a := 0) (b := 0) (by omega) (by omega) cb2
      refine lv_aload_n hx hb dX5_fail_25 rfl (lv_at hl 0 rfl) ?_
      refine va_get (D := D) (ci := 5) (v := .int (nI fl)) (C := RX5) (T := TX5) (N := 20) hx hb hts in_wsX5_fail_X5 hown hK.1 hP 0 rfl rfl 6 (by decide) (hts _ lk346_wsX5_fail) (fun _ h9 => h9) rfl dX5_fail_26 ?_
      refine lv_istore_n (lv' := [(3, .int (nI fl)), (0, .ref M), (1, .int (nI v)), (2, .int (bI (b)))]) hx hb dX5_fail_29 rfl hl (by decide) rfl (fun ls hl => ?_)
      refine lv_aload_n hx hb dX5_fail_30 rfl (lv_at hl 1 rfl) ?_
      refine lv_iload_n hx hb dX5_fail_31 rfl (lv_at hl 3 rfl) ?_
      refine lv_if_eq (tgt := 43) hx hb dX5_fail_32 (by decide) (fun cb3 => ?_) (fun cb3 => ?_)
      · have cb3 : (b) = false := bI_t0 cb3
        refine lv_iload_n hx hb dX5_fail_43 rfl (lv_at hl 0 rfl) ?_
        refine lv_iconst (v := nI 1) hx hb dX5_fail_44 (by decide) ?_
        refine lv_iload_n hx hb dX5_fail_45 rfl (lv_at hl 2 rfl) ?_
        refine lv_ishl hx hb dX5_fail_46 ?_
        refine z_top (y := nI (2 ^ v)) (z_shl1 v (by omega)) ?_
        refine lv_iconst (v := (-1 : Int32)) hx hb dX5_fail_47 (by decide) ?_
        refine lv_ixor hx hb dX5_fail_48 ?_
        refine z_top (y := (nI (2 ^ v) ^^^ (-1 : Int32))) rfl ?_
        refine lv_iand hx hb dX5_fail_49 ?_
        refine z_top (y := nI (zset b fl v)) (by rw [cb3]; exact z_andn _ hfl _ hv) ?_
        refine va_put (D := D) (ci := 5) (v := .int (nI (zset b fl v))) (ty := .int) (C := RX5) (T := TX5) (N := 20) hx hb hts in_wsX5_fail_X5 tyX5 tyX5_ok nmX5 hown hK.1 hP hD hS 0 rfl rfl 6 (by decide) (hts _ lk346_wsX5_fail) (fun _ h9 => h9) rfl (by decide +kernel) rfl rfl (Nat.le_of_ble_eq_true rfl) dX5_fail_50 (fun H locs hP hD hS => ?_)
        have hP : va_P D vwCl [(M, .inr (5, [.int (nI 0), .ref m1, .ref m2, .ref m3, .ref m4, .ref m5, .int (nI (zset b fl v)), .int (nI qt), .int (nI nn), .ref m6, .ref m7, .ref m8, .ref m9, .ref m10, .ref m11, .ref m12, .ref m13, .ref m14, .ref m15, .int mam]))] H := hP
        have hD : va_D (zIn [(M, .inr (5, [.int thr, .ref m1, .ref m2, .ref m3, .ref m4, .ref m5, .int (nI fl), .int (nI qt), .int (nI nn), .ref m6, .ref m7, .ref m8, .ref m9, .ref m10, .ref m11, .ref m12, .ref m13, .ref m14, .ref m15, .int mam]))]) [(M, .inr (5, [.int (nI 0), .ref m1, .ref m2, .ref m3, .ref m4, .ref m5, .int (nI (zset b fl v)), .int (nI qt), .int (nI nn), .ref m6, .ref m7, .ref m8, .ref m9, .ref m10, .ref m11, .ref m12, .ref m13, .ref m14, .ref m15, .int mam]))] := hD
        refine lv_iload_n hx hb dX5_fail_53 rfl (lv_at hl 0 rfl) ?_
        refine lv_iload_n hx hb dX5_fail_54 rfl (lv_at hl 2 rfl) ?_
        refine lv_ishr hx hb dX5_fail_55 ?_
        refine z_top (y := (nI fl >>> (nI v &&& 31))) rfl ?_
        refine lv_iconst (v := nI 1) hx hb dX5_fail_56 (by decide) ?_
        refine lv_iand hx hb dX5_fail_57 ?_
        refine z_top (y := bI (fl.testBit v)) (z_bit16 _ hfl _ hv) ?_
        refine lv_iconst (v := nI 1) hx hb dX5_fail_58 (by decide) ?_
        refine lv_icmp_ne (tgt := 66) hx hb dX5_fail_59 (by decide) (fun cb4 => ?_) (fun cb4 => ?_)
        · have cb4 : (fl.testBit v) = false := bI_f1 cb4
          refine lv_iconst (v := nI 0) hx hb dX5_fail_66 (by decide) ?_
          exact z_zretW () hx hb hr hlocks hS dX5_fail_67 hP (by rw [cb4]; rfl) (by decide)
        · have cb4 : (fl.testBit v) = true := bI_t1 cb4
          refine lv_iconst (v := nI 1) hx hb dX5_fail_62 (by decide) ?_
          refine lv_goto (tgt := 67) hx hb dX5_fail_63 (by decide) ?_
          exact z_zretW () hx hb hr hlocks hS dX5_fail_67 hP (by rw [cb4]; rfl) (by decide)
      · have cb3 : (b) = true := bI_f0 cb3
        refine lv_iload_n hx hb dX5_fail_35 rfl (lv_at hl 0 rfl) ?_
        refine lv_iconst (v := nI 1) hx hb dX5_fail_36 (by decide) ?_
        refine lv_iload_n hx hb dX5_fail_37 rfl (lv_at hl 2 rfl) ?_
        refine lv_ishl hx hb dX5_fail_38 ?_
        refine z_top (y := nI (2 ^ v)) (z_shl1 v (by omega)) ?_
        refine lv_ior hx hb dX5_fail_39 ?_
        refine z_top (y := nI (zset b fl v)) (by rw [cb3]; exact nI_or _ _) ?_
        refine lv_goto (tgt := 50) hx hb dX5_fail_40 (by decide) ?_
        refine va_put (D := D) (ci := 5) (v := .int (nI (zset b fl v))) (ty := .int) (C := RX5) (T := TX5) (N := 20) hx hb hts in_wsX5_fail_X5 tyX5 tyX5_ok nmX5 hown hK.1 hP hD hS 0 rfl rfl 6 (by decide) (hts _ lk346_wsX5_fail) (fun _ h9 => h9) rfl (by decide +kernel) rfl rfl (Nat.le_of_ble_eq_true rfl) dX5_fail_50 (fun H locs hP hD hS => ?_)
        have hP : va_P D vwCl [(M, .inr (5, [.int (nI 0), .ref m1, .ref m2, .ref m3, .ref m4, .ref m5, .int (nI (zset b fl v)), .int (nI qt), .int (nI nn), .ref m6, .ref m7, .ref m8, .ref m9, .ref m10, .ref m11, .ref m12, .ref m13, .ref m14, .ref m15, .int mam]))] H := hP
        have hD : va_D (zIn [(M, .inr (5, [.int thr, .ref m1, .ref m2, .ref m3, .ref m4, .ref m5, .int (nI fl), .int (nI qt), .int (nI nn), .ref m6, .ref m7, .ref m8, .ref m9, .ref m10, .ref m11, .ref m12, .ref m13, .ref m14, .ref m15, .int mam]))]) [(M, .inr (5, [.int (nI 0), .ref m1, .ref m2, .ref m3, .ref m4, .ref m5, .int (nI (zset b fl v)), .int (nI qt), .int (nI nn), .ref m6, .ref m7, .ref m8, .ref m9, .ref m10, .ref m11, .ref m12, .ref m13, .ref m14, .ref m15, .int mam]))] := hD
        refine lv_iload_n hx hb dX5_fail_53 rfl (lv_at hl 0 rfl) ?_
        refine lv_iload_n hx hb dX5_fail_54 rfl (lv_at hl 2 rfl) ?_
        refine lv_ishr hx hb dX5_fail_55 ?_
        refine z_top (y := (nI fl >>> (nI v &&& 31))) rfl ?_
        refine lv_iconst (v := nI 1) hx hb dX5_fail_56 (by decide) ?_
        refine lv_iand hx hb dX5_fail_57 ?_
        refine z_top (y := bI (fl.testBit v)) (z_bit16 _ hfl _ hv) ?_
        refine lv_iconst (v := nI 1) hx hb dX5_fail_58 (by decide) ?_
        refine lv_icmp_ne (tgt := 66) hx hb dX5_fail_59 (by decide) (fun cb5 => ?_) (fun cb5 => ?_)
        · have cb5 : (fl.testBit v) = false := bI_f1 cb5
          refine lv_iconst (v := nI 0) hx hb dX5_fail_66 (by decide) ?_
          exact z_zretW () hx hb hr hlocks hS dX5_fail_67 hP (by rw [cb5]; rfl) (by decide)
        · have cb5 : (fl.testBit v) = true := bI_t1 cb5
          refine lv_iconst (v := nI 1) hx hb dX5_fail_62 (by decide) ?_
          refine lv_goto (tgt := 67) hx hb dX5_fail_63 (by decide) ?_
          exact z_zretW () hx hb hr hlocks hS dX5_fail_67 hP (by rw [cb5]; rfl) (by decide)
    · have cb2 : ¬ (0 ≤ 0) := zn_le_f (a := 0) (b := 0) (by omega) (by omega) cb2
      exact absurd cb2 (by decide)
set_option maxHeartbeats 4000000 in
set_option maxRecDepth 100000 in
theorem c_X5_fail_bad {l : Launch} {D : va_G} {cy : zCy} {M m1 m2 m3 m4 m5 m6 m7 m8 m9 m10 m11 m12 m13 m14 m15 nn qt fl : Nat} {thr mam : Int32} {x : Int32} (hbad : ¬ inN 4 x) (b : Bool) : zW (Unit) l yX5_fail wsX5_fail rmX5_fail D cy [(M, .inr (5, [.int thr, .ref m1, .ref m2, .ref m3, .ref m4, .ref m5, .int (nI fl), .int (nI qt), .int (nI nn), .ref m6, .ref m7, .ref m8, .ref m9, .ref m10, .ref m11, .ref m12, .ref m13, .ref m14, .ref m15, .int mam]))] [.ref M, .int x, .int (bI (b))] (fun _ _ => True) (fun _ => [(M, .inr (5, [.int (nI 1), .ref m1, .ref m2, .ref m3, .ref m4, .ref m5, .int (nI fl), .int (nI qt), .int (nI nn), .ref m6, .ref m7, .ref m8, .ref m9, .ref m10, .ref m11, .ref m12, .ref m13, .ref m14, .ref m15, .int mam]))]) := by
  refine zW.of (cc := cX5_fail) (maxL := 4) (ret := (some .boolean)) (by decide) rfl rfl ?_
  intro p e s m below meth c ls C hP hK hD hl
  obtain ⟨hx, hb, hr, hml, hts, hown, hlocks⟩ := C
  have hS : va_S (zIn [(M, .inr (5, [.int thr, .ref m1, .ref m2, .ref m3, .ref m4, .ref m5, .int (nI fl), .int (nI qt), .int (nI nn), .ref m6, .ref m7, .ref m8, .ref m9, .ref m10, .ref m11, .ref m12, .ref m13, .ref m14, .ref m15, .int mam]))]) s.heap s.heap [] := va_S.rf
  have hl : lv_has ls 4 [(0, .ref M), (1, .int x), (2, .int (bI (b)))] := hl
  refine lv_aload_n hx hb dX5_fail_0 rfl (lv_at hl 0 rfl) ?_
  refine lv_iload_n hx hb dX5_fail_1 rfl (lv_at hl 1 rfl) ?_
  refine z_callS (As := [.int x]) (rest := [.ref M]) ⟨hx, hb, hml, hown, hts⟩ hK hP hS (c_X5_isService (x := x)) (va_cwS 1 hts gX5_fail_X5_isService rfl rfl rfl k_yX5_isService ⟨Nat.le_of_ble_eq_true rfl, Nat.le_of_ble_eq_true rfl⟩) rfl hl.1 rfl rfl dX5_fail_2 ⟨Nat.le_of_ble_eq_true rfl, Nat.le_of_ble_eq_true rfl⟩ (fun H locs hP hS => ?_)
  refine lv_if_eq (tgt := 12) hx hb dX5_fail_5 (by decide) (fun cb1 => ?_) (fun cb1 => ?_)
  · have cb1 : (decide (inN 4 x)) = false := bI_t0 cb1
    refine lv_iconst (v := nI 1) hx hb dX5_fail_12 (by decide) ?_
    refine va_put (D := D) (ci := 5) (v := .int (nI 1)) (ty := .int) (C := RX5) (T := TX5) (N := 20) hx hb hts in_wsX5_fail_X5 tyX5 tyX5_ok nmX5 hown hK.1 hP hD hS 0 rfl rfl 0 (by decide) (hts _ lk344_wsX5_fail) (fun _ h9 => h9) rfl (by decide +kernel) rfl rfl (Nat.le_of_ble_eq_true rfl) dX5_fail_13 (fun H locs hP hD hS => ?_)
    have hP : va_P D vwCl [(M, .inr (5, [.int (nI 1), .ref m1, .ref m2, .ref m3, .ref m4, .ref m5, .int (nI fl), .int (nI qt), .int (nI nn), .ref m6, .ref m7, .ref m8, .ref m9, .ref m10, .ref m11, .ref m12, .ref m13, .ref m14, .ref m15, .int mam]))] H := hP
    have hD : va_D (zIn [(M, .inr (5, [.int thr, .ref m1, .ref m2, .ref m3, .ref m4, .ref m5, .int (nI fl), .int (nI qt), .int (nI nn), .ref m6, .ref m7, .ref m8, .ref m9, .ref m10, .ref m11, .ref m12, .ref m13, .ref m14, .ref m15, .int mam]))]) [(M, .inr (5, [.int (nI 1), .ref m1, .ref m2, .ref m3, .ref m4, .ref m5, .int (nI fl), .int (nI qt), .int (nI nn), .ref m6, .ref m7, .ref m8, .ref m9, .ref m10, .ref m11, .ref m12, .ref m13, .ref m14, .ref m15, .int mam]))] := hD
    refine lv_aload_n hx hb dX5_fail_16 rfl (lv_at hl 0 rfl) ?_
    refine va_get (D := D) (ci := 5) (v := .int (nI 1)) (C := RX5) (T := TX5) (N := 20) hx hb hts in_wsX5_fail_X5 hown hK.1 hP 0 rfl rfl 0 (by decide) (hts _ lk344_wsX5_fail) (fun _ h9 => h9) rfl dX5_fail_17 ?_
    refine lv_if_le (tgt := 25) hx hb dX5_fail_20 (by decide) (fun cb2 => ?_) (fun cb2 => ?_)
    · have cb2 : 1 ≤ 0 := zn_le_t (a := 1) (b := 0) (by omega) (by omega) cb2
      exact absurd cb2 (by decide)
    · have cb2 : ¬ (1 ≤ 0) := zn_le_f (a := 1) (b := 0) (by omega) (by omega) cb2
      refine lv_iconst (v := nI 0) hx hb dX5_fail_23 (by decide) ?_
      exact z_zretW () hx hb hr hlocks hS dX5_fail_24 hP trivial (by decide)
  · have cb1 : (decide (inN 4 x)) = true := bI_f0 cb1
    exact absurd (of_decide_eq_true cb1) hbad
set_option maxRecDepth 20000 in
theorem lk347_wsX5_begin : Cond.fieldLink RX5 56 "QueryGatewayModel" "thrown" "I" ∈ wsX5_begin := by decide +kernel
set_option maxRecDepth 20000 in
theorem in_wsX5_begin_X5 : ∀ w ∈ wsX50, w ∈ wsX5_begin := by decide +kernel
set_option maxRecDepth 20000 in
theorem lk349_wsX5_begin : Cond.fieldLink RX5 81 "QueryGatewayModel" "nodes" "I" ∈ wsX5_begin := by decide +kernel
set_option maxRecDepth 20000 in
theorem lk350_wsX5_begin : Cond.fieldLink RX5 84 "QueryGatewayModel" "queryType" "I" ∈ wsX5_begin := by decide +kernel
abbrev rmX5_begin : Room := { frames := 2, cells := 0, slots := 0, locals := 42 }
set_option maxHeartbeats 4000000 in
set_option maxRecDepth 100000 in
theorem c_X5_begin_ok {l : Launch} {D : va_G} {cy : zCy} {M m1 m2 m3 m4 m5 m6 m7 m8 m9 m10 m11 m12 m13 m14 m15 nn qt fl : Nat} {thr mam : Int32} {t : Nat} (ht : t < 4) : zW (Unit) l yX5_begin wsX5_begin rmX5_begin D cy [(M, .inr (5, [.int thr, .ref m1, .ref m2, .ref m3, .ref m4, .ref m5, .int (nI fl), .int (nI qt), .int (nI nn), .ref m6, .ref m7, .ref m8, .ref m9, .ref m10, .ref m11, .ref m12, .ref m13, .ref m14, .ref m15, .int mam]))] [.ref M, .int (nI t)] (fun r _ => r = nI nn) (fun _ => [(M, .inr (5, [.int (nI 0), .ref m1, .ref m2, .ref m3, .ref m4, .ref m5, .int (nI fl), .int (nI t), .int (nI 0), .ref m6, .ref m7, .ref m8, .ref m9, .ref m10, .ref m11, .ref m12, .ref m13, .ref m14, .ref m15, .int mam]))]) := by
  refine zW.of (cc := cX5_begin) (maxL := 3) (ret := (some .int)) (by decide) rfl rfl ?_
  intro p e s m below meth c ls C hP hK hD hl
  obtain ⟨hx, hb, hr, hml, hts, hown, hlocks⟩ := C
  have hS : va_S (zIn [(M, .inr (5, [.int thr, .ref m1, .ref m2, .ref m3, .ref m4, .ref m5, .int (nI fl), .int (nI qt), .int (nI nn), .ref m6, .ref m7, .ref m8, .ref m9, .ref m10, .ref m11, .ref m12, .ref m13, .ref m14, .ref m15, .int mam]))]) s.heap s.heap [] := va_S.rf
  have hl : lv_has ls 3 [(0, .ref M), (1, .int (nI t))] := hl
  refine lv_aload_n hx hb dX5_begin_0 rfl (lv_at hl 0 rfl) ?_
  refine lv_iload_n hx hb dX5_begin_1 rfl (lv_at hl 1 rfl) ?_
  refine z_callS (As := [.int (nI t)]) (rest := [.ref M]) ⟨hx, hb, hml, hown, hts⟩ hK hP hS (c_X5_isType (x := nI t)) (va_cwS 1 hts gX5_begin_X5_isType rfl rfl rfl k_yX5_isType ⟨Nat.le_of_ble_eq_true rfl, Nat.le_of_ble_eq_true rfl⟩) rfl hl.1 rfl rfl dX5_begin_2 ⟨Nat.le_of_ble_eq_true rfl, Nat.le_of_ble_eq_true rfl⟩ (fun H locs hP hS => ?_)
  refine z_top (y := nI 1) (bI_in (by omega) (by omega)) ?_
  refine lv_if_eq (tgt := 12) hx hb dX5_begin_5 (by decide) (fun cb1 => ?_) (fun cb1 => ?_)
  · have cb1 : 1 = 0 := zn_eq_t (a := 1) (b := 0) (by omega) (by omega) cb1
    exact absurd cb1 (by decide)
  · have cb1 : ¬ (1 = 0) := zn_eq_f (a := 1) (b := 0) (by omega) (by omega) cb1
    refine lv_iconst (v := nI 0) hx hb dX5_begin_8 (by decide) ?_
    refine lv_goto (tgt := 13) hx hb dX5_begin_9 (by decide) ?_
    refine va_put (D := D) (ci := 5) (v := .int (nI 0)) (ty := .int) (C := RX5) (T := TX5) (N := 20) hx hb hts in_wsX5_begin_X5 tyX5 tyX5_ok nmX5 hown hK.1 hP hD hS 0 rfl rfl 0 (by decide) (hts _ lk347_wsX5_begin) (fun _ h9 => h9) rfl (by decide +kernel) rfl rfl (Nat.le_of_ble_eq_true rfl) dX5_begin_13 (fun H locs hP hD hS => ?_)
    have hP : va_P D vwCl [(M, .inr (5, [.int (nI 0), .ref m1, .ref m2, .ref m3, .ref m4, .ref m5, .int (nI fl), .int (nI qt), .int (nI nn), .ref m6, .ref m7, .ref m8, .ref m9, .ref m10, .ref m11, .ref m12, .ref m13, .ref m14, .ref m15, .int mam]))] H := hP
    have hD : va_D (zIn [(M, .inr (5, [.int thr, .ref m1, .ref m2, .ref m3, .ref m4, .ref m5, .int (nI fl), .int (nI qt), .int (nI nn), .ref m6, .ref m7, .ref m8, .ref m9, .ref m10, .ref m11, .ref m12, .ref m13, .ref m14, .ref m15, .int mam]))]) [(M, .inr (5, [.int (nI 0), .ref m1, .ref m2, .ref m3, .ref m4, .ref m5, .int (nI fl), .int (nI qt), .int (nI nn), .ref m6, .ref m7, .ref m8, .ref m9, .ref m10, .ref m11, .ref m12, .ref m13, .ref m14, .ref m15, .int mam]))] := hD
    refine lv_aload_n hx hb dX5_begin_16 rfl (lv_at hl 0 rfl) ?_
    refine va_get (D := D) (ci := 5) (v := .int (nI 0)) (C := RX5) (T := TX5) (N := 20) hx hb hts in_wsX5_begin_X5 hown hK.1 hP 0 rfl rfl 0 (by decide) (hts _ lk347_wsX5_begin) (fun _ h9 => h9) rfl dX5_begin_17 ?_
    refine lv_if_le (tgt := 25) hx hb dX5_begin_20 (by decide) (fun cb2 => ?_) (fun cb2 => ?_)
    · have cb2 : 0 ≤ 0 := zn_le_t (a := 0) (b := 0) (by omega) (by omega) cb2
      refine lv_aload_n hx hb dX5_begin_25 rfl (lv_at hl 0 rfl) ?_
      refine va_get (D := D) (ci := 5) (v := .int (nI nn)) (C := RX5) (T := TX5) (N := 20) hx hb hts in_wsX5_begin_X5 hown hK.1 hP 0 rfl rfl 8 (by decide) (hts _ lk349_wsX5_begin) (fun _ h9 => h9) rfl dX5_begin_26 ?_
      refine lv_istore_n (lv' := [(2, .int (nI nn)), (0, .ref M), (1, .int (nI t))]) hx hb dX5_begin_29 rfl hl (by decide) rfl (fun ls hl => ?_)
      refine lv_aload_n hx hb dX5_begin_30 rfl (lv_at hl 1 rfl) ?_
      refine lv_iconst (v := nI 0) hx hb dX5_begin_31 (by decide) ?_
      refine va_put (D := D) (ci := 5) (v := .int (nI 0)) (ty := .int) (C := RX5) (T := TX5) (N := 20) hx hb hts in_wsX5_begin_X5 tyX5 tyX5_ok nmX5 hown hK.1 hP hD hS 0 rfl rfl 8 (by decide) (hts _ lk349_wsX5_begin) (fun _ h9 => h9) rfl (by decide +kernel) rfl rfl (Nat.le_of_ble_eq_true rfl) dX5_begin_32 (fun H locs hP hD hS => ?_)
      have hP : va_P D vwCl [(M, .inr (5, [.int (nI 0), .ref m1, .ref m2, .ref m3, .ref m4, .ref m5, .int (nI fl), .int (nI qt), .int (nI 0), .ref m6, .ref m7, .ref m8, .ref m9, .ref m10, .ref m11, .ref m12, .ref m13, .ref m14, .ref m15, .int mam]))] H := hP
      have hD : va_D (zIn [(M, .inr (5, [.int thr, .ref m1, .ref m2, .ref m3, .ref m4, .ref m5, .int (nI fl), .int (nI qt), .int (nI nn), .ref m6, .ref m7, .ref m8, .ref m9, .ref m10, .ref m11, .ref m12, .ref m13, .ref m14, .ref m15, .int mam]))]) [(M, .inr (5, [.int (nI 0), .ref m1, .ref m2, .ref m3, .ref m4, .ref m5, .int (nI fl), .int (nI qt), .int (nI 0), .ref m6, .ref m7, .ref m8, .ref m9, .ref m10, .ref m11, .ref m12, .ref m13, .ref m14, .ref m15, .int mam]))] := hD
      refine lv_aload_n hx hb dX5_begin_35 rfl (lv_at hl 1 rfl) ?_
      refine lv_iload_n hx hb dX5_begin_36 rfl (lv_at hl 2 rfl) ?_
      refine va_put (D := D) (ci := 5) (v := .int (nI t)) (ty := .int) (C := RX5) (T := TX5) (N := 20) hx hb hts in_wsX5_begin_X5 tyX5 tyX5_ok nmX5 hown hK.1 hP hD hS 0 rfl rfl 7 (by decide) (hts _ lk350_wsX5_begin) (fun _ h9 => h9) rfl (by decide +kernel) rfl rfl (Nat.le_of_ble_eq_true rfl) dX5_begin_37 (fun H locs hP hD hS => ?_)
      have hP : va_P D vwCl [(M, .inr (5, [.int (nI 0), .ref m1, .ref m2, .ref m3, .ref m4, .ref m5, .int (nI fl), .int (nI t), .int (nI 0), .ref m6, .ref m7, .ref m8, .ref m9, .ref m10, .ref m11, .ref m12, .ref m13, .ref m14, .ref m15, .int mam]))] H := hP
      have hD : va_D (zIn [(M, .inr (5, [.int thr, .ref m1, .ref m2, .ref m3, .ref m4, .ref m5, .int (nI fl), .int (nI qt), .int (nI nn), .ref m6, .ref m7, .ref m8, .ref m9, .ref m10, .ref m11, .ref m12, .ref m13, .ref m14, .ref m15, .int mam]))]) [(M, .inr (5, [.int (nI 0), .ref m1, .ref m2, .ref m3, .ref m4, .ref m5, .int (nI fl), .int (nI t), .int (nI 0), .ref m6, .ref m7, .ref m8, .ref m9, .ref m10, .ref m11, .ref m12, .ref m13, .ref m14, .ref m15, .int mam]))] := hD
      refine lv_iload_n hx hb dX5_begin_40 rfl (lv_at hl 0 rfl) ?_
      exact z_iretW () hx hb hr hlocks hS dX5_begin_41 hP rfl
    · have cb2 : ¬ (0 ≤ 0) := zn_le_f (a := 0) (b := 0) (by omega) (by omega) cb2
      exact absurd cb2 (by decide)
set_option maxHeartbeats 4000000 in
set_option maxRecDepth 100000 in
theorem c_X5_begin_bad {l : Launch} {D : va_G} {cy : zCy} {M m1 m2 m3 m4 m5 m6 m7 m8 m9 m10 m11 m12 m13 m14 m15 nn qt fl : Nat} {thr mam : Int32} {x : Int32} (hbad : ¬ inN 4 x) : zW (Unit) l yX5_begin wsX5_begin rmX5_begin D cy [(M, .inr (5, [.int thr, .ref m1, .ref m2, .ref m3, .ref m4, .ref m5, .int (nI fl), .int (nI qt), .int (nI nn), .ref m6, .ref m7, .ref m8, .ref m9, .ref m10, .ref m11, .ref m12, .ref m13, .ref m14, .ref m15, .int mam]))] [.ref M, .int x] (fun _ _ => True) (fun _ => [(M, .inr (5, [.int (nI 1), .ref m1, .ref m2, .ref m3, .ref m4, .ref m5, .int (nI fl), .int (nI qt), .int (nI nn), .ref m6, .ref m7, .ref m8, .ref m9, .ref m10, .ref m11, .ref m12, .ref m13, .ref m14, .ref m15, .int mam]))]) := by
  refine zW.of (cc := cX5_begin) (maxL := 3) (ret := (some .int)) (by decide) rfl rfl ?_
  intro p e s m below meth c ls C hP hK hD hl
  obtain ⟨hx, hb, hr, hml, hts, hown, hlocks⟩ := C
  have hS : va_S (zIn [(M, .inr (5, [.int thr, .ref m1, .ref m2, .ref m3, .ref m4, .ref m5, .int (nI fl), .int (nI qt), .int (nI nn), .ref m6, .ref m7, .ref m8, .ref m9, .ref m10, .ref m11, .ref m12, .ref m13, .ref m14, .ref m15, .int mam]))]) s.heap s.heap [] := va_S.rf
  have hl : lv_has ls 3 [(0, .ref M), (1, .int x)] := hl
  refine lv_aload_n hx hb dX5_begin_0 rfl (lv_at hl 0 rfl) ?_
  refine lv_iload_n hx hb dX5_begin_1 rfl (lv_at hl 1 rfl) ?_
  refine z_callS (As := [.int x]) (rest := [.ref M]) ⟨hx, hb, hml, hown, hts⟩ hK hP hS (c_X5_isType (x := x)) (va_cwS 1 hts gX5_begin_X5_isType rfl rfl rfl k_yX5_isType ⟨Nat.le_of_ble_eq_true rfl, Nat.le_of_ble_eq_true rfl⟩) rfl hl.1 rfl rfl dX5_begin_2 ⟨Nat.le_of_ble_eq_true rfl, Nat.le_of_ble_eq_true rfl⟩ (fun H locs hP hS => ?_)
  refine lv_if_eq (tgt := 12) hx hb dX5_begin_5 (by decide) (fun cb1 => ?_) (fun cb1 => ?_)
  · have cb1 : (decide (inN 4 x)) = false := bI_t0 cb1
    refine lv_iconst (v := nI 1) hx hb dX5_begin_12 (by decide) ?_
    refine va_put (D := D) (ci := 5) (v := .int (nI 1)) (ty := .int) (C := RX5) (T := TX5) (N := 20) hx hb hts in_wsX5_begin_X5 tyX5 tyX5_ok nmX5 hown hK.1 hP hD hS 0 rfl rfl 0 (by decide) (hts _ lk347_wsX5_begin) (fun _ h9 => h9) rfl (by decide +kernel) rfl rfl (Nat.le_of_ble_eq_true rfl) dX5_begin_13 (fun H locs hP hD hS => ?_)
    have hP : va_P D vwCl [(M, .inr (5, [.int (nI 1), .ref m1, .ref m2, .ref m3, .ref m4, .ref m5, .int (nI fl), .int (nI qt), .int (nI nn), .ref m6, .ref m7, .ref m8, .ref m9, .ref m10, .ref m11, .ref m12, .ref m13, .ref m14, .ref m15, .int mam]))] H := hP
    have hD : va_D (zIn [(M, .inr (5, [.int thr, .ref m1, .ref m2, .ref m3, .ref m4, .ref m5, .int (nI fl), .int (nI qt), .int (nI nn), .ref m6, .ref m7, .ref m8, .ref m9, .ref m10, .ref m11, .ref m12, .ref m13, .ref m14, .ref m15, .int mam]))]) [(M, .inr (5, [.int (nI 1), .ref m1, .ref m2, .ref m3, .ref m4, .ref m5, .int (nI fl), .int (nI qt), .int (nI nn), .ref m6, .ref m7, .ref m8, .ref m9, .ref m10, .ref m11, .ref m12, .ref m13, .ref m14, .ref m15, .int mam]))] := hD
    refine lv_aload_n hx hb dX5_begin_16 rfl (lv_at hl 0 rfl) ?_
    refine va_get (D := D) (ci := 5) (v := .int (nI 1)) (C := RX5) (T := TX5) (N := 20) hx hb hts in_wsX5_begin_X5 hown hK.1 hP 0 rfl rfl 0 (by decide) (hts _ lk347_wsX5_begin) (fun _ h9 => h9) rfl dX5_begin_17 ?_
    refine lv_if_le (tgt := 25) hx hb dX5_begin_20 (by decide) (fun cb2 => ?_) (fun cb2 => ?_)
    · have cb2 : 1 ≤ 0 := zn_le_t (a := 1) (b := 0) (by omega) (by omega) cb2
      exact absurd cb2 (by decide)
    · have cb2 : ¬ (1 ≤ 0) := zn_le_f (a := 1) (b := 0) (by omega) (by omega) cb2
      refine lv_iconst (v := nI 0) hx hb dX5_begin_23 (by decide) ?_
      exact z_iretW () hx hb hr hlocks hS dX5_begin_24 hP trivial
  · have cb1 : (decide (inN 4 x)) = true := bI_f0 cb1
    exact absurd (of_decide_eq_true cb1) hbad
set_option maxRecDepth 20000 in
theorem lk351_wsX5_nodes : Cond.fieldLink RX5 56 "QueryGatewayModel" "thrown" "I" ∈ wsX5_nodes := by decide +kernel
set_option maxRecDepth 20000 in
theorem in_wsX5_nodes_X5 : ∀ w ∈ wsX50, w ∈ wsX5_nodes := by decide +kernel
set_option maxRecDepth 20000 in
theorem lk353_wsX5_nodes : Cond.fieldLink RX5 81 "QueryGatewayModel" "nodes" "I" ∈ wsX5_nodes := by decide +kernel
abbrev rmX5_nodes : Room := { frames := 0, cells := 0, slots := 0, locals := 0 }
set_option maxHeartbeats 4000000 in
set_option maxRecDepth 100000 in
theorem c_X5_nodes {l : Launch} {D : va_G} {cy : zCy} {M m1 m2 m3 m4 m5 m6 m7 m8 m9 m10 m11 m12 m13 m14 m15 nn qt fl : Nat} {thr mam : Int32}  : zW (Unit) l yX5_nodes wsX5_nodes rmX5_nodes D cy [(M, .inr (5, [.int thr, .ref m1, .ref m2, .ref m3, .ref m4, .ref m5, .int (nI fl), .int (nI qt), .int (nI nn), .ref m6, .ref m7, .ref m8, .ref m9, .ref m10, .ref m11, .ref m12, .ref m13, .ref m14, .ref m15, .int mam]))] [.ref M] (fun r _ => r = nI nn) (fun _ => [(M, .inr (5, [.int (nI 0), .ref m1, .ref m2, .ref m3, .ref m4, .ref m5, .int (nI fl), .int (nI qt), .int (nI nn), .ref m6, .ref m7, .ref m8, .ref m9, .ref m10, .ref m11, .ref m12, .ref m13, .ref m14, .ref m15, .int mam]))]) := by
  refine zW.of (cc := cX5_nodes) (maxL := 1) (ret := (some .int)) (by decide) rfl rfl ?_
  intro p e s m below meth c ls C hP hK hD hl
  obtain ⟨hx, hb, hr, hml, hts, hown, hlocks⟩ := C
  have hS : va_S (zIn [(M, .inr (5, [.int thr, .ref m1, .ref m2, .ref m3, .ref m4, .ref m5, .int (nI fl), .int (nI qt), .int (nI nn), .ref m6, .ref m7, .ref m8, .ref m9, .ref m10, .ref m11, .ref m12, .ref m13, .ref m14, .ref m15, .int mam]))]) s.heap s.heap [] := va_S.rf
  have hl : lv_has ls 1 [(0, .ref M)] := hl
  refine lv_aload_n hx hb dX5_nodes_0 rfl (lv_at hl 0 rfl) ?_
  refine lv_iconst (v := nI 0) hx hb dX5_nodes_1 (by decide) ?_
  refine va_put (D := D) (ci := 5) (v := .int (nI 0)) (ty := .int) (C := RX5) (T := TX5) (N := 20) hx hb hts in_wsX5_nodes_X5 tyX5 tyX5_ok nmX5 hown hK.1 hP hD hS 0 rfl rfl 0 (by decide) (hts _ lk351_wsX5_nodes) (fun _ h9 => h9) rfl (by decide +kernel) rfl rfl (Nat.le_of_ble_eq_true rfl) dX5_nodes_2 (fun H locs hP hD hS => ?_)
  have hP : va_P D vwCl [(M, .inr (5, [.int (nI 0), .ref m1, .ref m2, .ref m3, .ref m4, .ref m5, .int (nI fl), .int (nI qt), .int (nI nn), .ref m6, .ref m7, .ref m8, .ref m9, .ref m10, .ref m11, .ref m12, .ref m13, .ref m14, .ref m15, .int mam]))] H := hP
  have hD : va_D (zIn [(M, .inr (5, [.int thr, .ref m1, .ref m2, .ref m3, .ref m4, .ref m5, .int (nI fl), .int (nI qt), .int (nI nn), .ref m6, .ref m7, .ref m8, .ref m9, .ref m10, .ref m11, .ref m12, .ref m13, .ref m14, .ref m15, .int mam]))]) [(M, .inr (5, [.int (nI 0), .ref m1, .ref m2, .ref m3, .ref m4, .ref m5, .int (nI fl), .int (nI qt), .int (nI nn), .ref m6, .ref m7, .ref m8, .ref m9, .ref m10, .ref m11, .ref m12, .ref m13, .ref m14, .ref m15, .int mam]))] := hD
  refine lv_aload_n hx hb dX5_nodes_5 rfl (lv_at hl 0 rfl) ?_
  refine va_get (D := D) (ci := 5) (v := .int (nI nn)) (C := RX5) (T := TX5) (N := 20) hx hb hts in_wsX5_nodes_X5 hown hK.1 hP 0 rfl rfl 8 (by decide) (hts _ lk353_wsX5_nodes) (fun _ h9 => h9) rfl dX5_nodes_6 ?_
  exact z_iretW () hx hb hr hlocks hS dX5_nodes_9 hP rfl
theorem k_yX5_isNode : yX5_isNode.cls = RX5 ∧ yX5_isNode.cls ≠ "java/lang/invoke/MethodHandle" ∧ yX5_isNode.cls ≠ "java/lang/invoke/VarHandle" ∧ (parseMethodDescriptor yX5_isNode.desc).map (fun d => d.parameters.length) = some 1 := by decide +kernel
set_option maxRecDepth 20000 in
theorem lk355_wsX5_typeOf : Cond.fieldLink RX5 56 "QueryGatewayModel" "thrown" "I" ∈ wsX5_typeOf := by decide +kernel
set_option maxRecDepth 20000 in
theorem in_wsX5_typeOf_X5 : ∀ w ∈ wsX50, w ∈ wsX5_typeOf := by decide +kernel
set_option maxRecDepth 20000 in
theorem lk357_wsX5_typeOf : Cond.fieldLink RX5 32 "QueryGatewayModel" "type" "[I" ∈ wsX5_typeOf := by decide +kernel
abbrev rmX5_typeOf : Room := { frames := 2, cells := 0, slots := 0, locals := 43 }
set_option maxHeartbeats 4000000 in
set_option maxRecDepth 100000 in
theorem c_X5_typeOf_ok {l : Launch} {D : va_G} {cy : zCy} {M m1 m2 m3 m4 m5 m6 m7 m8 m9 m10 m11 m12 m13 m14 m15 nn qt fl : Nat} {thr mam : Int32} {sl : Nat → Nat} (hn : nn ≤ 12) {k : Nat} (hk : k < nn) : zW (Unit) l yX5_typeOf wsX5_typeOf rmX5_typeOf D cy [(M, .inr (5, [.int thr, .ref m1, .ref m2, .ref m3, .ref m4, .ref m5, .int (nI fl), .int (nI qt), .int (nI nn), .ref m6, .ref m7, .ref m8, .ref m9, .ref m10, .ref m11, .ref m12, .ref m13, .ref m14, .ref m15, .int mam])), (m8, .inl (cy.1, 12, .inl (fun z => nI (sl z / 8))))] [.ref M, .int (nI k)] (fun r _ => r = nI (sl k / 8)) (fun _ => [(M, .inr (5, [.int (nI 0), .ref m1, .ref m2, .ref m3, .ref m4, .ref m5, .int (nI fl), .int (nI qt), .int (nI nn), .ref m6, .ref m7, .ref m8, .ref m9, .ref m10, .ref m11, .ref m12, .ref m13, .ref m14, .ref m15, .int mam])), (m8, .inl (cy.1, 12, .inl (fun z => nI (sl z / 8))))]) := by
  refine zW.of (cc := cX5_typeOf) (maxL := 2) (ret := (some .int)) (by decide) rfl rfl ?_
  intro p e s m below meth c ls C hP hK hD hl
  obtain ⟨hx, hb, hr, hml, hts, hown, hlocks⟩ := C
  have hS : va_S (zIn [(M, .inr (5, [.int thr, .ref m1, .ref m2, .ref m3, .ref m4, .ref m5, .int (nI fl), .int (nI qt), .int (nI nn), .ref m6, .ref m7, .ref m8, .ref m9, .ref m10, .ref m11, .ref m12, .ref m13, .ref m14, .ref m15, .int mam])), (m8, .inl (cy.1, 12, .inl (fun z => nI (sl z / 8))))]) s.heap s.heap [] := va_S.rf
  have hl : lv_has ls 2 [(0, .ref M), (1, .int (nI k))] := hl
  refine lv_aload_n hx hb dX5_typeOf_0 rfl (lv_at hl 0 rfl) ?_
  refine lv_aload_n hx hb dX5_typeOf_1 rfl (lv_at hl 0 rfl) ?_
  refine lv_iload_n hx hb dX5_typeOf_2 rfl (lv_at hl 1 rfl) ?_
  refine z_callV (b := M) (As := [.int (nI k)]) (rest := [.ref M]) ⟨hx, hb, hml, hown, hts⟩ hK hP hS (c_X5_isNode (i := 0) rfl hn (x := nI k)) (cwV 1 hts gX5_typeOf_X5_isNode rfl rfl rfl k_yX5_isNode ⟨Nat.le_of_ble_eq_true rfl, Nat.le_of_ble_eq_true rfl⟩) 0 5 rfl rfl rfl rfl hl.1 rfl rfl dX5_typeOf_3 ⟨Nat.le_of_ble_eq_true rfl, Nat.le_of_ble_eq_true rfl⟩ (fun H locs hP hS => ?_)
  refine z_top (y := nI 1) (bI_in (by omega) (by omega)) ?_
  refine lv_if_eq (tgt := 13) hx hb dX5_typeOf_6 (by decide) (fun cb1 => ?_) (fun cb1 => ?_)
  · have cb1 : 1 = 0 := zn_eq_t (a := 1) (b := 0) (by omega) (by omega) cb1
    exact absurd cb1 (by decide)
  · have cb1 : ¬ (1 = 0) := zn_eq_f (a := 1) (b := 0) (by omega) (by omega) cb1
    refine lv_iconst (v := nI 0) hx hb dX5_typeOf_9 (by decide) ?_
    refine lv_goto (tgt := 14) hx hb dX5_typeOf_10 (by decide) ?_
    refine va_put (D := D) (ci := 5) (v := .int (nI 0)) (ty := .int) (C := RX5) (T := TX5) (N := 20) hx hb hts in_wsX5_typeOf_X5 tyX5 tyX5_ok nmX5 hown hK.1 hP hD hS 0 rfl rfl 0 (by decide) (hts _ lk355_wsX5_typeOf) (fun _ h9 => h9) rfl (by decide +kernel) rfl rfl (Nat.le_of_ble_eq_true rfl) dX5_typeOf_14 (fun H locs hP hD hS => ?_)
    have hP : va_P D vwCl [(M, .inr (5, [.int (nI 0), .ref m1, .ref m2, .ref m3, .ref m4, .ref m5, .int (nI fl), .int (nI qt), .int (nI nn), .ref m6, .ref m7, .ref m8, .ref m9, .ref m10, .ref m11, .ref m12, .ref m13, .ref m14, .ref m15, .int mam])), (m8, .inl (cy.1, 12, .inl (fun z => nI (sl z / 8))))] H := hP
    have hD : va_D (zIn [(M, .inr (5, [.int thr, .ref m1, .ref m2, .ref m3, .ref m4, .ref m5, .int (nI fl), .int (nI qt), .int (nI nn), .ref m6, .ref m7, .ref m8, .ref m9, .ref m10, .ref m11, .ref m12, .ref m13, .ref m14, .ref m15, .int mam])), (m8, .inl (cy.1, 12, .inl (fun z => nI (sl z / 8))))]) [(M, .inr (5, [.int (nI 0), .ref m1, .ref m2, .ref m3, .ref m4, .ref m5, .int (nI fl), .int (nI qt), .int (nI nn), .ref m6, .ref m7, .ref m8, .ref m9, .ref m10, .ref m11, .ref m12, .ref m13, .ref m14, .ref m15, .int mam])), (m8, .inl (cy.1, 12, .inl (fun z => nI (sl z / 8))))] := hD
    refine lv_aload_n hx hb dX5_typeOf_17 rfl (lv_at hl 0 rfl) ?_
    refine va_get (D := D) (ci := 5) (v := .int (nI 0)) (C := RX5) (T := TX5) (N := 20) hx hb hts in_wsX5_typeOf_X5 hown hK.1 hP 0 rfl rfl 0 (by decide) (hts _ lk355_wsX5_typeOf) (fun _ h9 => h9) rfl dX5_typeOf_18 ?_
    refine lv_if_le (tgt := 28) hx hb dX5_typeOf_21 (by decide) (fun cb2 => ?_) (fun cb2 => ?_)
    · have cb2 : 0 ≤ 0 := zn_le_t (a := 0) (b := 0) (by omega) (by omega) cb2
      refine lv_aload_n hx hb dX5_typeOf_28 rfl (lv_at hl 0 rfl) ?_
      refine va_get (D := D) (ci := 5) (v := .ref m8) (C := RX5) (T := TX5) (N := 20) hx hb hts in_wsX5_typeOf_X5 hown hK.1 hP 0 rfl rfl 11 (by decide) (hts _ lk357_wsX5_typeOf) (fun _ h9 => h9) rfl dX5_typeOf_29 ?_
      refine lv_iload_n hx hb dX5_typeOf_32 rfl (lv_at hl 1 rfl) ?_
      refine z_iald (v := nI (sl k / 8)) hx hb hK.1 hP 1 0 rfl rfl (k := k) (by omega) (by decide) rfl dX5_typeOf_33 ?_
      exact z_iretW () hx hb hr hlocks hS dX5_typeOf_34 hP rfl
    · have cb2 : ¬ (0 ≤ 0) := zn_le_f (a := 0) (b := 0) (by omega) (by omega) cb2
      exact absurd cb2 (by decide)
set_option maxHeartbeats 4000000 in
set_option maxRecDepth 100000 in
theorem c_X5_typeOf_bad {l : Launch} {D : va_G} {cy : zCy} {M m1 m2 m3 m4 m5 m6 m7 m8 m9 m10 m11 m12 m13 m14 m15 nn qt fl : Nat} {thr mam : Int32} {sl : Nat → Nat} (hn : nn ≤ 12) {x : Int32} (hbad : ¬ inN nn x) : zW (Unit) l yX5_typeOf wsX5_typeOf rmX5_typeOf D cy [(M, .inr (5, [.int thr, .ref m1, .ref m2, .ref m3, .ref m4, .ref m5, .int (nI fl), .int (nI qt), .int (nI nn), .ref m6, .ref m7, .ref m8, .ref m9, .ref m10, .ref m11, .ref m12, .ref m13, .ref m14, .ref m15, .int mam])), (m8, .inl (cy.1, 12, .inl (fun z => nI (sl z / 8))))] [.ref M, .int x] (fun _ _ => True) (fun _ => [(M, .inr (5, [.int (nI 1), .ref m1, .ref m2, .ref m3, .ref m4, .ref m5, .int (nI fl), .int (nI qt), .int (nI nn), .ref m6, .ref m7, .ref m8, .ref m9, .ref m10, .ref m11, .ref m12, .ref m13, .ref m14, .ref m15, .int mam])), (m8, .inl (cy.1, 12, .inl (fun z => nI (sl z / 8))))]) := by
  refine zW.of (cc := cX5_typeOf) (maxL := 2) (ret := (some .int)) (by decide) rfl rfl ?_
  intro p e s m below meth c ls C hP hK hD hl
  obtain ⟨hx, hb, hr, hml, hts, hown, hlocks⟩ := C
  have hS : va_S (zIn [(M, .inr (5, [.int thr, .ref m1, .ref m2, .ref m3, .ref m4, .ref m5, .int (nI fl), .int (nI qt), .int (nI nn), .ref m6, .ref m7, .ref m8, .ref m9, .ref m10, .ref m11, .ref m12, .ref m13, .ref m14, .ref m15, .int mam])), (m8, .inl (cy.1, 12, .inl (fun z => nI (sl z / 8))))]) s.heap s.heap [] := va_S.rf
  have hl : lv_has ls 2 [(0, .ref M), (1, .int x)] := hl
  refine lv_aload_n hx hb dX5_typeOf_0 rfl (lv_at hl 0 rfl) ?_
  refine lv_aload_n hx hb dX5_typeOf_1 rfl (lv_at hl 0 rfl) ?_
  refine lv_iload_n hx hb dX5_typeOf_2 rfl (lv_at hl 1 rfl) ?_
  refine z_callV (b := M) (As := [.int x]) (rest := [.ref M]) ⟨hx, hb, hml, hown, hts⟩ hK hP hS (c_X5_isNode (i := 0) rfl hn (x := x)) (cwV 1 hts gX5_typeOf_X5_isNode rfl rfl rfl k_yX5_isNode ⟨Nat.le_of_ble_eq_true rfl, Nat.le_of_ble_eq_true rfl⟩) 0 5 rfl rfl rfl rfl hl.1 rfl rfl dX5_typeOf_3 ⟨Nat.le_of_ble_eq_true rfl, Nat.le_of_ble_eq_true rfl⟩ (fun H locs hP hS => ?_)
  refine lv_if_eq (tgt := 13) hx hb dX5_typeOf_6 (by decide) (fun cb1 => ?_) (fun cb1 => ?_)
  · have cb1 : (decide (inN nn x)) = false := bI_t0 cb1
    refine lv_iconst (v := nI 1) hx hb dX5_typeOf_13 (by decide) ?_
    refine va_put (D := D) (ci := 5) (v := .int (nI 1)) (ty := .int) (C := RX5) (T := TX5) (N := 20) hx hb hts in_wsX5_typeOf_X5 tyX5 tyX5_ok nmX5 hown hK.1 hP hD hS 0 rfl rfl 0 (by decide) (hts _ lk355_wsX5_typeOf) (fun _ h9 => h9) rfl (by decide +kernel) rfl rfl (Nat.le_of_ble_eq_true rfl) dX5_typeOf_14 (fun H locs hP hD hS => ?_)
    have hP : va_P D vwCl [(M, .inr (5, [.int (nI 1), .ref m1, .ref m2, .ref m3, .ref m4, .ref m5, .int (nI fl), .int (nI qt), .int (nI nn), .ref m6, .ref m7, .ref m8, .ref m9, .ref m10, .ref m11, .ref m12, .ref m13, .ref m14, .ref m15, .int mam])), (m8, .inl (cy.1, 12, .inl (fun z => nI (sl z / 8))))] H := hP
    have hD : va_D (zIn [(M, .inr (5, [.int thr, .ref m1, .ref m2, .ref m3, .ref m4, .ref m5, .int (nI fl), .int (nI qt), .int (nI nn), .ref m6, .ref m7, .ref m8, .ref m9, .ref m10, .ref m11, .ref m12, .ref m13, .ref m14, .ref m15, .int mam])), (m8, .inl (cy.1, 12, .inl (fun z => nI (sl z / 8))))]) [(M, .inr (5, [.int (nI 1), .ref m1, .ref m2, .ref m3, .ref m4, .ref m5, .int (nI fl), .int (nI qt), .int (nI nn), .ref m6, .ref m7, .ref m8, .ref m9, .ref m10, .ref m11, .ref m12, .ref m13, .ref m14, .ref m15, .int mam])), (m8, .inl (cy.1, 12, .inl (fun z => nI (sl z / 8))))] := hD
    refine lv_aload_n hx hb dX5_typeOf_17 rfl (lv_at hl 0 rfl) ?_
    refine va_get (D := D) (ci := 5) (v := .int (nI 1)) (C := RX5) (T := TX5) (N := 20) hx hb hts in_wsX5_typeOf_X5 hown hK.1 hP 0 rfl rfl 0 (by decide) (hts _ lk355_wsX5_typeOf) (fun _ h9 => h9) rfl dX5_typeOf_18 ?_
    refine lv_if_le (tgt := 28) hx hb dX5_typeOf_21 (by decide) (fun cb2 => ?_) (fun cb2 => ?_)
    · have cb2 : 1 ≤ 0 := zn_le_t (a := 1) (b := 0) (by omega) (by omega) cb2
      exact absurd cb2 (by decide)
    · have cb2 : ¬ (1 ≤ 0) := zn_le_f (a := 1) (b := 0) (by omega) (by omega) cb2
      refine lv_iconst (v := nI 0) hx hb dX5_typeOf_24 (by decide) ?_
      refine lv_goto (tgt := 34) hx hb dX5_typeOf_25 (by decide) ?_
      exact z_iretW () hx hb hr hlocks hS dX5_typeOf_34 hP trivial
  · have cb1 : (decide (inN nn x)) = true := bI_f0 cb1
    exact absurd (of_decide_eq_true cb1) hbad
