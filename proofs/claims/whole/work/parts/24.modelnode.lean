set_option maxRecDepth 20000 in
theorem lk358_wsX5_node : Cond.fieldLink RX5 56 "QueryGatewayModel" "thrown" "I" ∈ wsX5_node := by decide +kernel
set_option maxRecDepth 20000 in
theorem in_wsX5_node_X5 : ∀ w ∈ wsX50, w ∈ wsX5_node := by decide +kernel
set_option maxRecDepth 20000 in
theorem lk360_wsX5_node : Cond.fieldLink RX5 84 "QueryGatewayModel" "queryType" "I" ∈ wsX5_node := by decide +kernel
set_option maxRecDepth 20000 in
theorem lk361_wsX5_node : Cond.fieldLink RX5 81 "QueryGatewayModel" "nodes" "I" ∈ wsX5_node := by decide +kernel
set_option maxRecDepth 20000 in
theorem lk362_wsX5_node : Cond.fieldLink RX5 26 "QueryGatewayModel" "above" "[I" ∈ wsX5_node := by decide +kernel
set_option maxRecDepth 20000 in
theorem lk363_wsX5_node : Cond.fieldLink RX5 29 "QueryGatewayModel" "field" "[I" ∈ wsX5_node := by decide +kernel
set_option maxRecDepth 20000 in
theorem lk364_wsX5_node : Cond.fieldLink RX5 32 "QueryGatewayModel" "type" "[I" ∈ wsX5_node := by decide +kernel
abbrev rmX5_node : Room := { frames := 2, cells := 0, slots := 0, locals := 44 }
set_option maxHeartbeats 4000000 in
set_option maxRecDepth 100000 in
theorem c_X5_node_ok_top {l : Launch} {D : va_G} {cy : zCy} {M m1 m2 m3 m4 m5 m6 m7 m8 m9 m10 m11 m12 m13 m14 m15 nn qt fl : Nat} {thr mam : Int32} {fc sl : Nat → Nat} {lm ab : Nat → Int32} (hn : nn ≤ 12) {t : Nat} (ht : t < 4) (hf8 : fc t ≤ 8) (hty : ∀ j, j < nn → ab j = (-1 : Int32) → sl j / 8 = t) (hc4 : zcnt (fun j => decide (ab j = (-1 : Int32))) nn ≤ 4) {f : Nat} (hf : f < fc t) (hrm : ((∀ j, j < nn → ¬ (ab j = (-1 : Int32) ∧ sl j = t * 8 + f)) ∧ nn < 12 ∧ zcnt (fun j => decide (ab j = (-1 : Int32))) nn < 4)) : zW (Unit) l yX5_node wsX5_node rmX5_node D cy [(M, .inr (5, [.int thr, .ref m1, .ref m2, .ref m3, .ref m4, .ref m5, .int (nI fl), .int (nI t), .int (nI nn), .ref m6, .ref m7, .ref m8, .ref m9, .ref m10, .ref m11, .ref m12, .ref m13, .ref m14, .ref m15, .int mam])), (m1, .inl (cy.1, 4, .inl (fun z => nI (fc z)))), (m2, .inl (cy.1, 32, .inl lm)), (m6, .inl (cy.1, 12, .inl ab)), (m7, .inl (cy.1, 12, .inl (fun z => nI (sl z % 8)))), (m8, .inl (cy.1, 12, .inl (fun z => nI (sl z / 8))))] [.ref M, .int ((-1 : Int32)), .int (nI f)] (fun r _ => r = nI nn) (fun _ => [(M, .inr (5, [.int (nI 0), .ref m1, .ref m2, .ref m3, .ref m4, .ref m5, .int (nI fl), .int (nI t), .int (nI (nn + 1)), .ref m6, .ref m7, .ref m8, .ref m9, .ref m10, .ref m11, .ref m12, .ref m13, .ref m14, .ref m15, .int mam])), (m1, .inl (cy.1, 4, .inl (fun z => nI (fc z)))), (m2, .inl (cy.1, 32, .inl lm)), (m6, .inl (cy.1, 12, .inl (upd ab nn (-1 : Int32)))), (m7, .inl (cy.1, 12, .inl (fun z => nI (va_up sl nn (t * 8 + f) z % 8)))), (m8, .inl (cy.1, 12, .inl (fun z => nI (va_up sl nn (t * 8 + f) z / 8))))]) := by
  refine zW.of (cc := cX5_node) (maxL := 7) (ret := (some .int)) (by decide) rfl rfl ?_
  intro p e s m below meth c ls C hP hK hD hl
  obtain ⟨hx, hb, hr, hml, hts, hown, hlocks⟩ := C
  have hS : va_S (zIn [(M, .inr (5, [.int thr, .ref m1, .ref m2, .ref m3, .ref m4, .ref m5, .int (nI fl), .int (nI t), .int (nI nn), .ref m6, .ref m7, .ref m8, .ref m9, .ref m10, .ref m11, .ref m12, .ref m13, .ref m14, .ref m15, .int mam])), (m1, .inl (cy.1, 4, .inl (fun z => nI (fc z)))), (m2, .inl (cy.1, 32, .inl lm)), (m6, .inl (cy.1, 12, .inl ab)), (m7, .inl (cy.1, 12, .inl (fun z => nI (sl z % 8)))), (m8, .inl (cy.1, 12, .inl (fun z => nI (sl z / 8))))]) s.heap s.heap [] := va_S.rf
  have hl : lv_has ls 7 [(0, .ref M), (1, .int ((-1 : Int32))), (2, .int (nI f))] := hl
  refine lv_aload_n hx hb dX5_node_0 rfl (lv_at hl 0 rfl) ?_
  refine lv_iload_n hx hb dX5_node_1 rfl (lv_at hl 1 rfl) ?_
  refine lv_iconst (v := (-1 : Int32)) hx hb dX5_node_2 (by decide) ?_
  refine lv_icmp_eq (tgt := 14) hx hb dX5_node_3 (by decide) (fun cb1 => ?_) (fun cb1 => ?_)
  · skip
    refine lv_iconst (v := nI 0) hx hb dX5_node_14 (by decide) ?_
    refine lv_goto (tgt := 19) hx hb dX5_node_15 (by decide) ?_
    refine va_put (D := D) (ci := 5) (v := .int (nI 0)) (ty := .int) (C := RX5) (T := TX5) (N := 20) hx hb hts in_wsX5_node_X5 tyX5 tyX5_ok nmX5 hown hK.1 hP hD hS 0 rfl rfl 0 (by decide) (hts _ lk358_wsX5_node) (fun _ h9 => h9) rfl (by decide +kernel) rfl rfl (Nat.le_of_ble_eq_true rfl) dX5_node_19 (fun H locs hP hD hS => ?_)
    have hP : va_P D vwCl [(M, .inr (5, [.int (nI 0), .ref m1, .ref m2, .ref m3, .ref m4, .ref m5, .int (nI fl), .int (nI t), .int (nI nn), .ref m6, .ref m7, .ref m8, .ref m9, .ref m10, .ref m11, .ref m12, .ref m13, .ref m14, .ref m15, .int mam])), (m1, .inl (cy.1, 4, .inl (fun z => nI (fc z)))), (m2, .inl (cy.1, 32, .inl lm)), (m6, .inl (cy.1, 12, .inl ab)), (m7, .inl (cy.1, 12, .inl (fun z => nI (sl z % 8)))), (m8, .inl (cy.1, 12, .inl (fun z => nI (sl z / 8))))] H := hP
    have hD : va_D (zIn [(M, .inr (5, [.int thr, .ref m1, .ref m2, .ref m3, .ref m4, .ref m5, .int (nI fl), .int (nI t), .int (nI nn), .ref m6, .ref m7, .ref m8, .ref m9, .ref m10, .ref m11, .ref m12, .ref m13, .ref m14, .ref m15, .int mam])), (m1, .inl (cy.1, 4, .inl (fun z => nI (fc z)))), (m2, .inl (cy.1, 32, .inl lm)), (m6, .inl (cy.1, 12, .inl ab)), (m7, .inl (cy.1, 12, .inl (fun z => nI (sl z % 8)))), (m8, .inl (cy.1, 12, .inl (fun z => nI (sl z / 8))))]) [(M, .inr (5, [.int (nI 0), .ref m1, .ref m2, .ref m3, .ref m4, .ref m5, .int (nI fl), .int (nI t), .int (nI nn), .ref m6, .ref m7, .ref m8, .ref m9, .ref m10, .ref m11, .ref m12, .ref m13, .ref m14, .ref m15, .int mam])), (m1, .inl (cy.1, 4, .inl (fun z => nI (fc z)))), (m2, .inl (cy.1, 32, .inl lm)), (m6, .inl (cy.1, 12, .inl ab)), (m7, .inl (cy.1, 12, .inl (fun z => nI (sl z % 8)))), (m8, .inl (cy.1, 12, .inl (fun z => nI (sl z / 8))))] := hD
    refine lv_aload_n hx hb dX5_node_22 rfl (lv_at hl 0 rfl) ?_
    refine va_get (D := D) (ci := 5) (v := .int (nI 0)) (C := RX5) (T := TX5) (N := 20) hx hb hts in_wsX5_node_X5 hown hK.1 hP 0 rfl rfl 0 (by decide) (hts _ lk358_wsX5_node) (fun _ h9 => h9) rfl dX5_node_23 ?_
    refine lv_if_le (tgt := 31) hx hb dX5_node_26 (by decide) (fun cb2 => ?_) (fun cb2 => ?_)
    · have cb2 : 0 ≤ 0 := zn_le_t (a := 0) (b := 0) (by omega) (by omega) cb2
      refine lv_iload_n hx hb dX5_node_31 rfl (lv_at hl 1 rfl) ?_
      refine lv_iconst (v := (-1 : Int32)) hx hb dX5_node_32 (by decide) ?_
      refine lv_icmp_ne (tgt := 43) hx hb dX5_node_33 (by decide) (fun cb3 => ?_) (fun cb3 => ?_)
      · skip
        exact absurd rfl cb3
      · skip
        refine lv_aload_n hx hb dX5_node_36 rfl (lv_at hl 0 rfl) ?_
        refine va_get (D := D) (ci := 5) (v := .int (nI t)) (C := RX5) (T := TX5) (N := 20) hx hb hts in_wsX5_node_X5 hown hK.1 hP 0 rfl rfl 7 (by decide) (hts _ lk360_wsX5_node) (fun _ h9 => h9) rfl dX5_node_37 ?_
        refine lv_goto (tgt := 53) hx hb dX5_node_40 (by decide) ?_
        refine lv_istore_n (lv' := [(3, .int (nI t)), (0, .ref M), (1, .int ((-1 : Int32))), (2, .int (nI f))]) hx hb dX5_node_53 rfl hl (by decide) rfl (fun ls hl => ?_)
        refine lv_aload_n hx hb dX5_node_54 rfl (lv_at hl 1 rfl) ?_
        refine lv_iload_n hx hb dX5_node_55 rfl (lv_at hl 0 rfl) ?_
        refine lv_iconst (v := (-1 : Int32)) hx hb dX5_node_56 (by decide) ?_
        refine lv_icmp_ne (tgt := 64) hx hb dX5_node_57 (by decide) (fun cb4 => ?_) (fun cb4 => ?_)
        · skip
          refine lv_aload_n hx hb dX5_node_64 rfl (lv_at hl 1 rfl) ?_
          refine lv_iload_n hx hb dX5_node_65 rfl (lv_at hl 0 rfl) ?_
          refine lv_iload_n hx hb dX5_node_66 rfl (lv_at hl 3 rfl) ?_
          refine z_callV (b := M) (As := [.int (nI t), .int (nI f)]) (rest := [.ref M]) ⟨hx, hb, hml, hown, hts⟩ hK hP hS (c_X5_isField (i := 0) (j1 := 1) rfl rfl (t := t) (by omega) hf8 (x := nI f)) (cwV 2 hts gX5_node_X5_isField rfl rfl rfl k_yX5_isField ⟨Nat.le_of_ble_eq_true rfl, Nat.le_of_ble_eq_true rfl⟩) 0 5 rfl rfl rfl rfl hl.1 rfl rfl dX5_node_67 ⟨Nat.le_of_ble_eq_true rfl, Nat.le_of_ble_eq_true rfl⟩ (fun H locs hP hS => ?_)
          refine z_top (y := nI 1) (bI_in (by omega) (by omega)) ?_
          refine lv_if_eq (tgt := 77) hx hb dX5_node_70 (by decide) (fun cb5 => ?_) (fun cb5 => ?_)
          · have cb5 : 1 = 0 := zn_eq_t (a := 1) (b := 0) (by omega) (by omega) cb5
            exact absurd cb5 (by decide)
          · have cb5 : ¬ (1 = 0) := zn_eq_f (a := 1) (b := 0) (by omega) (by omega) cb5
            refine lv_iconst (v := nI 0) hx hb dX5_node_73 (by decide) ?_
            refine lv_goto (tgt := 78) hx hb dX5_node_74 (by decide) ?_
            refine va_put (D := D) (ci := 5) (v := .int (nI 0)) (ty := .int) (C := RX5) (T := TX5) (N := 20) hx hb hts in_wsX5_node_X5 tyX5 tyX5_ok nmX5 hown hK.1 hP hD hS 0 rfl rfl 0 (by decide) (hts _ lk358_wsX5_node) (fun _ h9 => h9) rfl (by decide +kernel) rfl rfl (Nat.le_of_ble_eq_true rfl) dX5_node_78 (fun H locs hP hD hS => ?_)
            have hP : va_P D vwCl [(M, .inr (5, [.int (nI 0), .ref m1, .ref m2, .ref m3, .ref m4, .ref m5, .int (nI fl), .int (nI t), .int (nI nn), .ref m6, .ref m7, .ref m8, .ref m9, .ref m10, .ref m11, .ref m12, .ref m13, .ref m14, .ref m15, .int mam])), (m1, .inl (cy.1, 4, .inl (fun z => nI (fc z)))), (m2, .inl (cy.1, 32, .inl lm)), (m6, .inl (cy.1, 12, .inl ab)), (m7, .inl (cy.1, 12, .inl (fun z => nI (sl z % 8)))), (m8, .inl (cy.1, 12, .inl (fun z => nI (sl z / 8))))] H := hP
            have hD : va_D (zIn [(M, .inr (5, [.int thr, .ref m1, .ref m2, .ref m3, .ref m4, .ref m5, .int (nI fl), .int (nI t), .int (nI nn), .ref m6, .ref m7, .ref m8, .ref m9, .ref m10, .ref m11, .ref m12, .ref m13, .ref m14, .ref m15, .int mam])), (m1, .inl (cy.1, 4, .inl (fun z => nI (fc z)))), (m2, .inl (cy.1, 32, .inl lm)), (m6, .inl (cy.1, 12, .inl ab)), (m7, .inl (cy.1, 12, .inl (fun z => nI (sl z % 8)))), (m8, .inl (cy.1, 12, .inl (fun z => nI (sl z / 8))))]) [(M, .inr (5, [.int (nI 0), .ref m1, .ref m2, .ref m3, .ref m4, .ref m5, .int (nI fl), .int (nI t), .int (nI nn), .ref m6, .ref m7, .ref m8, .ref m9, .ref m10, .ref m11, .ref m12, .ref m13, .ref m14, .ref m15, .int mam])), (m1, .inl (cy.1, 4, .inl (fun z => nI (fc z)))), (m2, .inl (cy.1, 32, .inl lm)), (m6, .inl (cy.1, 12, .inl ab)), (m7, .inl (cy.1, 12, .inl (fun z => nI (sl z % 8)))), (m8, .inl (cy.1, 12, .inl (fun z => nI (sl z / 8))))] := hD
            refine lv_iconst (v := nI 0) hx hb dX5_node_81 (by decide) ?_
            refine lv_istore (lv' := [(4, .int (nI 0)), (3, .int (nI t)), (0, .ref M), (1, .int ((-1 : Int32))), (2, .int (nI f))]) hx hb dX5_node_82 hl (by decide) rfl (fun ls hl => ?_)
            refine lv_iconst (v := nI 0) hx hb dX5_node_84 (by decide) ?_
            refine lv_istore (lv' := [(5, .int (nI 0)), (4, .int (nI 0)), (3, .int (nI t)), (0, .ref M), (1, .int ((-1 : Int32))), (2, .int (nI f))]) hx hb dX5_node_85 hl (by decide) rfl (fun ls hl => ?_)
            refine lv_iconst (v := nI 0) hx hb dX5_node_87 (by decide) ?_
            refine lv_istore (lv' := [(6, .int (nI 0)), (5, .int (nI 0)), (4, .int (nI 0)), (3, .int (nI t)), (0, .ref M), (1, .int ((-1 : Int32))), (2, .int (nI f))]) hx hb dX5_node_88 hl (by decide) rfl (fun ls hl => ?_)
            have lo : ∀ (fuel : Nat) (n mc9 : Nat) (A : Bool), nn + 1 ≤ n + fuel → n ≤ nn → mc9 ≤ n → (mc9 = zcnt (fun j => decide (ab j = (-1 : Int32))) n) → (A = decide (∃ j, j < n ∧ ab j = (-1 : Int32) ∧ sl j % 8 = f)) → ∀ (H : Heap) (locs : List Loc) (ls : Array Slot), va_P D vwCl [(M, .inr (5, [.int (nI 0), .ref m1, .ref m2, .ref m3, .ref m4, .ref m5, .int (nI fl), .int (nI t), .int (nI nn), .ref m6, .ref m7, .ref m8, .ref m9, .ref m10, .ref m11, .ref m12, .ref m13, .ref m14, .ref m15, .int mam])), (m1, .inl (cy.1, 4, .inl (fun z => nI (fc z)))), (m2, .inl (cy.1, 32, .inl lm)), (m6, .inl (cy.1, 12, .inl ab)), (m7, .inl (cy.1, 12, .inl (fun z => nI (sl z % 8)))), (m8, .inl (cy.1, 12, .inl (fun z => nI (sl z / 8))))] H → va_D (zIn [(M, .inr (5, [.int thr, .ref m1, .ref m2, .ref m3, .ref m4, .ref m5, .int (nI fl), .int (nI t), .int (nI nn), .ref m6, .ref m7, .ref m8, .ref m9, .ref m10, .ref m11, .ref m12, .ref m13, .ref m14, .ref m15, .int mam])), (m1, .inl (cy.1, 4, .inl (fun z => nI (fc z)))), (m2, .inl (cy.1, 32, .inl lm)), (m6, .inl (cy.1, 12, .inl ab)), (m7, .inl (cy.1, 12, .inl (fun z => nI (sl z % 8)))), (m8, .inl (cy.1, 12, .inl (fun z => nI (sl z / 8))))]) [(M, .inr (5, [.int (nI 0), .ref m1, .ref m2, .ref m3, .ref m4, .ref m5, .int (nI fl), .int (nI t), .int (nI nn), .ref m6, .ref m7, .ref m8, .ref m9, .ref m10, .ref m11, .ref m12, .ref m13, .ref m14, .ref m15, .int mam])), (m1, .inl (cy.1, 4, .inl (fun z => nI (fc z)))), (m2, .inl (cy.1, 32, .inl lm)), (m6, .inl (cy.1, 12, .inl ab)), (m7, .inl (cy.1, 12, .inl (fun z => nI (sl z % 8)))), (m8, .inl (cy.1, 12, .inl (fun z => nI (sl z / 8))))] → va_S (zIn [(M, .inr (5, [.int thr, .ref m1, .ref m2, .ref m3, .ref m4, .ref m5, .int (nI fl), .int (nI t), .int (nI nn), .ref m6, .ref m7, .ref m8, .ref m9, .ref m10, .ref m11, .ref m12, .ref m13, .ref m14, .ref m15, .int mam])), (m1, .inl (cy.1, 4, .inl (fun z => nI (fc z)))), (m2, .inl (cy.1, 32, .inl lm)), (m6, .inl (cy.1, 12, .inl ab)), (m7, .inl (cy.1, 12, .inl (fun z => nI (sl z % 8)))), (m8, .inl (cy.1, 12, .inl (fun z => nI (sl z / 8))))]) s.heap H locs → lv_has ls 7 [(0, .ref M), (1, .int ((-1 : Int32))), (2, .int (nI f)), (3, .int (nI t)), (4, .int (nI mc9)), (5, .int (bI (A))), (6, .int (nI n))] → W p l e rmX5_node s m [.ref M, .int ((-1 : Int32)), .int (nI f)].toArray below meth c H locs 0 0 (zWQ (Unit) D below [.ref M, .int ((-1 : Int32)), .int (nI f)].toArray s [(M, .inr (5, [.int thr, .ref m1, .ref m2, .ref m3, .ref m4, .ref m5, .int (nI fl), .int (nI t), .int (nI nn), .ref m6, .ref m7, .ref m8, .ref m9, .ref m10, .ref m11, .ref m12, .ref m13, .ref m14, .ref m15, .int mam])), (m1, .inl (cy.1, 4, .inl (fun z => nI (fc z)))), (m2, .inl (cy.1, 32, .inl lm)), (m6, .inl (cy.1, 12, .inl ab)), (m7, .inl (cy.1, 12, .inl (fun z => nI (sl z % 8)))), (m8, .inl (cy.1, 12, .inl (fun z => nI (sl z / 8))))] (fun r _ => r = nI nn) (fun _ => [(M, .inr (5, [.int (nI 0), .ref m1, .ref m2, .ref m3, .ref m4, .ref m5, .int (nI fl), .int (nI t), .int (nI (nn + 1)), .ref m6, .ref m7, .ref m8, .ref m9, .ref m10, .ref m11, .ref m12, .ref m13, .ref m14, .ref m15, .int mam])), (m1, .inl (cy.1, 4, .inl (fun z => nI (fc z)))), (m2, .inl (cy.1, 32, .inl lm)), (m6, .inl (cy.1, 12, .inl (upd ab nn (-1 : Int32)))), (m7, .inl (cy.1, 12, .inl (fun z => nI (va_up sl nn (t * 8 + f) z % 8)))), (m8, .inl (cy.1, 12, .inl (fun z => nI (va_up sl nn (t * 8 + f) z / 8))))])) (F0 m 90 ls []) := by
              intro fuel
              induction fuel with
              | zero => intro n mc9 A hfu hi hm ht9 hA; exact absurd hfu (by omega)
              | succ fuel ih_lo =>
                intro n mc9 A hfu hi hm ht9 hA H locs ls hP hD hS hl
                refine lv_iload hx hb dX5_node_90 (lv_at hl 6 rfl) ?_
                refine lv_aload_n hx hb dX5_node_92 rfl (lv_at hl 0 rfl) ?_
                refine va_get (D := D) (ci := 5) (v := .int (nI nn)) (C := RX5) (T := TX5) (N := 20) hx hb hts in_wsX5_node_X5 hown hK.1 hP 0 rfl rfl 8 (by decide) (hts _ lk361_wsX5_node) (fun _ h9 => h9) rfl dX5_node_93 ?_
                refine lv_icmp_ge (tgt := 160) hx hb dX5_node_96 (by decide) (fun cb6 => ?_) (fun cb6 => ?_)
                · have cb6 : nn ≤ n := zn_ge_t (a := n) (b := nn) (by omega) (by omega) cb6
                  refine lv_aload_n hx hb dX5_node_160 rfl (lv_at hl 0 rfl) ?_
                  refine va_get (D := D) (ci := 5) (v := .int (nI 0)) (C := RX5) (T := TX5) (N := 20) hx hb hts in_wsX5_node_X5 hown hK.1 hP 0 rfl rfl 0 (by decide) (hts _ lk358_wsX5_node) (fun _ h9 => h9) rfl dX5_node_161 ?_
                  refine lv_if_ne (tgt := 192) hx hb dX5_node_164 (by decide) (fun cb7 => ?_) (fun cb7 => ?_)
                  · have cb7 : ¬ (0 = 0) := zn_ne_f (a := 0) (b := 0) (by omega) (by omega) cb7
                    exact absurd cb7 (by decide)
                  · have cb7 : 0 = 0 := zn_ne_t (a := 0) (b := 0) (by omega) (by omega) cb7
                    refine lv_aload_n hx hb dX5_node_167 rfl (lv_at hl 0 rfl) ?_
                    refine va_get (D := D) (ci := 5) (v := .int (nI nn)) (C := RX5) (T := TX5) (N := 20) hx hb hts in_wsX5_node_X5 hown hK.1 hP 0 rfl rfl 8 (by decide) (hts _ lk361_wsX5_node) (fun _ h9 => h9) rfl dX5_node_168 ?_
                    refine lv_bipush (v := nI 12) hx hb dX5_node_171 (by decide) ?_
                    refine lv_icmp_eq (tgt := 187) hx hb dX5_node_173 (by decide) (fun cb8 => ?_) (fun cb8 => ?_)
                    · have cb8 : nn = 12 := zn_eq_t (a := nn) (b := 12) (by omega) (by omega) cb8
                      exact absurd cb8 (by have := hrm.2.1; omega)
                    · have cb8 : ¬ (nn = 12) := zn_eq_f (a := nn) (b := 12) (by omega) (by omega) cb8
                      refine lv_iload hx hb dX5_node_176 (lv_at hl 4 rfl) ?_
                      refine lv_iconst (v := nI 4) hx hb dX5_node_178 (by decide) ?_
                      refine lv_icmp_eq (tgt := 187) hx hb dX5_node_179 (by decide) (fun cb9 => ?_) (fun cb9 => ?_)
                      · have cb9 : mc9 = 4 := zn_eq_t (a := mc9) (b := 4) (by omega) (by omega) cb9
                        exact absurd cb9 (by have := hrm.2.2; rw [show n = nn by omega] at ht9; omega)
                      · have cb9 : ¬ (mc9 = 4) := zn_eq_f (a := mc9) (b := 4) (by omega) (by omega) cb9
                        refine lv_iload hx hb dX5_node_182 (lv_at hl 5 rfl) ?_
                        refine lv_if_eq (tgt := 192) hx hb dX5_node_184 (by decide) (fun cb10 => ?_) (fun cb10 => ?_)
                        · have cb10 : (A) = false := bI_t0 cb10
                          refine lv_aload_n hx hb dX5_node_192 rfl (lv_at hl 0 rfl) ?_
                          refine va_get (D := D) (ci := 5) (v := .int (nI 0)) (C := RX5) (T := TX5) (N := 20) hx hb hts in_wsX5_node_X5 hown hK.1 hP 0 rfl rfl 0 (by decide) (hts _ lk358_wsX5_node) (fun _ h9 => h9) rfl dX5_node_193 ?_
                          refine lv_if_le (tgt := 201) hx hb dX5_node_196 (by decide) (fun cb11 => ?_) (fun cb11 => ?_)
                          · have cb11 : 0 ≤ 0 := zn_le_t (a := 0) (b := 0) (by omega) (by omega) cb11
                            have hn12 := hrm.2.1
                            refine lv_aload_n hx hb dX5_node_201 rfl (lv_at hl 0 rfl) ?_
                            refine va_get (D := D) (ci := 5) (v := .ref m6) (C := RX5) (T := TX5) (N := 20) hx hb hts in_wsX5_node_X5 hown hK.1 hP 0 rfl rfl 9 (by decide) (hts _ lk362_wsX5_node) (fun _ h9 => h9) rfl dX5_node_202 ?_
                            refine lv_aload_n hx hb dX5_node_205 rfl (lv_at hl 0 rfl) ?_
                            refine va_get (D := D) (ci := 5) (v := .int (nI nn)) (C := RX5) (T := TX5) (N := 20) hx hb hts in_wsX5_node_X5 hown hK.1 hP 0 rfl rfl 8 (by decide) (hts _ lk361_wsX5_node) (fun _ h9 => h9) rfl dX5_node_206 ?_
                            refine lv_iload_n hx hb dX5_node_209 rfl (lv_at hl 1 rfl) ?_
                            refine z_iast (g := upd ab nn (-1 : Int32)) hx hb hK.1 hP hD hS 3 0 rfl rfl (k := nn) (by omega) (by decide) (fun _ _ => rfl) dX5_node_210 (fun H locs hP hD hS => ?_)
                            have hP : va_P D vwCl [(M, .inr (5, [.int (nI 0), .ref m1, .ref m2, .ref m3, .ref m4, .ref m5, .int (nI fl), .int (nI t), .int (nI nn), .ref m6, .ref m7, .ref m8, .ref m9, .ref m10, .ref m11, .ref m12, .ref m13, .ref m14, .ref m15, .int mam])), (m1, .inl (cy.1, 4, .inl (fun z => nI (fc z)))), (m2, .inl (cy.1, 32, .inl lm)), (m6, .inl (cy.1, 12, .inl (upd ab nn (-1 : Int32)))), (m7, .inl (cy.1, 12, .inl (fun z => nI (sl z % 8)))), (m8, .inl (cy.1, 12, .inl (fun z => nI (sl z / 8))))] H := hP
                            have hD : va_D (zIn [(M, .inr (5, [.int thr, .ref m1, .ref m2, .ref m3, .ref m4, .ref m5, .int (nI fl), .int (nI t), .int (nI nn), .ref m6, .ref m7, .ref m8, .ref m9, .ref m10, .ref m11, .ref m12, .ref m13, .ref m14, .ref m15, .int mam])), (m1, .inl (cy.1, 4, .inl (fun z => nI (fc z)))), (m2, .inl (cy.1, 32, .inl lm)), (m6, .inl (cy.1, 12, .inl ab)), (m7, .inl (cy.1, 12, .inl (fun z => nI (sl z % 8)))), (m8, .inl (cy.1, 12, .inl (fun z => nI (sl z / 8))))]) [(M, .inr (5, [.int (nI 0), .ref m1, .ref m2, .ref m3, .ref m4, .ref m5, .int (nI fl), .int (nI t), .int (nI nn), .ref m6, .ref m7, .ref m8, .ref m9, .ref m10, .ref m11, .ref m12, .ref m13, .ref m14, .ref m15, .int mam])), (m1, .inl (cy.1, 4, .inl (fun z => nI (fc z)))), (m2, .inl (cy.1, 32, .inl lm)), (m6, .inl (cy.1, 12, .inl (upd ab nn (-1 : Int32)))), (m7, .inl (cy.1, 12, .inl (fun z => nI (sl z % 8)))), (m8, .inl (cy.1, 12, .inl (fun z => nI (sl z / 8))))] := hD
                            refine lv_aload_n hx hb dX5_node_211 rfl (lv_at hl 0 rfl) ?_
                            refine va_get (D := D) (ci := 5) (v := .ref m7) (C := RX5) (T := TX5) (N := 20) hx hb hts in_wsX5_node_X5 hown hK.1 hP 0 rfl rfl 10 (by decide) (hts _ lk363_wsX5_node) (fun _ h9 => h9) rfl dX5_node_212 ?_
                            refine lv_aload_n hx hb dX5_node_215 rfl (lv_at hl 0 rfl) ?_
                            refine va_get (D := D) (ci := 5) (v := .int (nI nn)) (C := RX5) (T := TX5) (N := 20) hx hb hts in_wsX5_node_X5 hown hK.1 hP 0 rfl rfl 8 (by decide) (hts _ lk361_wsX5_node) (fun _ h9 => h9) rfl dX5_node_216 ?_
                            refine lv_iload_n hx hb dX5_node_219 rfl (lv_at hl 2 rfl) ?_
                            refine z_iast (g := fun z => nI (va_up sl nn (t * 8 + f) z % 8)) hx hb hK.1 hP hD hS 4 0 rfl rfl (k := nn) (by omega) (by decide) (fun z _ => by unfold upd va_up; split; (rw [show (t * 8 + f) % 8 = f by omega]); rfl) dX5_node_220 (fun H locs hP hD hS => ?_)
                            have hP : va_P D vwCl [(M, .inr (5, [.int (nI 0), .ref m1, .ref m2, .ref m3, .ref m4, .ref m5, .int (nI fl), .int (nI t), .int (nI nn), .ref m6, .ref m7, .ref m8, .ref m9, .ref m10, .ref m11, .ref m12, .ref m13, .ref m14, .ref m15, .int mam])), (m1, .inl (cy.1, 4, .inl (fun z => nI (fc z)))), (m2, .inl (cy.1, 32, .inl lm)), (m6, .inl (cy.1, 12, .inl (upd ab nn (-1 : Int32)))), (m7, .inl (cy.1, 12, .inl (fun z => nI (va_up sl nn (t * 8 + f) z % 8)))), (m8, .inl (cy.1, 12, .inl (fun z => nI (sl z / 8))))] H := hP
                            have hD : va_D (zIn [(M, .inr (5, [.int thr, .ref m1, .ref m2, .ref m3, .ref m4, .ref m5, .int (nI fl), .int (nI t), .int (nI nn), .ref m6, .ref m7, .ref m8, .ref m9, .ref m10, .ref m11, .ref m12, .ref m13, .ref m14, .ref m15, .int mam])), (m1, .inl (cy.1, 4, .inl (fun z => nI (fc z)))), (m2, .inl (cy.1, 32, .inl lm)), (m6, .inl (cy.1, 12, .inl ab)), (m7, .inl (cy.1, 12, .inl (fun z => nI (sl z % 8)))), (m8, .inl (cy.1, 12, .inl (fun z => nI (sl z / 8))))]) [(M, .inr (5, [.int (nI 0), .ref m1, .ref m2, .ref m3, .ref m4, .ref m5, .int (nI fl), .int (nI t), .int (nI nn), .ref m6, .ref m7, .ref m8, .ref m9, .ref m10, .ref m11, .ref m12, .ref m13, .ref m14, .ref m15, .int mam])), (m1, .inl (cy.1, 4, .inl (fun z => nI (fc z)))), (m2, .inl (cy.1, 32, .inl lm)), (m6, .inl (cy.1, 12, .inl (upd ab nn (-1 : Int32)))), (m7, .inl (cy.1, 12, .inl (fun z => nI (va_up sl nn (t * 8 + f) z % 8)))), (m8, .inl (cy.1, 12, .inl (fun z => nI (sl z / 8))))] := hD
                            refine lv_aload_n hx hb dX5_node_221 rfl (lv_at hl 0 rfl) ?_
                            refine va_get (D := D) (ci := 5) (v := .ref m8) (C := RX5) (T := TX5) (N := 20) hx hb hts in_wsX5_node_X5 hown hK.1 hP 0 rfl rfl 11 (by decide) (hts _ lk364_wsX5_node) (fun _ h9 => h9) rfl dX5_node_222 ?_
                            refine lv_aload_n hx hb dX5_node_225 rfl (lv_at hl 0 rfl) ?_
                            refine va_get (D := D) (ci := 5) (v := .int (nI nn)) (C := RX5) (T := TX5) (N := 20) hx hb hts in_wsX5_node_X5 hown hK.1 hP 0 rfl rfl 8 (by decide) (hts _ lk361_wsX5_node) (fun _ h9 => h9) rfl dX5_node_226 ?_
                            refine lv_iload_n hx hb dX5_node_229 rfl (lv_at hl 3 rfl) ?_
                            refine z_iast (g := fun z => nI (va_up sl nn (t * 8 + f) z / 8)) hx hb hK.1 hP hD hS 5 0 rfl rfl (k := nn) (by omega) (by decide) (fun z _ => by unfold upd va_up; split; (rw [show (t * 8 + f) / 8 = t by omega]); rfl) dX5_node_230 (fun H locs hP hD hS => ?_)
                            have hP : va_P D vwCl [(M, .inr (5, [.int (nI 0), .ref m1, .ref m2, .ref m3, .ref m4, .ref m5, .int (nI fl), .int (nI t), .int (nI nn), .ref m6, .ref m7, .ref m8, .ref m9, .ref m10, .ref m11, .ref m12, .ref m13, .ref m14, .ref m15, .int mam])), (m1, .inl (cy.1, 4, .inl (fun z => nI (fc z)))), (m2, .inl (cy.1, 32, .inl lm)), (m6, .inl (cy.1, 12, .inl (upd ab nn (-1 : Int32)))), (m7, .inl (cy.1, 12, .inl (fun z => nI (va_up sl nn (t * 8 + f) z % 8)))), (m8, .inl (cy.1, 12, .inl (fun z => nI (va_up sl nn (t * 8 + f) z / 8))))] H := hP
                            have hD : va_D (zIn [(M, .inr (5, [.int thr, .ref m1, .ref m2, .ref m3, .ref m4, .ref m5, .int (nI fl), .int (nI t), .int (nI nn), .ref m6, .ref m7, .ref m8, .ref m9, .ref m10, .ref m11, .ref m12, .ref m13, .ref m14, .ref m15, .int mam])), (m1, .inl (cy.1, 4, .inl (fun z => nI (fc z)))), (m2, .inl (cy.1, 32, .inl lm)), (m6, .inl (cy.1, 12, .inl ab)), (m7, .inl (cy.1, 12, .inl (fun z => nI (sl z % 8)))), (m8, .inl (cy.1, 12, .inl (fun z => nI (sl z / 8))))]) [(M, .inr (5, [.int (nI 0), .ref m1, .ref m2, .ref m3, .ref m4, .ref m5, .int (nI fl), .int (nI t), .int (nI nn), .ref m6, .ref m7, .ref m8, .ref m9, .ref m10, .ref m11, .ref m12, .ref m13, .ref m14, .ref m15, .int mam])), (m1, .inl (cy.1, 4, .inl (fun z => nI (fc z)))), (m2, .inl (cy.1, 32, .inl lm)), (m6, .inl (cy.1, 12, .inl (upd ab nn (-1 : Int32)))), (m7, .inl (cy.1, 12, .inl (fun z => nI (va_up sl nn (t * 8 + f) z % 8)))), (m8, .inl (cy.1, 12, .inl (fun z => nI (va_up sl nn (t * 8 + f) z / 8))))] := hD
                            refine lv_aload_n hx hb dX5_node_231 rfl (lv_at hl 0 rfl) ?_
                            refine lv_dup hx hb dX5_node_232 rfl ?_
                            refine va_get (D := D) (ci := 5) (v := .int (nI nn)) (C := RX5) (T := TX5) (N := 20) hx hb hts in_wsX5_node_X5 hown hK.1 hP 0 rfl rfl 8 (by decide) (hts _ lk361_wsX5_node) (fun _ h9 => h9) rfl dX5_node_233 ?_
                            refine lv_iconst (v := nI 1) hx hb dX5_node_236 (by decide) ?_
                            refine lv_iadd hx hb dX5_node_237 ?_
                            refine z_top (y := nI (nn + 1)) (nI_add _ _) ?_
                            refine va_put (D := D) (ci := 5) (v := .int (nI (nn + 1))) (ty := .int) (C := RX5) (T := TX5) (N := 20) hx hb hts in_wsX5_node_X5 tyX5 tyX5_ok nmX5 hown hK.1 hP hD hS 0 rfl rfl 8 (by decide) (hts _ lk361_wsX5_node) (fun _ h9 => h9) rfl (by decide +kernel) rfl rfl (Nat.le_of_ble_eq_true rfl) dX5_node_238 (fun H locs hP hD hS => ?_)
                            have hP : va_P D vwCl [(M, .inr (5, [.int (nI 0), .ref m1, .ref m2, .ref m3, .ref m4, .ref m5, .int (nI fl), .int (nI t), .int (nI (nn + 1)), .ref m6, .ref m7, .ref m8, .ref m9, .ref m10, .ref m11, .ref m12, .ref m13, .ref m14, .ref m15, .int mam])), (m1, .inl (cy.1, 4, .inl (fun z => nI (fc z)))), (m2, .inl (cy.1, 32, .inl lm)), (m6, .inl (cy.1, 12, .inl (upd ab nn (-1 : Int32)))), (m7, .inl (cy.1, 12, .inl (fun z => nI (va_up sl nn (t * 8 + f) z % 8)))), (m8, .inl (cy.1, 12, .inl (fun z => nI (va_up sl nn (t * 8 + f) z / 8))))] H := hP
                            have hD : va_D (zIn [(M, .inr (5, [.int thr, .ref m1, .ref m2, .ref m3, .ref m4, .ref m5, .int (nI fl), .int (nI t), .int (nI nn), .ref m6, .ref m7, .ref m8, .ref m9, .ref m10, .ref m11, .ref m12, .ref m13, .ref m14, .ref m15, .int mam])), (m1, .inl (cy.1, 4, .inl (fun z => nI (fc z)))), (m2, .inl (cy.1, 32, .inl lm)), (m6, .inl (cy.1, 12, .inl ab)), (m7, .inl (cy.1, 12, .inl (fun z => nI (sl z % 8)))), (m8, .inl (cy.1, 12, .inl (fun z => nI (sl z / 8))))]) [(M, .inr (5, [.int (nI 0), .ref m1, .ref m2, .ref m3, .ref m4, .ref m5, .int (nI fl), .int (nI t), .int (nI (nn + 1)), .ref m6, .ref m7, .ref m8, .ref m9, .ref m10, .ref m11, .ref m12, .ref m13, .ref m14, .ref m15, .int mam])), (m1, .inl (cy.1, 4, .inl (fun z => nI (fc z)))), (m2, .inl (cy.1, 32, .inl lm)), (m6, .inl (cy.1, 12, .inl (upd ab nn (-1 : Int32)))), (m7, .inl (cy.1, 12, .inl (fun z => nI (va_up sl nn (t * 8 + f) z % 8)))), (m8, .inl (cy.1, 12, .inl (fun z => nI (va_up sl nn (t * 8 + f) z / 8))))] := hD
                            refine lv_aload_n hx hb dX5_node_241 rfl (lv_at hl 0 rfl) ?_
                            refine va_get (D := D) (ci := 5) (v := .int (nI (nn + 1))) (C := RX5) (T := TX5) (N := 20) hx hb hts in_wsX5_node_X5 hown hK.1 hP 0 rfl rfl 8 (by decide) (hts _ lk361_wsX5_node) (fun _ h9 => h9) rfl dX5_node_242 ?_
                            refine lv_iconst (v := nI 1) hx hb dX5_node_245 (by decide) ?_
                            refine lv_isub hx hb dX5_node_246 ?_
                            refine z_top (y := nI nn) (nI_pred nn) ?_
                            exact z_iretW () hx hb hr hlocks hS dX5_node_247 hP rfl
                          · have cb11 : ¬ (0 ≤ 0) := zn_le_f (a := 0) (b := 0) (by omega) (by omega) cb11
                            exact absurd cb11 (by decide)
                        · have cb10 : (A) = true := bI_f0 cb10
                          exact absurd cb10 (fun z => by obtain ⟨j, h1, h2, h3⟩ := of_decide_eq_true (hA.symm.trans z); have := hty j (by omega) h2; exact hrm.1 j (by omega) ⟨h2, by omega⟩)
                · have cb6 : ¬ (nn ≤ n) := zn_ge_f (a := n) (b := nn) (by omega) (by omega) cb6
                  refine lv_iload hx hb dX5_node_99 (lv_at hl 4 rfl) ?_
                  refine lv_aload_n hx hb dX5_node_101 rfl (lv_at hl 0 rfl) ?_
                  refine va_get (D := D) (ci := 5) (v := .ref m6) (C := RX5) (T := TX5) (N := 20) hx hb hts in_wsX5_node_X5 hown hK.1 hP 0 rfl rfl 9 (by decide) (hts _ lk362_wsX5_node) (fun _ h9 => h9) rfl dX5_node_102 ?_
                  refine lv_iload hx hb dX5_node_105 (lv_at hl 6 rfl) ?_
                  refine z_iald (v := (ab n)) hx hb hK.1 hP 3 0 rfl rfl (k := n) (by omega) (by decide) rfl dX5_node_107 ?_
                  refine lv_iload_n hx hb dX5_node_108 rfl (lv_at hl 1 rfl) ?_
                  refine lv_icmp_ne (tgt := 116) hx hb dX5_node_109 (by decide) (fun cb12 => ?_) (fun cb12 => ?_)
                  · skip
                    refine lv_iconst (v := nI 0) hx hb dX5_node_116 (by decide) ?_
                    refine lv_iadd hx hb dX5_node_117 ?_
                    refine z_top (y := nI (mc9 + 0)) (nI_add _ _) ?_
                    refine lv_istore (lv' := [(4, .int (nI (mc9 + 0))), (0, .ref M), (1, .int ((-1 : Int32))), (2, .int (nI f)), (3, .int (nI t)), (5, .int (bI (A))), (6, .int (nI n))]) hx hb dX5_node_118 hl (by decide) rfl (fun ls hl => ?_)
                    refine lv_iload hx hb dX5_node_120 (lv_at hl 5 rfl) ?_
                    refine lv_if_ne (tgt := 147) hx hb dX5_node_122 (by decide) (fun cb13 => ?_) (fun cb13 => ?_)
                    · have cb13 : (A) = true := bI_f0 cb13
                      refine lv_iconst (v := nI 1) hx hb dX5_node_147 (by decide) ?_
                      refine lv_goto (tgt := 152) hx hb dX5_node_148 (by decide) ?_
                      refine lv_istore (lv' := [(5, .int (nI 1)), (4, .int (nI (mc9 + 0))), (0, .ref M), (1, .int ((-1 : Int32))), (2, .int (nI f)), (3, .int (nI t)), (6, .int (nI n))]) hx hb dX5_node_152 hl (by decide) rfl (fun ls hl => ?_)
                      refine lv_iinc (v := nI (n + 1)) (lv' := [(6, .int (nI (n + 1))), (5, .int (nI 1)), (4, .int (nI (mc9 + 0))), (0, .ref M), (1, .int ((-1 : Int32))), (2, .int (nI f)), (3, .int (nI t))]) hx hb dX5_node_154 hl (k := 6) rfl (z_inc _) (by decide) rfl (fun ls hl => ?_)
                      refine lv_goto (tgt := 90) hx hb dX5_node_157 (by decide) ?_
                      exact ih_lo (n + 1) (mc9 + 0) true (by omega) (by omega) (by omega) (by unfold zcnt; rw [if_neg (fun z => cb12 (of_decide_eq_true z)), ← ht9]; try rfl) (decide_eq_true ((of_decide_eq_true (hA.symm.trans cb13)).imp fun j h => ⟨by omega, h.2⟩)).symm _ _ _ hP hD hS (lv_sub hl [3, 4, 5, 6, 2, 1, 0] rfl)
                    · have cb13 : (A) = false := bI_t0 cb13
                      refine lv_aload_n hx hb dX5_node_125 rfl (lv_at hl 1 rfl) ?_
                      refine va_get (D := D) (ci := 5) (v := .ref m6) (C := RX5) (T := TX5) (N := 20) hx hb hts in_wsX5_node_X5 hown hK.1 hP 0 rfl rfl 9 (by decide) (hts _ lk362_wsX5_node) (fun _ h9 => h9) rfl dX5_node_126 ?_
                      refine lv_iload hx hb dX5_node_129 (lv_at hl 6 rfl) ?_
                      refine z_iald (v := (ab n)) hx hb hK.1 hP 3 0 rfl rfl (k := n) (by omega) (by decide) rfl dX5_node_131 ?_
                      refine lv_iload_n hx hb dX5_node_132 rfl (lv_at hl 2 rfl) ?_
                      refine lv_icmp_ne (tgt := 151) hx hb dX5_node_133 (by decide) (fun cb14 => ?_) (fun cb14 => ?_)
                      · skip
                        refine lv_iconst (v := nI 0) hx hb dX5_node_151 (by decide) ?_
                        refine lv_istore (lv' := [(5, .int (nI 0)), (4, .int (nI (mc9 + 0))), (0, .ref M), (1, .int ((-1 : Int32))), (2, .int (nI f)), (3, .int (nI t)), (6, .int (nI n))]) hx hb dX5_node_152 hl (by decide) rfl (fun ls hl => ?_)
                        refine lv_iinc (v := nI (n + 1)) (lv' := [(6, .int (nI (n + 1))), (5, .int (nI 0)), (4, .int (nI (mc9 + 0))), (0, .ref M), (1, .int ((-1 : Int32))), (2, .int (nI f)), (3, .int (nI t))]) hx hb dX5_node_154 hl (k := 6) rfl (z_inc _) (by decide) rfl (fun ls hl => ?_)
                        refine lv_goto (tgt := 90) hx hb dX5_node_157 (by decide) ?_
                        exact ih_lo (n + 1) (mc9 + 0) false (by omega) (by omega) (by omega) (by unfold zcnt; rw [if_neg (fun z => cb12 (of_decide_eq_true z)), ← ht9]; try rfl) (decide_eq_false (fun ⟨j, h1, h2, h3⟩ => (Nat.lt_or_ge j n).elim (fun y => of_decide_eq_false (hA.symm.trans cb13) ⟨j, y, h2, h3⟩) (fun y => by obtain rfl : j = n := (by omega); exact cb14 h2))).symm _ _ _ hP hD hS (lv_sub hl [3, 4, 5, 6, 2, 1, 0] rfl)
                      · skip
                        refine lv_aload_n hx hb dX5_node_136 rfl (lv_at hl 1 rfl) ?_
                        refine va_get (D := D) (ci := 5) (v := .ref m7) (C := RX5) (T := TX5) (N := 20) hx hb hts in_wsX5_node_X5 hown hK.1 hP 0 rfl rfl 10 (by decide) (hts _ lk363_wsX5_node) (fun _ h9 => h9) rfl dX5_node_137 ?_
                        refine lv_iload hx hb dX5_node_140 (lv_at hl 6 rfl) ?_
                        refine z_iald (v := nI (sl n % 8)) hx hb hK.1 hP 4 0 rfl rfl (k := n) (by omega) (by decide) rfl dX5_node_142 ?_
                        refine lv_iload_n hx hb dX5_node_143 rfl (lv_at hl 3 rfl) ?_
                        refine lv_icmp_ne (tgt := 151) hx hb dX5_node_144 (by decide) (fun cb15 => ?_) (fun cb15 => ?_)
                        · have cb15 : ¬ ((sl n % 8) = f) := zn_ne_f (a := (sl n % 8)) (b := f) (by omega) (by omega) cb15
                          refine lv_iconst (v := nI 0) hx hb dX5_node_151 (by decide) ?_
                          refine lv_istore (lv' := [(5, .int (nI 0)), (4, .int (nI (mc9 + 0))), (0, .ref M), (1, .int ((-1 : Int32))), (2, .int (nI f)), (3, .int (nI t)), (6, .int (nI n))]) hx hb dX5_node_152 hl (by decide) rfl (fun ls hl => ?_)
                          refine lv_iinc (v := nI (n + 1)) (lv' := [(6, .int (nI (n + 1))), (5, .int (nI 0)), (4, .int (nI (mc9 + 0))), (0, .ref M), (1, .int ((-1 : Int32))), (2, .int (nI f)), (3, .int (nI t))]) hx hb dX5_node_154 hl (k := 6) rfl (z_inc _) (by decide) rfl (fun ls hl => ?_)
                          refine lv_goto (tgt := 90) hx hb dX5_node_157 (by decide) ?_
                          exact ih_lo (n + 1) (mc9 + 0) false (by omega) (by omega) (by omega) (by unfold zcnt; rw [if_neg (fun z => cb12 (of_decide_eq_true z)), ← ht9]; try rfl) (decide_eq_false (fun ⟨j, h1, h2, h3⟩ => (Nat.lt_or_ge j n).elim (fun y => of_decide_eq_false (hA.symm.trans cb13) ⟨j, y, h2, h3⟩) (fun y => by obtain rfl : j = n := (by omega); exact cb15 h3))).symm _ _ _ hP hD hS (lv_sub hl [3, 4, 5, 6, 2, 1, 0] rfl)
                        · have cb15 : (sl n % 8) = f := zn_ne_t (a := (sl n % 8)) (b := f) (by omega) (by omega) cb15
                          refine lv_iconst (v := nI 1) hx hb dX5_node_147 (by decide) ?_
                          refine lv_goto (tgt := 152) hx hb dX5_node_148 (by decide) ?_
                          refine lv_istore (lv' := [(5, .int (nI 1)), (4, .int (nI (mc9 + 0))), (0, .ref M), (1, .int ((-1 : Int32))), (2, .int (nI f)), (3, .int (nI t)), (6, .int (nI n))]) hx hb dX5_node_152 hl (by decide) rfl (fun ls hl => ?_)
                          refine lv_iinc (v := nI (n + 1)) (lv' := [(6, .int (nI (n + 1))), (5, .int (nI 1)), (4, .int (nI (mc9 + 0))), (0, .ref M), (1, .int ((-1 : Int32))), (2, .int (nI f)), (3, .int (nI t))]) hx hb dX5_node_154 hl (k := 6) rfl (z_inc _) (by decide) rfl (fun ls hl => ?_)
                          refine lv_goto (tgt := 90) hx hb dX5_node_157 (by decide) ?_
                          exact ih_lo (n + 1) (mc9 + 0) true (by omega) (by omega) (by omega) (by unfold zcnt; rw [if_neg (fun z => cb12 (of_decide_eq_true z)), ← ht9]; try rfl) (decide_eq_true ⟨n, by omega, cb14, cb15⟩).symm _ _ _ hP hD hS (lv_sub hl [3, 4, 5, 6, 2, 1, 0] rfl)
                  · skip
                    refine lv_iconst (v := nI 1) hx hb dX5_node_112 (by decide) ?_
                    refine lv_goto (tgt := 117) hx hb dX5_node_113 (by decide) ?_
                    refine lv_iadd hx hb dX5_node_117 ?_
                    refine z_top (y := nI (mc9 + 1)) (nI_add _ _) ?_
                    refine lv_istore (lv' := [(4, .int (nI (mc9 + 1))), (0, .ref M), (1, .int ((-1 : Int32))), (2, .int (nI f)), (3, .int (nI t)), (5, .int (bI (A))), (6, .int (nI n))]) hx hb dX5_node_118 hl (by decide) rfl (fun ls hl => ?_)
                    refine lv_iload hx hb dX5_node_120 (lv_at hl 5 rfl) ?_
                    refine lv_if_ne (tgt := 147) hx hb dX5_node_122 (by decide) (fun cb16 => ?_) (fun cb16 => ?_)
                    · have cb16 : (A) = true := bI_f0 cb16
                      refine lv_iconst (v := nI 1) hx hb dX5_node_147 (by decide) ?_
                      refine lv_goto (tgt := 152) hx hb dX5_node_148 (by decide) ?_
                      refine lv_istore (lv' := [(5, .int (nI 1)), (4, .int (nI (mc9 + 1))), (0, .ref M), (1, .int ((-1 : Int32))), (2, .int (nI f)), (3, .int (nI t)), (6, .int (nI n))]) hx hb dX5_node_152 hl (by decide) rfl (fun ls hl => ?_)
                      refine lv_iinc (v := nI (n + 1)) (lv' := [(6, .int (nI (n + 1))), (5, .int (nI 1)), (4, .int (nI (mc9 + 1))), (0, .ref M), (1, .int ((-1 : Int32))), (2, .int (nI f)), (3, .int (nI t))]) hx hb dX5_node_154 hl (k := 6) rfl (z_inc _) (by decide) rfl (fun ls hl => ?_)
                      refine lv_goto (tgt := 90) hx hb dX5_node_157 (by decide) ?_
                      exact ih_lo (n + 1) (mc9 + 1) true (by omega) (by omega) (by omega) (by unfold zcnt; rw [if_pos (decide_eq_true cb12), ← ht9]) (decide_eq_true ((of_decide_eq_true (hA.symm.trans cb16)).imp fun j h => ⟨by omega, h.2⟩)).symm _ _ _ hP hD hS (lv_sub hl [3, 4, 5, 6, 2, 1, 0] rfl)
                    · have cb16 : (A) = false := bI_t0 cb16
                      refine lv_aload_n hx hb dX5_node_125 rfl (lv_at hl 1 rfl) ?_
                      refine va_get (D := D) (ci := 5) (v := .ref m6) (C := RX5) (T := TX5) (N := 20) hx hb hts in_wsX5_node_X5 hown hK.1 hP 0 rfl rfl 9 (by decide) (hts _ lk362_wsX5_node) (fun _ h9 => h9) rfl dX5_node_126 ?_
                      refine lv_iload hx hb dX5_node_129 (lv_at hl 6 rfl) ?_
                      refine z_iald (v := (ab n)) hx hb hK.1 hP 3 0 rfl rfl (k := n) (by omega) (by decide) rfl dX5_node_131 ?_
                      refine lv_iload_n hx hb dX5_node_132 rfl (lv_at hl 2 rfl) ?_
                      refine lv_icmp_ne (tgt := 151) hx hb dX5_node_133 (by decide) (fun cb17 => ?_) (fun cb17 => ?_)
                      · skip
                        refine lv_iconst (v := nI 0) hx hb dX5_node_151 (by decide) ?_
                        refine lv_istore (lv' := [(5, .int (nI 0)), (4, .int (nI (mc9 + 1))), (0, .ref M), (1, .int ((-1 : Int32))), (2, .int (nI f)), (3, .int (nI t)), (6, .int (nI n))]) hx hb dX5_node_152 hl (by decide) rfl (fun ls hl => ?_)
                        refine lv_iinc (v := nI (n + 1)) (lv' := [(6, .int (nI (n + 1))), (5, .int (nI 0)), (4, .int (nI (mc9 + 1))), (0, .ref M), (1, .int ((-1 : Int32))), (2, .int (nI f)), (3, .int (nI t))]) hx hb dX5_node_154 hl (k := 6) rfl (z_inc _) (by decide) rfl (fun ls hl => ?_)
                        refine lv_goto (tgt := 90) hx hb dX5_node_157 (by decide) ?_
                        exact ih_lo (n + 1) (mc9 + 1) false (by omega) (by omega) (by omega) (by unfold zcnt; rw [if_pos (decide_eq_true cb12), ← ht9]) (decide_eq_false (fun ⟨j, h1, h2, h3⟩ => (Nat.lt_or_ge j n).elim (fun y => of_decide_eq_false (hA.symm.trans cb16) ⟨j, y, h2, h3⟩) (fun y => by obtain rfl : j = n := (by omega); exact cb17 h2))).symm _ _ _ hP hD hS (lv_sub hl [3, 4, 5, 6, 2, 1, 0] rfl)
                      · skip
                        refine lv_aload_n hx hb dX5_node_136 rfl (lv_at hl 1 rfl) ?_
                        refine va_get (D := D) (ci := 5) (v := .ref m7) (C := RX5) (T := TX5) (N := 20) hx hb hts in_wsX5_node_X5 hown hK.1 hP 0 rfl rfl 10 (by decide) (hts _ lk363_wsX5_node) (fun _ h9 => h9) rfl dX5_node_137 ?_
                        refine lv_iload hx hb dX5_node_140 (lv_at hl 6 rfl) ?_
                        refine z_iald (v := nI (sl n % 8)) hx hb hK.1 hP 4 0 rfl rfl (k := n) (by omega) (by decide) rfl dX5_node_142 ?_
                        refine lv_iload_n hx hb dX5_node_143 rfl (lv_at hl 3 rfl) ?_
                        refine lv_icmp_ne (tgt := 151) hx hb dX5_node_144 (by decide) (fun cb18 => ?_) (fun cb18 => ?_)
                        · have cb18 : ¬ ((sl n % 8) = f) := zn_ne_f (a := (sl n % 8)) (b := f) (by omega) (by omega) cb18
                          refine lv_iconst (v := nI 0) hx hb dX5_node_151 (by decide) ?_
                          refine lv_istore (lv' := [(5, .int (nI 0)), (4, .int (nI (mc9 + 1))), (0, .ref M), (1, .int ((-1 : Int32))), (2, .int (nI f)), (3, .int (nI t)), (6, .int (nI n))]) hx hb dX5_node_152 hl (by decide) rfl (fun ls hl => ?_)
                          refine lv_iinc (v := nI (n + 1)) (lv' := [(6, .int (nI (n + 1))), (5, .int (nI 0)), (4, .int (nI (mc9 + 1))), (0, .ref M), (1, .int ((-1 : Int32))), (2, .int (nI f)), (3, .int (nI t))]) hx hb dX5_node_154 hl (k := 6) rfl (z_inc _) (by decide) rfl (fun ls hl => ?_)
                          refine lv_goto (tgt := 90) hx hb dX5_node_157 (by decide) ?_
                          exact ih_lo (n + 1) (mc9 + 1) false (by omega) (by omega) (by omega) (by unfold zcnt; rw [if_pos (decide_eq_true cb12), ← ht9]) (decide_eq_false (fun ⟨j, h1, h2, h3⟩ => (Nat.lt_or_ge j n).elim (fun y => of_decide_eq_false (hA.symm.trans cb16) ⟨j, y, h2, h3⟩) (fun y => by obtain rfl : j = n := (by omega); exact cb18 h3))).symm _ _ _ hP hD hS (lv_sub hl [3, 4, 5, 6, 2, 1, 0] rfl)
                        · have cb18 : (sl n % 8) = f := zn_ne_t (a := (sl n % 8)) (b := f) (by omega) (by omega) cb18
                          refine lv_iconst (v := nI 1) hx hb dX5_node_147 (by decide) ?_
                          refine lv_goto (tgt := 152) hx hb dX5_node_148 (by decide) ?_
                          refine lv_istore (lv' := [(5, .int (nI 1)), (4, .int (nI (mc9 + 1))), (0, .ref M), (1, .int ((-1 : Int32))), (2, .int (nI f)), (3, .int (nI t)), (6, .int (nI n))]) hx hb dX5_node_152 hl (by decide) rfl (fun ls hl => ?_)
                          refine lv_iinc (v := nI (n + 1)) (lv' := [(6, .int (nI (n + 1))), (5, .int (nI 1)), (4, .int (nI (mc9 + 1))), (0, .ref M), (1, .int ((-1 : Int32))), (2, .int (nI f)), (3, .int (nI t))]) hx hb dX5_node_154 hl (k := 6) rfl (z_inc _) (by decide) rfl (fun ls hl => ?_)
                          refine lv_goto (tgt := 90) hx hb dX5_node_157 (by decide) ?_
                          exact ih_lo (n + 1) (mc9 + 1) true (by omega) (by omega) (by omega) (by unfold zcnt; rw [if_pos (decide_eq_true cb12), ← ht9]) (decide_eq_true ⟨n, by omega, cb17, cb18⟩).symm _ _ _ hP hD hS (lv_sub hl [3, 4, 5, 6, 2, 1, 0] rfl)
            exact lo (nn + 1) 0 0 false (by omega) (by omega) (by omega) rfl (decide_eq_false (fun ⟨j, h1, _⟩ => absurd h1 (by omega))).symm _ _ _ hP hD hS (lv_sub hl [4, 5, 6, 3, 2, 1, 0] rfl)
        · skip
          exact absurd cb4 (nI_m1 (by omega))
    · have cb2 : ¬ (0 ≤ 0) := zn_le_f (a := 0) (b := 0) (by omega) (by omega) cb2
      exact absurd cb2 (by decide)
  · skip
    exact absurd rfl cb1
set_option maxHeartbeats 4000000 in
set_option maxRecDepth 100000 in
theorem c_X5_node_badR_top {l : Launch} {D : va_G} {cy : zCy} {M m1 m2 m3 m4 m5 m6 m7 m8 m9 m10 m11 m12 m13 m14 m15 nn qt fl : Nat} {thr mam : Int32} {fc sl : Nat → Nat} {lm ab : Nat → Int32} (hn : nn ≤ 12) {t : Nat} (ht : t < 4) (hf8 : fc t ≤ 8) (hty : ∀ j, j < nn → ab j = (-1 : Int32) → sl j / 8 = t) (hc4 : zcnt (fun j => decide (ab j = (-1 : Int32))) nn ≤ 4) {f : Nat} (hf : f < fc t) (hrm : ¬ ((∀ j, j < nn → ¬ (ab j = (-1 : Int32) ∧ sl j = t * 8 + f)) ∧ nn < 12 ∧ zcnt (fun j => decide (ab j = (-1 : Int32))) nn < 4)) : zW (Unit) l yX5_node wsX5_node rmX5_node D cy [(M, .inr (5, [.int thr, .ref m1, .ref m2, .ref m3, .ref m4, .ref m5, .int (nI fl), .int (nI t), .int (nI nn), .ref m6, .ref m7, .ref m8, .ref m9, .ref m10, .ref m11, .ref m12, .ref m13, .ref m14, .ref m15, .int mam])), (m1, .inl (cy.1, 4, .inl (fun z => nI (fc z)))), (m2, .inl (cy.1, 32, .inl lm)), (m6, .inl (cy.1, 12, .inl ab)), (m7, .inl (cy.1, 12, .inl (fun z => nI (sl z % 8)))), (m8, .inl (cy.1, 12, .inl (fun z => nI (sl z / 8))))] [.ref M, .int ((-1 : Int32)), .int (nI f)] (fun _ _ => True) (fun _ => [(M, .inr (5, [.int (nI 2), .ref m1, .ref m2, .ref m3, .ref m4, .ref m5, .int (nI fl), .int (nI t), .int (nI nn), .ref m6, .ref m7, .ref m8, .ref m9, .ref m10, .ref m11, .ref m12, .ref m13, .ref m14, .ref m15, .int mam])), (m1, .inl (cy.1, 4, .inl (fun z => nI (fc z)))), (m2, .inl (cy.1, 32, .inl lm)), (m6, .inl (cy.1, 12, .inl ab)), (m7, .inl (cy.1, 12, .inl (fun z => nI (sl z % 8)))), (m8, .inl (cy.1, 12, .inl (fun z => nI (sl z / 8))))]) := by
  refine zW.of (cc := cX5_node) (maxL := 7) (ret := (some .int)) (by decide) rfl rfl ?_
  intro p e s m below meth c ls C hP hK hD hl
  obtain ⟨hx, hb, hr, hml, hts, hown, hlocks⟩ := C
  have hS : va_S (zIn [(M, .inr (5, [.int thr, .ref m1, .ref m2, .ref m3, .ref m4, .ref m5, .int (nI fl), .int (nI t), .int (nI nn), .ref m6, .ref m7, .ref m8, .ref m9, .ref m10, .ref m11, .ref m12, .ref m13, .ref m14, .ref m15, .int mam])), (m1, .inl (cy.1, 4, .inl (fun z => nI (fc z)))), (m2, .inl (cy.1, 32, .inl lm)), (m6, .inl (cy.1, 12, .inl ab)), (m7, .inl (cy.1, 12, .inl (fun z => nI (sl z % 8)))), (m8, .inl (cy.1, 12, .inl (fun z => nI (sl z / 8))))]) s.heap s.heap [] := va_S.rf
  have hl : lv_has ls 7 [(0, .ref M), (1, .int ((-1 : Int32))), (2, .int (nI f))] := hl
  refine lv_aload_n hx hb dX5_node_0 rfl (lv_at hl 0 rfl) ?_
  refine lv_iload_n hx hb dX5_node_1 rfl (lv_at hl 1 rfl) ?_
  refine lv_iconst (v := (-1 : Int32)) hx hb dX5_node_2 (by decide) ?_
  refine lv_icmp_eq (tgt := 14) hx hb dX5_node_3 (by decide) (fun cb1 => ?_) (fun cb1 => ?_)
  · skip
    refine lv_iconst (v := nI 0) hx hb dX5_node_14 (by decide) ?_
    refine lv_goto (tgt := 19) hx hb dX5_node_15 (by decide) ?_
    refine va_put (D := D) (ci := 5) (v := .int (nI 0)) (ty := .int) (C := RX5) (T := TX5) (N := 20) hx hb hts in_wsX5_node_X5 tyX5 tyX5_ok nmX5 hown hK.1 hP hD hS 0 rfl rfl 0 (by decide) (hts _ lk358_wsX5_node) (fun _ h9 => h9) rfl (by decide +kernel) rfl rfl (Nat.le_of_ble_eq_true rfl) dX5_node_19 (fun H locs hP hD hS => ?_)
    have hP : va_P D vwCl [(M, .inr (5, [.int (nI 0), .ref m1, .ref m2, .ref m3, .ref m4, .ref m5, .int (nI fl), .int (nI t), .int (nI nn), .ref m6, .ref m7, .ref m8, .ref m9, .ref m10, .ref m11, .ref m12, .ref m13, .ref m14, .ref m15, .int mam])), (m1, .inl (cy.1, 4, .inl (fun z => nI (fc z)))), (m2, .inl (cy.1, 32, .inl lm)), (m6, .inl (cy.1, 12, .inl ab)), (m7, .inl (cy.1, 12, .inl (fun z => nI (sl z % 8)))), (m8, .inl (cy.1, 12, .inl (fun z => nI (sl z / 8))))] H := hP
    have hD : va_D (zIn [(M, .inr (5, [.int thr, .ref m1, .ref m2, .ref m3, .ref m4, .ref m5, .int (nI fl), .int (nI t), .int (nI nn), .ref m6, .ref m7, .ref m8, .ref m9, .ref m10, .ref m11, .ref m12, .ref m13, .ref m14, .ref m15, .int mam])), (m1, .inl (cy.1, 4, .inl (fun z => nI (fc z)))), (m2, .inl (cy.1, 32, .inl lm)), (m6, .inl (cy.1, 12, .inl ab)), (m7, .inl (cy.1, 12, .inl (fun z => nI (sl z % 8)))), (m8, .inl (cy.1, 12, .inl (fun z => nI (sl z / 8))))]) [(M, .inr (5, [.int (nI 0), .ref m1, .ref m2, .ref m3, .ref m4, .ref m5, .int (nI fl), .int (nI t), .int (nI nn), .ref m6, .ref m7, .ref m8, .ref m9, .ref m10, .ref m11, .ref m12, .ref m13, .ref m14, .ref m15, .int mam])), (m1, .inl (cy.1, 4, .inl (fun z => nI (fc z)))), (m2, .inl (cy.1, 32, .inl lm)), (m6, .inl (cy.1, 12, .inl ab)), (m7, .inl (cy.1, 12, .inl (fun z => nI (sl z % 8)))), (m8, .inl (cy.1, 12, .inl (fun z => nI (sl z / 8))))] := hD
    refine lv_aload_n hx hb dX5_node_22 rfl (lv_at hl 0 rfl) ?_
    refine va_get (D := D) (ci := 5) (v := .int (nI 0)) (C := RX5) (T := TX5) (N := 20) hx hb hts in_wsX5_node_X5 hown hK.1 hP 0 rfl rfl 0 (by decide) (hts _ lk358_wsX5_node) (fun _ h9 => h9) rfl dX5_node_23 ?_
    refine lv_if_le (tgt := 31) hx hb dX5_node_26 (by decide) (fun cb2 => ?_) (fun cb2 => ?_)
    · have cb2 : 0 ≤ 0 := zn_le_t (a := 0) (b := 0) (by omega) (by omega) cb2
      refine lv_iload_n hx hb dX5_node_31 rfl (lv_at hl 1 rfl) ?_
      refine lv_iconst (v := (-1 : Int32)) hx hb dX5_node_32 (by decide) ?_
      refine lv_icmp_ne (tgt := 43) hx hb dX5_node_33 (by decide) (fun cb3 => ?_) (fun cb3 => ?_)
      · skip
        exact absurd rfl cb3
      · skip
        refine lv_aload_n hx hb dX5_node_36 rfl (lv_at hl 0 rfl) ?_
        refine va_get (D := D) (ci := 5) (v := .int (nI t)) (C := RX5) (T := TX5) (N := 20) hx hb hts in_wsX5_node_X5 hown hK.1 hP 0 rfl rfl 7 (by decide) (hts _ lk360_wsX5_node) (fun _ h9 => h9) rfl dX5_node_37 ?_
        refine lv_goto (tgt := 53) hx hb dX5_node_40 (by decide) ?_
        refine lv_istore_n (lv' := [(3, .int (nI t)), (0, .ref M), (1, .int ((-1 : Int32))), (2, .int (nI f))]) hx hb dX5_node_53 rfl hl (by decide) rfl (fun ls hl => ?_)
        refine lv_aload_n hx hb dX5_node_54 rfl (lv_at hl 1 rfl) ?_
        refine lv_iload_n hx hb dX5_node_55 rfl (lv_at hl 0 rfl) ?_
        refine lv_iconst (v := (-1 : Int32)) hx hb dX5_node_56 (by decide) ?_
        refine lv_icmp_ne (tgt := 64) hx hb dX5_node_57 (by decide) (fun cb4 => ?_) (fun cb4 => ?_)
        · skip
          refine lv_aload_n hx hb dX5_node_64 rfl (lv_at hl 1 rfl) ?_
          refine lv_iload_n hx hb dX5_node_65 rfl (lv_at hl 0 rfl) ?_
          refine lv_iload_n hx hb dX5_node_66 rfl (lv_at hl 3 rfl) ?_
          refine z_callV (b := M) (As := [.int (nI t), .int (nI f)]) (rest := [.ref M]) ⟨hx, hb, hml, hown, hts⟩ hK hP hS (c_X5_isField (i := 0) (j1 := 1) rfl rfl (t := t) (by omega) hf8 (x := nI f)) (cwV 2 hts gX5_node_X5_isField rfl rfl rfl k_yX5_isField ⟨Nat.le_of_ble_eq_true rfl, Nat.le_of_ble_eq_true rfl⟩) 0 5 rfl rfl rfl rfl hl.1 rfl rfl dX5_node_67 ⟨Nat.le_of_ble_eq_true rfl, Nat.le_of_ble_eq_true rfl⟩ (fun H locs hP hS => ?_)
          refine z_top (y := nI 1) (bI_in (by omega) (by omega)) ?_
          refine lv_if_eq (tgt := 77) hx hb dX5_node_70 (by decide) (fun cb5 => ?_) (fun cb5 => ?_)
          · have cb5 : 1 = 0 := zn_eq_t (a := 1) (b := 0) (by omega) (by omega) cb5
            exact absurd cb5 (by decide)
          · have cb5 : ¬ (1 = 0) := zn_eq_f (a := 1) (b := 0) (by omega) (by omega) cb5
            refine lv_iconst (v := nI 0) hx hb dX5_node_73 (by decide) ?_
            refine lv_goto (tgt := 78) hx hb dX5_node_74 (by decide) ?_
            refine va_put (D := D) (ci := 5) (v := .int (nI 0)) (ty := .int) (C := RX5) (T := TX5) (N := 20) hx hb hts in_wsX5_node_X5 tyX5 tyX5_ok nmX5 hown hK.1 hP hD hS 0 rfl rfl 0 (by decide) (hts _ lk358_wsX5_node) (fun _ h9 => h9) rfl (by decide +kernel) rfl rfl (Nat.le_of_ble_eq_true rfl) dX5_node_78 (fun H locs hP hD hS => ?_)
            have hP : va_P D vwCl [(M, .inr (5, [.int (nI 0), .ref m1, .ref m2, .ref m3, .ref m4, .ref m5, .int (nI fl), .int (nI t), .int (nI nn), .ref m6, .ref m7, .ref m8, .ref m9, .ref m10, .ref m11, .ref m12, .ref m13, .ref m14, .ref m15, .int mam])), (m1, .inl (cy.1, 4, .inl (fun z => nI (fc z)))), (m2, .inl (cy.1, 32, .inl lm)), (m6, .inl (cy.1, 12, .inl ab)), (m7, .inl (cy.1, 12, .inl (fun z => nI (sl z % 8)))), (m8, .inl (cy.1, 12, .inl (fun z => nI (sl z / 8))))] H := hP
            have hD : va_D (zIn [(M, .inr (5, [.int thr, .ref m1, .ref m2, .ref m3, .ref m4, .ref m5, .int (nI fl), .int (nI t), .int (nI nn), .ref m6, .ref m7, .ref m8, .ref m9, .ref m10, .ref m11, .ref m12, .ref m13, .ref m14, .ref m15, .int mam])), (m1, .inl (cy.1, 4, .inl (fun z => nI (fc z)))), (m2, .inl (cy.1, 32, .inl lm)), (m6, .inl (cy.1, 12, .inl ab)), (m7, .inl (cy.1, 12, .inl (fun z => nI (sl z % 8)))), (m8, .inl (cy.1, 12, .inl (fun z => nI (sl z / 8))))]) [(M, .inr (5, [.int (nI 0), .ref m1, .ref m2, .ref m3, .ref m4, .ref m5, .int (nI fl), .int (nI t), .int (nI nn), .ref m6, .ref m7, .ref m8, .ref m9, .ref m10, .ref m11, .ref m12, .ref m13, .ref m14, .ref m15, .int mam])), (m1, .inl (cy.1, 4, .inl (fun z => nI (fc z)))), (m2, .inl (cy.1, 32, .inl lm)), (m6, .inl (cy.1, 12, .inl ab)), (m7, .inl (cy.1, 12, .inl (fun z => nI (sl z % 8)))), (m8, .inl (cy.1, 12, .inl (fun z => nI (sl z / 8))))] := hD
            refine lv_iconst (v := nI 0) hx hb dX5_node_81 (by decide) ?_
            refine lv_istore (lv' := [(4, .int (nI 0)), (3, .int (nI t)), (0, .ref M), (1, .int ((-1 : Int32))), (2, .int (nI f))]) hx hb dX5_node_82 hl (by decide) rfl (fun ls hl => ?_)
            refine lv_iconst (v := nI 0) hx hb dX5_node_84 (by decide) ?_
            refine lv_istore (lv' := [(5, .int (nI 0)), (4, .int (nI 0)), (3, .int (nI t)), (0, .ref M), (1, .int ((-1 : Int32))), (2, .int (nI f))]) hx hb dX5_node_85 hl (by decide) rfl (fun ls hl => ?_)
            refine lv_iconst (v := nI 0) hx hb dX5_node_87 (by decide) ?_
            refine lv_istore (lv' := [(6, .int (nI 0)), (5, .int (nI 0)), (4, .int (nI 0)), (3, .int (nI t)), (0, .ref M), (1, .int ((-1 : Int32))), (2, .int (nI f))]) hx hb dX5_node_88 hl (by decide) rfl (fun ls hl => ?_)
            have lo : ∀ (fuel : Nat) (n mc9 : Nat) (A : Bool), nn + 1 ≤ n + fuel → n ≤ nn → mc9 ≤ n → (mc9 = zcnt (fun j => decide (ab j = (-1 : Int32))) n) → (A = decide (∃ j, j < n ∧ ab j = (-1 : Int32) ∧ sl j % 8 = f)) → ∀ (H : Heap) (locs : List Loc) (ls : Array Slot), va_P D vwCl [(M, .inr (5, [.int (nI 0), .ref m1, .ref m2, .ref m3, .ref m4, .ref m5, .int (nI fl), .int (nI t), .int (nI nn), .ref m6, .ref m7, .ref m8, .ref m9, .ref m10, .ref m11, .ref m12, .ref m13, .ref m14, .ref m15, .int mam])), (m1, .inl (cy.1, 4, .inl (fun z => nI (fc z)))), (m2, .inl (cy.1, 32, .inl lm)), (m6, .inl (cy.1, 12, .inl ab)), (m7, .inl (cy.1, 12, .inl (fun z => nI (sl z % 8)))), (m8, .inl (cy.1, 12, .inl (fun z => nI (sl z / 8))))] H → va_D (zIn [(M, .inr (5, [.int thr, .ref m1, .ref m2, .ref m3, .ref m4, .ref m5, .int (nI fl), .int (nI t), .int (nI nn), .ref m6, .ref m7, .ref m8, .ref m9, .ref m10, .ref m11, .ref m12, .ref m13, .ref m14, .ref m15, .int mam])), (m1, .inl (cy.1, 4, .inl (fun z => nI (fc z)))), (m2, .inl (cy.1, 32, .inl lm)), (m6, .inl (cy.1, 12, .inl ab)), (m7, .inl (cy.1, 12, .inl (fun z => nI (sl z % 8)))), (m8, .inl (cy.1, 12, .inl (fun z => nI (sl z / 8))))]) [(M, .inr (5, [.int (nI 0), .ref m1, .ref m2, .ref m3, .ref m4, .ref m5, .int (nI fl), .int (nI t), .int (nI nn), .ref m6, .ref m7, .ref m8, .ref m9, .ref m10, .ref m11, .ref m12, .ref m13, .ref m14, .ref m15, .int mam])), (m1, .inl (cy.1, 4, .inl (fun z => nI (fc z)))), (m2, .inl (cy.1, 32, .inl lm)), (m6, .inl (cy.1, 12, .inl ab)), (m7, .inl (cy.1, 12, .inl (fun z => nI (sl z % 8)))), (m8, .inl (cy.1, 12, .inl (fun z => nI (sl z / 8))))] → va_S (zIn [(M, .inr (5, [.int thr, .ref m1, .ref m2, .ref m3, .ref m4, .ref m5, .int (nI fl), .int (nI t), .int (nI nn), .ref m6, .ref m7, .ref m8, .ref m9, .ref m10, .ref m11, .ref m12, .ref m13, .ref m14, .ref m15, .int mam])), (m1, .inl (cy.1, 4, .inl (fun z => nI (fc z)))), (m2, .inl (cy.1, 32, .inl lm)), (m6, .inl (cy.1, 12, .inl ab)), (m7, .inl (cy.1, 12, .inl (fun z => nI (sl z % 8)))), (m8, .inl (cy.1, 12, .inl (fun z => nI (sl z / 8))))]) s.heap H locs → lv_has ls 7 [(0, .ref M), (1, .int ((-1 : Int32))), (2, .int (nI f)), (3, .int (nI t)), (4, .int (nI mc9)), (5, .int (bI (A))), (6, .int (nI n))] → W p l e rmX5_node s m [.ref M, .int ((-1 : Int32)), .int (nI f)].toArray below meth c H locs 0 0 (zWQ (Unit) D below [.ref M, .int ((-1 : Int32)), .int (nI f)].toArray s [(M, .inr (5, [.int thr, .ref m1, .ref m2, .ref m3, .ref m4, .ref m5, .int (nI fl), .int (nI t), .int (nI nn), .ref m6, .ref m7, .ref m8, .ref m9, .ref m10, .ref m11, .ref m12, .ref m13, .ref m14, .ref m15, .int mam])), (m1, .inl (cy.1, 4, .inl (fun z => nI (fc z)))), (m2, .inl (cy.1, 32, .inl lm)), (m6, .inl (cy.1, 12, .inl ab)), (m7, .inl (cy.1, 12, .inl (fun z => nI (sl z % 8)))), (m8, .inl (cy.1, 12, .inl (fun z => nI (sl z / 8))))] (fun _ _ => True) (fun _ => [(M, .inr (5, [.int (nI 2), .ref m1, .ref m2, .ref m3, .ref m4, .ref m5, .int (nI fl), .int (nI t), .int (nI nn), .ref m6, .ref m7, .ref m8, .ref m9, .ref m10, .ref m11, .ref m12, .ref m13, .ref m14, .ref m15, .int mam])), (m1, .inl (cy.1, 4, .inl (fun z => nI (fc z)))), (m2, .inl (cy.1, 32, .inl lm)), (m6, .inl (cy.1, 12, .inl ab)), (m7, .inl (cy.1, 12, .inl (fun z => nI (sl z % 8)))), (m8, .inl (cy.1, 12, .inl (fun z => nI (sl z / 8))))])) (F0 m 90 ls []) := by
              intro fuel
              induction fuel with
              | zero => intro n mc9 A hfu hi hm ht9 hA; exact absurd hfu (by omega)
              | succ fuel ih_lo =>
                intro n mc9 A hfu hi hm ht9 hA H locs ls hP hD hS hl
                refine lv_iload hx hb dX5_node_90 (lv_at hl 6 rfl) ?_
                refine lv_aload_n hx hb dX5_node_92 rfl (lv_at hl 0 rfl) ?_
                refine va_get (D := D) (ci := 5) (v := .int (nI nn)) (C := RX5) (T := TX5) (N := 20) hx hb hts in_wsX5_node_X5 hown hK.1 hP 0 rfl rfl 8 (by decide) (hts _ lk361_wsX5_node) (fun _ h9 => h9) rfl dX5_node_93 ?_
                refine lv_icmp_ge (tgt := 160) hx hb dX5_node_96 (by decide) (fun cb6 => ?_) (fun cb6 => ?_)
                · have cb6 : nn ≤ n := zn_ge_t (a := n) (b := nn) (by omega) (by omega) cb6
                  refine lv_aload_n hx hb dX5_node_160 rfl (lv_at hl 0 rfl) ?_
                  refine va_get (D := D) (ci := 5) (v := .int (nI 0)) (C := RX5) (T := TX5) (N := 20) hx hb hts in_wsX5_node_X5 hown hK.1 hP 0 rfl rfl 0 (by decide) (hts _ lk358_wsX5_node) (fun _ h9 => h9) rfl dX5_node_161 ?_
                  refine lv_if_ne (tgt := 192) hx hb dX5_node_164 (by decide) (fun cb7 => ?_) (fun cb7 => ?_)
                  · have cb7 : ¬ (0 = 0) := zn_ne_f (a := 0) (b := 0) (by omega) (by omega) cb7
                    exact absurd cb7 (by decide)
                  · have cb7 : 0 = 0 := zn_ne_t (a := 0) (b := 0) (by omega) (by omega) cb7
                    refine lv_aload_n hx hb dX5_node_167 rfl (lv_at hl 0 rfl) ?_
                    refine va_get (D := D) (ci := 5) (v := .int (nI nn)) (C := RX5) (T := TX5) (N := 20) hx hb hts in_wsX5_node_X5 hown hK.1 hP 0 rfl rfl 8 (by decide) (hts _ lk361_wsX5_node) (fun _ h9 => h9) rfl dX5_node_168 ?_
                    refine lv_bipush (v := nI 12) hx hb dX5_node_171 (by decide) ?_
                    refine lv_icmp_eq (tgt := 187) hx hb dX5_node_173 (by decide) (fun cb8 => ?_) (fun cb8 => ?_)
                    · have cb8 : nn = 12 := zn_eq_t (a := nn) (b := 12) (by omega) (by omega) cb8
                      refine lv_aload_n hx hb dX5_node_187 rfl (lv_at hl 0 rfl) ?_
                      refine lv_iconst (v := nI 2) hx hb dX5_node_188 (by decide) ?_
                      refine va_put (D := D) (ci := 5) (v := .int (nI 2)) (ty := .int) (C := RX5) (T := TX5) (N := 20) hx hb hts in_wsX5_node_X5 tyX5 tyX5_ok nmX5 hown hK.1 hP hD hS 0 rfl rfl 0 (by decide) (hts _ lk358_wsX5_node) (fun _ h9 => h9) rfl (by decide +kernel) rfl rfl (Nat.le_of_ble_eq_true rfl) dX5_node_189 (fun H locs hP hD hS => ?_)
                      have hP : va_P D vwCl [(M, .inr (5, [.int (nI 2), .ref m1, .ref m2, .ref m3, .ref m4, .ref m5, .int (nI fl), .int (nI t), .int (nI nn), .ref m6, .ref m7, .ref m8, .ref m9, .ref m10, .ref m11, .ref m12, .ref m13, .ref m14, .ref m15, .int mam])), (m1, .inl (cy.1, 4, .inl (fun z => nI (fc z)))), (m2, .inl (cy.1, 32, .inl lm)), (m6, .inl (cy.1, 12, .inl ab)), (m7, .inl (cy.1, 12, .inl (fun z => nI (sl z % 8)))), (m8, .inl (cy.1, 12, .inl (fun z => nI (sl z / 8))))] H := hP
                      have hD : va_D (zIn [(M, .inr (5, [.int thr, .ref m1, .ref m2, .ref m3, .ref m4, .ref m5, .int (nI fl), .int (nI t), .int (nI nn), .ref m6, .ref m7, .ref m8, .ref m9, .ref m10, .ref m11, .ref m12, .ref m13, .ref m14, .ref m15, .int mam])), (m1, .inl (cy.1, 4, .inl (fun z => nI (fc z)))), (m2, .inl (cy.1, 32, .inl lm)), (m6, .inl (cy.1, 12, .inl ab)), (m7, .inl (cy.1, 12, .inl (fun z => nI (sl z % 8)))), (m8, .inl (cy.1, 12, .inl (fun z => nI (sl z / 8))))]) [(M, .inr (5, [.int (nI 2), .ref m1, .ref m2, .ref m3, .ref m4, .ref m5, .int (nI fl), .int (nI t), .int (nI nn), .ref m6, .ref m7, .ref m8, .ref m9, .ref m10, .ref m11, .ref m12, .ref m13, .ref m14, .ref m15, .int mam])), (m1, .inl (cy.1, 4, .inl (fun z => nI (fc z)))), (m2, .inl (cy.1, 32, .inl lm)), (m6, .inl (cy.1, 12, .inl ab)), (m7, .inl (cy.1, 12, .inl (fun z => nI (sl z % 8)))), (m8, .inl (cy.1, 12, .inl (fun z => nI (sl z / 8))))] := hD
                      refine lv_aload_n hx hb dX5_node_192 rfl (lv_at hl 0 rfl) ?_
                      refine va_get (D := D) (ci := 5) (v := .int (nI 2)) (C := RX5) (T := TX5) (N := 20) hx hb hts in_wsX5_node_X5 hown hK.1 hP 0 rfl rfl 0 (by decide) (hts _ lk358_wsX5_node) (fun _ h9 => h9) rfl dX5_node_193 ?_
                      refine lv_if_le (tgt := 201) hx hb dX5_node_196 (by decide) (fun cb9 => ?_) (fun cb9 => ?_)
                      · have cb9 : 2 ≤ 0 := zn_le_t (a := 2) (b := 0) (by omega) (by omega) cb9
                        exact absurd cb9 (by decide)
                      · have cb9 : ¬ (2 ≤ 0) := zn_le_f (a := 2) (b := 0) (by omega) (by omega) cb9
                        refine lv_iconst (v := nI 0) hx hb dX5_node_199 (by decide) ?_
                        exact z_iretW () hx hb hr hlocks hS dX5_node_200 hP trivial
                    · have cb8 : ¬ (nn = 12) := zn_eq_f (a := nn) (b := 12) (by omega) (by omega) cb8
                      refine lv_iload hx hb dX5_node_176 (lv_at hl 4 rfl) ?_
                      refine lv_iconst (v := nI 4) hx hb dX5_node_178 (by decide) ?_
                      refine lv_icmp_eq (tgt := 187) hx hb dX5_node_179 (by decide) (fun cb10 => ?_) (fun cb10 => ?_)
                      · have cb10 : mc9 = 4 := zn_eq_t (a := mc9) (b := 4) (by omega) (by omega) cb10
                        refine lv_aload_n hx hb dX5_node_187 rfl (lv_at hl 0 rfl) ?_
                        refine lv_iconst (v := nI 2) hx hb dX5_node_188 (by decide) ?_
                        refine va_put (D := D) (ci := 5) (v := .int (nI 2)) (ty := .int) (C := RX5) (T := TX5) (N := 20) hx hb hts in_wsX5_node_X5 tyX5 tyX5_ok nmX5 hown hK.1 hP hD hS 0 rfl rfl 0 (by decide) (hts _ lk358_wsX5_node) (fun _ h9 => h9) rfl (by decide +kernel) rfl rfl (Nat.le_of_ble_eq_true rfl) dX5_node_189 (fun H locs hP hD hS => ?_)
                        have hP : va_P D vwCl [(M, .inr (5, [.int (nI 2), .ref m1, .ref m2, .ref m3, .ref m4, .ref m5, .int (nI fl), .int (nI t), .int (nI nn), .ref m6, .ref m7, .ref m8, .ref m9, .ref m10, .ref m11, .ref m12, .ref m13, .ref m14, .ref m15, .int mam])), (m1, .inl (cy.1, 4, .inl (fun z => nI (fc z)))), (m2, .inl (cy.1, 32, .inl lm)), (m6, .inl (cy.1, 12, .inl ab)), (m7, .inl (cy.1, 12, .inl (fun z => nI (sl z % 8)))), (m8, .inl (cy.1, 12, .inl (fun z => nI (sl z / 8))))] H := hP
                        have hD : va_D (zIn [(M, .inr (5, [.int thr, .ref m1, .ref m2, .ref m3, .ref m4, .ref m5, .int (nI fl), .int (nI t), .int (nI nn), .ref m6, .ref m7, .ref m8, .ref m9, .ref m10, .ref m11, .ref m12, .ref m13, .ref m14, .ref m15, .int mam])), (m1, .inl (cy.1, 4, .inl (fun z => nI (fc z)))), (m2, .inl (cy.1, 32, .inl lm)), (m6, .inl (cy.1, 12, .inl ab)), (m7, .inl (cy.1, 12, .inl (fun z => nI (sl z % 8)))), (m8, .inl (cy.1, 12, .inl (fun z => nI (sl z / 8))))]) [(M, .inr (5, [.int (nI 2), .ref m1, .ref m2, .ref m3, .ref m4, .ref m5, .int (nI fl), .int (nI t), .int (nI nn), .ref m6, .ref m7, .ref m8, .ref m9, .ref m10, .ref m11, .ref m12, .ref m13, .ref m14, .ref m15, .int mam])), (m1, .inl (cy.1, 4, .inl (fun z => nI (fc z)))), (m2, .inl (cy.1, 32, .inl lm)), (m6, .inl (cy.1, 12, .inl ab)), (m7, .inl (cy.1, 12, .inl (fun z => nI (sl z % 8)))), (m8, .inl (cy.1, 12, .inl (fun z => nI (sl z / 8))))] := hD
                        refine lv_aload_n hx hb dX5_node_192 rfl (lv_at hl 0 rfl) ?_
                        refine va_get (D := D) (ci := 5) (v := .int (nI 2)) (C := RX5) (T := TX5) (N := 20) hx hb hts in_wsX5_node_X5 hown hK.1 hP 0 rfl rfl 0 (by decide) (hts _ lk358_wsX5_node) (fun _ h9 => h9) rfl dX5_node_193 ?_
                        refine lv_if_le (tgt := 201) hx hb dX5_node_196 (by decide) (fun cb11 => ?_) (fun cb11 => ?_)
                        · have cb11 : 2 ≤ 0 := zn_le_t (a := 2) (b := 0) (by omega) (by omega) cb11
                          exact absurd cb11 (by decide)
                        · have cb11 : ¬ (2 ≤ 0) := zn_le_f (a := 2) (b := 0) (by omega) (by omega) cb11
                          refine lv_iconst (v := nI 0) hx hb dX5_node_199 (by decide) ?_
                          exact z_iretW () hx hb hr hlocks hS dX5_node_200 hP trivial
                      · have cb10 : ¬ (mc9 = 4) := zn_eq_f (a := mc9) (b := 4) (by omega) (by omega) cb10
                        refine lv_iload hx hb dX5_node_182 (lv_at hl 5 rfl) ?_
                        refine lv_if_eq (tgt := 192) hx hb dX5_node_184 (by decide) (fun cb12 => ?_) (fun cb12 => ?_)
                        · have cb12 : (A) = false := bI_t0 cb12
                          exact absurd ⟨fun j hj z => of_decide_eq_false (hA.symm.trans cb12) ⟨j, by omega, z.1, by have := z.2; omega⟩, by omega, by rw [show n = nn by omega] at ht9; omega⟩ hrm
                        · have cb12 : (A) = true := bI_f0 cb12
                          refine lv_aload_n hx hb dX5_node_187 rfl (lv_at hl 0 rfl) ?_
                          refine lv_iconst (v := nI 2) hx hb dX5_node_188 (by decide) ?_
                          refine va_put (D := D) (ci := 5) (v := .int (nI 2)) (ty := .int) (C := RX5) (T := TX5) (N := 20) hx hb hts in_wsX5_node_X5 tyX5 tyX5_ok nmX5 hown hK.1 hP hD hS 0 rfl rfl 0 (by decide) (hts _ lk358_wsX5_node) (fun _ h9 => h9) rfl (by decide +kernel) rfl rfl (Nat.le_of_ble_eq_true rfl) dX5_node_189 (fun H locs hP hD hS => ?_)
                          have hP : va_P D vwCl [(M, .inr (5, [.int (nI 2), .ref m1, .ref m2, .ref m3, .ref m4, .ref m5, .int (nI fl), .int (nI t), .int (nI nn), .ref m6, .ref m7, .ref m8, .ref m9, .ref m10, .ref m11, .ref m12, .ref m13, .ref m14, .ref m15, .int mam])), (m1, .inl (cy.1, 4, .inl (fun z => nI (fc z)))), (m2, .inl (cy.1, 32, .inl lm)), (m6, .inl (cy.1, 12, .inl ab)), (m7, .inl (cy.1, 12, .inl (fun z => nI (sl z % 8)))), (m8, .inl (cy.1, 12, .inl (fun z => nI (sl z / 8))))] H := hP
                          have hD : va_D (zIn [(M, .inr (5, [.int thr, .ref m1, .ref m2, .ref m3, .ref m4, .ref m5, .int (nI fl), .int (nI t), .int (nI nn), .ref m6, .ref m7, .ref m8, .ref m9, .ref m10, .ref m11, .ref m12, .ref m13, .ref m14, .ref m15, .int mam])), (m1, .inl (cy.1, 4, .inl (fun z => nI (fc z)))), (m2, .inl (cy.1, 32, .inl lm)), (m6, .inl (cy.1, 12, .inl ab)), (m7, .inl (cy.1, 12, .inl (fun z => nI (sl z % 8)))), (m8, .inl (cy.1, 12, .inl (fun z => nI (sl z / 8))))]) [(M, .inr (5, [.int (nI 2), .ref m1, .ref m2, .ref m3, .ref m4, .ref m5, .int (nI fl), .int (nI t), .int (nI nn), .ref m6, .ref m7, .ref m8, .ref m9, .ref m10, .ref m11, .ref m12, .ref m13, .ref m14, .ref m15, .int mam])), (m1, .inl (cy.1, 4, .inl (fun z => nI (fc z)))), (m2, .inl (cy.1, 32, .inl lm)), (m6, .inl (cy.1, 12, .inl ab)), (m7, .inl (cy.1, 12, .inl (fun z => nI (sl z % 8)))), (m8, .inl (cy.1, 12, .inl (fun z => nI (sl z / 8))))] := hD
                          refine lv_aload_n hx hb dX5_node_192 rfl (lv_at hl 0 rfl) ?_
                          refine va_get (D := D) (ci := 5) (v := .int (nI 2)) (C := RX5) (T := TX5) (N := 20) hx hb hts in_wsX5_node_X5 hown hK.1 hP 0 rfl rfl 0 (by decide) (hts _ lk358_wsX5_node) (fun _ h9 => h9) rfl dX5_node_193 ?_
                          refine lv_if_le (tgt := 201) hx hb dX5_node_196 (by decide) (fun cb13 => ?_) (fun cb13 => ?_)
                          · have cb13 : 2 ≤ 0 := zn_le_t (a := 2) (b := 0) (by omega) (by omega) cb13
                            exact absurd cb13 (by decide)
                          · have cb13 : ¬ (2 ≤ 0) := zn_le_f (a := 2) (b := 0) (by omega) (by omega) cb13
                            refine lv_iconst (v := nI 0) hx hb dX5_node_199 (by decide) ?_
                            exact z_iretW () hx hb hr hlocks hS dX5_node_200 hP trivial
                · have cb6 : ¬ (nn ≤ n) := zn_ge_f (a := n) (b := nn) (by omega) (by omega) cb6
                  refine lv_iload hx hb dX5_node_99 (lv_at hl 4 rfl) ?_
                  refine lv_aload_n hx hb dX5_node_101 rfl (lv_at hl 0 rfl) ?_
                  refine va_get (D := D) (ci := 5) (v := .ref m6) (C := RX5) (T := TX5) (N := 20) hx hb hts in_wsX5_node_X5 hown hK.1 hP 0 rfl rfl 9 (by decide) (hts _ lk362_wsX5_node) (fun _ h9 => h9) rfl dX5_node_102 ?_
                  refine lv_iload hx hb dX5_node_105 (lv_at hl 6 rfl) ?_
                  refine z_iald (v := (ab n)) hx hb hK.1 hP 3 0 rfl rfl (k := n) (by omega) (by decide) rfl dX5_node_107 ?_
                  refine lv_iload_n hx hb dX5_node_108 rfl (lv_at hl 1 rfl) ?_
                  refine lv_icmp_ne (tgt := 116) hx hb dX5_node_109 (by decide) (fun cb14 => ?_) (fun cb14 => ?_)
                  · skip
                    refine lv_iconst (v := nI 0) hx hb dX5_node_116 (by decide) ?_
                    refine lv_iadd hx hb dX5_node_117 ?_
                    refine z_top (y := nI (mc9 + 0)) (nI_add _ _) ?_
                    refine lv_istore (lv' := [(4, .int (nI (mc9 + 0))), (0, .ref M), (1, .int ((-1 : Int32))), (2, .int (nI f)), (3, .int (nI t)), (5, .int (bI (A))), (6, .int (nI n))]) hx hb dX5_node_118 hl (by decide) rfl (fun ls hl => ?_)
                    refine lv_iload hx hb dX5_node_120 (lv_at hl 5 rfl) ?_
                    refine lv_if_ne (tgt := 147) hx hb dX5_node_122 (by decide) (fun cb15 => ?_) (fun cb15 => ?_)
                    · have cb15 : (A) = true := bI_f0 cb15
                      refine lv_iconst (v := nI 1) hx hb dX5_node_147 (by decide) ?_
                      refine lv_goto (tgt := 152) hx hb dX5_node_148 (by decide) ?_
                      refine lv_istore (lv' := [(5, .int (nI 1)), (4, .int (nI (mc9 + 0))), (0, .ref M), (1, .int ((-1 : Int32))), (2, .int (nI f)), (3, .int (nI t)), (6, .int (nI n))]) hx hb dX5_node_152 hl (by decide) rfl (fun ls hl => ?_)
                      refine lv_iinc (v := nI (n + 1)) (lv' := [(6, .int (nI (n + 1))), (5, .int (nI 1)), (4, .int (nI (mc9 + 0))), (0, .ref M), (1, .int ((-1 : Int32))), (2, .int (nI f)), (3, .int (nI t))]) hx hb dX5_node_154 hl (k := 6) rfl (z_inc _) (by decide) rfl (fun ls hl => ?_)
                      refine lv_goto (tgt := 90) hx hb dX5_node_157 (by decide) ?_
                      exact ih_lo (n + 1) (mc9 + 0) true (by omega) (by omega) (by omega) (by unfold zcnt; rw [if_neg (fun z => cb14 (of_decide_eq_true z)), ← ht9]; try rfl) (decide_eq_true ((of_decide_eq_true (hA.symm.trans cb15)).imp fun j h => ⟨by omega, h.2⟩)).symm _ _ _ hP hD hS (lv_sub hl [3, 4, 5, 6, 2, 1, 0] rfl)
                    · have cb15 : (A) = false := bI_t0 cb15
                      refine lv_aload_n hx hb dX5_node_125 rfl (lv_at hl 1 rfl) ?_
                      refine va_get (D := D) (ci := 5) (v := .ref m6) (C := RX5) (T := TX5) (N := 20) hx hb hts in_wsX5_node_X5 hown hK.1 hP 0 rfl rfl 9 (by decide) (hts _ lk362_wsX5_node) (fun _ h9 => h9) rfl dX5_node_126 ?_
                      refine lv_iload hx hb dX5_node_129 (lv_at hl 6 rfl) ?_
                      refine z_iald (v := (ab n)) hx hb hK.1 hP 3 0 rfl rfl (k := n) (by omega) (by decide) rfl dX5_node_131 ?_
                      refine lv_iload_n hx hb dX5_node_132 rfl (lv_at hl 2 rfl) ?_
                      refine lv_icmp_ne (tgt := 151) hx hb dX5_node_133 (by decide) (fun cb16 => ?_) (fun cb16 => ?_)
                      · skip
                        refine lv_iconst (v := nI 0) hx hb dX5_node_151 (by decide) ?_
                        refine lv_istore (lv' := [(5, .int (nI 0)), (4, .int (nI (mc9 + 0))), (0, .ref M), (1, .int ((-1 : Int32))), (2, .int (nI f)), (3, .int (nI t)), (6, .int (nI n))]) hx hb dX5_node_152 hl (by decide) rfl (fun ls hl => ?_)
                        refine lv_iinc (v := nI (n + 1)) (lv' := [(6, .int (nI (n + 1))), (5, .int (nI 0)), (4, .int (nI (mc9 + 0))), (0, .ref M), (1, .int ((-1 : Int32))), (2, .int (nI f)), (3, .int (nI t))]) hx hb dX5_node_154 hl (k := 6) rfl (z_inc _) (by decide) rfl (fun ls hl => ?_)
                        refine lv_goto (tgt := 90) hx hb dX5_node_157 (by decide) ?_
                        exact ih_lo (n + 1) (mc9 + 0) false (by omega) (by omega) (by omega) (by unfold zcnt; rw [if_neg (fun z => cb14 (of_decide_eq_true z)), ← ht9]; try rfl) (decide_eq_false (fun ⟨j, h1, h2, h3⟩ => (Nat.lt_or_ge j n).elim (fun y => of_decide_eq_false (hA.symm.trans cb15) ⟨j, y, h2, h3⟩) (fun y => by obtain rfl : j = n := (by omega); exact cb16 h2))).symm _ _ _ hP hD hS (lv_sub hl [3, 4, 5, 6, 2, 1, 0] rfl)
                      · skip
                        refine lv_aload_n hx hb dX5_node_136 rfl (lv_at hl 1 rfl) ?_
                        refine va_get (D := D) (ci := 5) (v := .ref m7) (C := RX5) (T := TX5) (N := 20) hx hb hts in_wsX5_node_X5 hown hK.1 hP 0 rfl rfl 10 (by decide) (hts _ lk363_wsX5_node) (fun _ h9 => h9) rfl dX5_node_137 ?_
                        refine lv_iload hx hb dX5_node_140 (lv_at hl 6 rfl) ?_
                        refine z_iald (v := nI (sl n % 8)) hx hb hK.1 hP 4 0 rfl rfl (k := n) (by omega) (by decide) rfl dX5_node_142 ?_
                        refine lv_iload_n hx hb dX5_node_143 rfl (lv_at hl 3 rfl) ?_
                        refine lv_icmp_ne (tgt := 151) hx hb dX5_node_144 (by decide) (fun cb17 => ?_) (fun cb17 => ?_)
                        · have cb17 : ¬ ((sl n % 8) = f) := zn_ne_f (a := (sl n % 8)) (b := f) (by omega) (by omega) cb17
                          refine lv_iconst (v := nI 0) hx hb dX5_node_151 (by decide) ?_
                          refine lv_istore (lv' := [(5, .int (nI 0)), (4, .int (nI (mc9 + 0))), (0, .ref M), (1, .int ((-1 : Int32))), (2, .int (nI f)), (3, .int (nI t)), (6, .int (nI n))]) hx hb dX5_node_152 hl (by decide) rfl (fun ls hl => ?_)
                          refine lv_iinc (v := nI (n + 1)) (lv' := [(6, .int (nI (n + 1))), (5, .int (nI 0)), (4, .int (nI (mc9 + 0))), (0, .ref M), (1, .int ((-1 : Int32))), (2, .int (nI f)), (3, .int (nI t))]) hx hb dX5_node_154 hl (k := 6) rfl (z_inc _) (by decide) rfl (fun ls hl => ?_)
                          refine lv_goto (tgt := 90) hx hb dX5_node_157 (by decide) ?_
                          exact ih_lo (n + 1) (mc9 + 0) false (by omega) (by omega) (by omega) (by unfold zcnt; rw [if_neg (fun z => cb14 (of_decide_eq_true z)), ← ht9]; try rfl) (decide_eq_false (fun ⟨j, h1, h2, h3⟩ => (Nat.lt_or_ge j n).elim (fun y => of_decide_eq_false (hA.symm.trans cb15) ⟨j, y, h2, h3⟩) (fun y => by obtain rfl : j = n := (by omega); exact cb17 h3))).symm _ _ _ hP hD hS (lv_sub hl [3, 4, 5, 6, 2, 1, 0] rfl)
                        · have cb17 : (sl n % 8) = f := zn_ne_t (a := (sl n % 8)) (b := f) (by omega) (by omega) cb17
                          refine lv_iconst (v := nI 1) hx hb dX5_node_147 (by decide) ?_
                          refine lv_goto (tgt := 152) hx hb dX5_node_148 (by decide) ?_
                          refine lv_istore (lv' := [(5, .int (nI 1)), (4, .int (nI (mc9 + 0))), (0, .ref M), (1, .int ((-1 : Int32))), (2, .int (nI f)), (3, .int (nI t)), (6, .int (nI n))]) hx hb dX5_node_152 hl (by decide) rfl (fun ls hl => ?_)
                          refine lv_iinc (v := nI (n + 1)) (lv' := [(6, .int (nI (n + 1))), (5, .int (nI 1)), (4, .int (nI (mc9 + 0))), (0, .ref M), (1, .int ((-1 : Int32))), (2, .int (nI f)), (3, .int (nI t))]) hx hb dX5_node_154 hl (k := 6) rfl (z_inc _) (by decide) rfl (fun ls hl => ?_)
                          refine lv_goto (tgt := 90) hx hb dX5_node_157 (by decide) ?_
                          exact ih_lo (n + 1) (mc9 + 0) true (by omega) (by omega) (by omega) (by unfold zcnt; rw [if_neg (fun z => cb14 (of_decide_eq_true z)), ← ht9]; try rfl) (decide_eq_true ⟨n, by omega, cb16, cb17⟩).symm _ _ _ hP hD hS (lv_sub hl [3, 4, 5, 6, 2, 1, 0] rfl)
                  · skip
                    refine lv_iconst (v := nI 1) hx hb dX5_node_112 (by decide) ?_
                    refine lv_goto (tgt := 117) hx hb dX5_node_113 (by decide) ?_
                    refine lv_iadd hx hb dX5_node_117 ?_
                    refine z_top (y := nI (mc9 + 1)) (nI_add _ _) ?_
                    refine lv_istore (lv' := [(4, .int (nI (mc9 + 1))), (0, .ref M), (1, .int ((-1 : Int32))), (2, .int (nI f)), (3, .int (nI t)), (5, .int (bI (A))), (6, .int (nI n))]) hx hb dX5_node_118 hl (by decide) rfl (fun ls hl => ?_)
                    refine lv_iload hx hb dX5_node_120 (lv_at hl 5 rfl) ?_
                    refine lv_if_ne (tgt := 147) hx hb dX5_node_122 (by decide) (fun cb18 => ?_) (fun cb18 => ?_)
                    · have cb18 : (A) = true := bI_f0 cb18
                      refine lv_iconst (v := nI 1) hx hb dX5_node_147 (by decide) ?_
                      refine lv_goto (tgt := 152) hx hb dX5_node_148 (by decide) ?_
                      refine lv_istore (lv' := [(5, .int (nI 1)), (4, .int (nI (mc9 + 1))), (0, .ref M), (1, .int ((-1 : Int32))), (2, .int (nI f)), (3, .int (nI t)), (6, .int (nI n))]) hx hb dX5_node_152 hl (by decide) rfl (fun ls hl => ?_)
                      refine lv_iinc (v := nI (n + 1)) (lv' := [(6, .int (nI (n + 1))), (5, .int (nI 1)), (4, .int (nI (mc9 + 1))), (0, .ref M), (1, .int ((-1 : Int32))), (2, .int (nI f)), (3, .int (nI t))]) hx hb dX5_node_154 hl (k := 6) rfl (z_inc _) (by decide) rfl (fun ls hl => ?_)
                      refine lv_goto (tgt := 90) hx hb dX5_node_157 (by decide) ?_
                      exact ih_lo (n + 1) (mc9 + 1) true (by omega) (by omega) (by omega) (by unfold zcnt; rw [if_pos (decide_eq_true cb14), ← ht9]) (decide_eq_true ((of_decide_eq_true (hA.symm.trans cb18)).imp fun j h => ⟨by omega, h.2⟩)).symm _ _ _ hP hD hS (lv_sub hl [3, 4, 5, 6, 2, 1, 0] rfl)
                    · have cb18 : (A) = false := bI_t0 cb18
                      refine lv_aload_n hx hb dX5_node_125 rfl (lv_at hl 1 rfl) ?_
                      refine va_get (D := D) (ci := 5) (v := .ref m6) (C := RX5) (T := TX5) (N := 20) hx hb hts in_wsX5_node_X5 hown hK.1 hP 0 rfl rfl 9 (by decide) (hts _ lk362_wsX5_node) (fun _ h9 => h9) rfl dX5_node_126 ?_
                      refine lv_iload hx hb dX5_node_129 (lv_at hl 6 rfl) ?_
                      refine z_iald (v := (ab n)) hx hb hK.1 hP 3 0 rfl rfl (k := n) (by omega) (by decide) rfl dX5_node_131 ?_
                      refine lv_iload_n hx hb dX5_node_132 rfl (lv_at hl 2 rfl) ?_
                      refine lv_icmp_ne (tgt := 151) hx hb dX5_node_133 (by decide) (fun cb19 => ?_) (fun cb19 => ?_)
                      · skip
                        refine lv_iconst (v := nI 0) hx hb dX5_node_151 (by decide) ?_
                        refine lv_istore (lv' := [(5, .int (nI 0)), (4, .int (nI (mc9 + 1))), (0, .ref M), (1, .int ((-1 : Int32))), (2, .int (nI f)), (3, .int (nI t)), (6, .int (nI n))]) hx hb dX5_node_152 hl (by decide) rfl (fun ls hl => ?_)
                        refine lv_iinc (v := nI (n + 1)) (lv' := [(6, .int (nI (n + 1))), (5, .int (nI 0)), (4, .int (nI (mc9 + 1))), (0, .ref M), (1, .int ((-1 : Int32))), (2, .int (nI f)), (3, .int (nI t))]) hx hb dX5_node_154 hl (k := 6) rfl (z_inc _) (by decide) rfl (fun ls hl => ?_)
                        refine lv_goto (tgt := 90) hx hb dX5_node_157 (by decide) ?_
                        exact ih_lo (n + 1) (mc9 + 1) false (by omega) (by omega) (by omega) (by unfold zcnt; rw [if_pos (decide_eq_true cb14), ← ht9]) (decide_eq_false (fun ⟨j, h1, h2, h3⟩ => (Nat.lt_or_ge j n).elim (fun y => of_decide_eq_false (hA.symm.trans cb18) ⟨j, y, h2, h3⟩) (fun y => by obtain rfl : j = n := (by omega); exact cb19 h2))).symm _ _ _ hP hD hS (lv_sub hl [3, 4, 5, 6, 2, 1, 0] rfl)
                      · skip
                        refine lv_aload_n hx hb dX5_node_136 rfl (lv_at hl 1 rfl) ?_
                        refine va_get (D := D) (ci := 5) (v := .ref m7) (C := RX5) (T := TX5) (N := 20) hx hb hts in_wsX5_node_X5 hown hK.1 hP 0 rfl rfl 10 (by decide) (hts _ lk363_wsX5_node) (fun _ h9 => h9) rfl dX5_node_137 ?_
                        refine lv_iload hx hb dX5_node_140 (lv_at hl 6 rfl) ?_
                        refine z_iald (v := nI (sl n % 8)) hx hb hK.1 hP 4 0 rfl rfl (k := n) (by omega) (by decide) rfl dX5_node_142 ?_
                        refine lv_iload_n hx hb dX5_node_143 rfl (lv_at hl 3 rfl) ?_
                        refine lv_icmp_ne (tgt := 151) hx hb dX5_node_144 (by decide) (fun cb20 => ?_) (fun cb20 => ?_)
                        · have cb20 : ¬ ((sl n % 8) = f) := zn_ne_f (a := (sl n % 8)) (b := f) (by omega) (by omega) cb20
                          refine lv_iconst (v := nI 0) hx hb dX5_node_151 (by decide) ?_
                          refine lv_istore (lv' := [(5, .int (nI 0)), (4, .int (nI (mc9 + 1))), (0, .ref M), (1, .int ((-1 : Int32))), (2, .int (nI f)), (3, .int (nI t)), (6, .int (nI n))]) hx hb dX5_node_152 hl (by decide) rfl (fun ls hl => ?_)
                          refine lv_iinc (v := nI (n + 1)) (lv' := [(6, .int (nI (n + 1))), (5, .int (nI 0)), (4, .int (nI (mc9 + 1))), (0, .ref M), (1, .int ((-1 : Int32))), (2, .int (nI f)), (3, .int (nI t))]) hx hb dX5_node_154 hl (k := 6) rfl (z_inc _) (by decide) rfl (fun ls hl => ?_)
                          refine lv_goto (tgt := 90) hx hb dX5_node_157 (by decide) ?_
                          exact ih_lo (n + 1) (mc9 + 1) false (by omega) (by omega) (by omega) (by unfold zcnt; rw [if_pos (decide_eq_true cb14), ← ht9]) (decide_eq_false (fun ⟨j, h1, h2, h3⟩ => (Nat.lt_or_ge j n).elim (fun y => of_decide_eq_false (hA.symm.trans cb18) ⟨j, y, h2, h3⟩) (fun y => by obtain rfl : j = n := (by omega); exact cb20 h3))).symm _ _ _ hP hD hS (lv_sub hl [3, 4, 5, 6, 2, 1, 0] rfl)
                        · have cb20 : (sl n % 8) = f := zn_ne_t (a := (sl n % 8)) (b := f) (by omega) (by omega) cb20
                          refine lv_iconst (v := nI 1) hx hb dX5_node_147 (by decide) ?_
                          refine lv_goto (tgt := 152) hx hb dX5_node_148 (by decide) ?_
                          refine lv_istore (lv' := [(5, .int (nI 1)), (4, .int (nI (mc9 + 1))), (0, .ref M), (1, .int ((-1 : Int32))), (2, .int (nI f)), (3, .int (nI t)), (6, .int (nI n))]) hx hb dX5_node_152 hl (by decide) rfl (fun ls hl => ?_)
                          refine lv_iinc (v := nI (n + 1)) (lv' := [(6, .int (nI (n + 1))), (5, .int (nI 1)), (4, .int (nI (mc9 + 1))), (0, .ref M), (1, .int ((-1 : Int32))), (2, .int (nI f)), (3, .int (nI t))]) hx hb dX5_node_154 hl (k := 6) rfl (z_inc _) (by decide) rfl (fun ls hl => ?_)
                          refine lv_goto (tgt := 90) hx hb dX5_node_157 (by decide) ?_
                          exact ih_lo (n + 1) (mc9 + 1) true (by omega) (by omega) (by omega) (by unfold zcnt; rw [if_pos (decide_eq_true cb14), ← ht9]) (decide_eq_true ⟨n, by omega, cb19, cb20⟩).symm _ _ _ hP hD hS (lv_sub hl [3, 4, 5, 6, 2, 1, 0] rfl)
            exact lo (nn + 1) 0 0 false (by omega) (by omega) (by omega) rfl (decide_eq_false (fun ⟨j, h1, _⟩ => absurd h1 (by omega))).symm _ _ _ hP hD hS (lv_sub hl [4, 5, 6, 3, 2, 1, 0] rfl)
        · skip
          exact absurd cb4 (nI_m1 (by omega))
    · have cb2 : ¬ (0 ≤ 0) := zn_le_f (a := 0) (b := 0) (by omega) (by omega) cb2
      exact absurd cb2 (by decide)
  · skip
    exact absurd rfl cb1
set_option maxHeartbeats 4000000 in
set_option maxRecDepth 100000 in
theorem c_X5_node_badF_top {l : Launch} {D : va_G} {cy : zCy} {M m1 m2 m3 m4 m5 m6 m7 m8 m9 m10 m11 m12 m13 m14 m15 nn qt fl : Nat} {thr mam : Int32} {fc sl : Nat → Nat} {lm ab : Nat → Int32} (hn : nn ≤ 12) {t : Nat} (ht : t < 4) (hf8 : fc t ≤ 8) {x : Int32} (hbad : ¬ inN (fc t) x) : zW (Unit) l yX5_node wsX5_node rmX5_node D cy [(M, .inr (5, [.int thr, .ref m1, .ref m2, .ref m3, .ref m4, .ref m5, .int (nI fl), .int (nI t), .int (nI nn), .ref m6, .ref m7, .ref m8, .ref m9, .ref m10, .ref m11, .ref m12, .ref m13, .ref m14, .ref m15, .int mam])), (m1, .inl (cy.1, 4, .inl (fun z => nI (fc z)))), (m2, .inl (cy.1, 32, .inl lm)), (m6, .inl (cy.1, 12, .inl ab)), (m7, .inl (cy.1, 12, .inl (fun z => nI (sl z % 8)))), (m8, .inl (cy.1, 12, .inl (fun z => nI (sl z / 8))))] [.ref M, .int ((-1 : Int32)), .int x] (fun _ _ => True) (fun _ => [(M, .inr (5, [.int (nI 1), .ref m1, .ref m2, .ref m3, .ref m4, .ref m5, .int (nI fl), .int (nI t), .int (nI nn), .ref m6, .ref m7, .ref m8, .ref m9, .ref m10, .ref m11, .ref m12, .ref m13, .ref m14, .ref m15, .int mam])), (m1, .inl (cy.1, 4, .inl (fun z => nI (fc z)))), (m2, .inl (cy.1, 32, .inl lm)), (m6, .inl (cy.1, 12, .inl ab)), (m7, .inl (cy.1, 12, .inl (fun z => nI (sl z % 8)))), (m8, .inl (cy.1, 12, .inl (fun z => nI (sl z / 8))))]) := by
  refine zW.of (cc := cX5_node) (maxL := 7) (ret := (some .int)) (by decide) rfl rfl ?_
  intro p e s m below meth c ls C hP hK hD hl
  obtain ⟨hx, hb, hr, hml, hts, hown, hlocks⟩ := C
  have hS : va_S (zIn [(M, .inr (5, [.int thr, .ref m1, .ref m2, .ref m3, .ref m4, .ref m5, .int (nI fl), .int (nI t), .int (nI nn), .ref m6, .ref m7, .ref m8, .ref m9, .ref m10, .ref m11, .ref m12, .ref m13, .ref m14, .ref m15, .int mam])), (m1, .inl (cy.1, 4, .inl (fun z => nI (fc z)))), (m2, .inl (cy.1, 32, .inl lm)), (m6, .inl (cy.1, 12, .inl ab)), (m7, .inl (cy.1, 12, .inl (fun z => nI (sl z % 8)))), (m8, .inl (cy.1, 12, .inl (fun z => nI (sl z / 8))))]) s.heap s.heap [] := va_S.rf
  have hl : lv_has ls 7 [(0, .ref M), (1, .int ((-1 : Int32))), (2, .int x)] := hl
  refine lv_aload_n hx hb dX5_node_0 rfl (lv_at hl 0 rfl) ?_
  refine lv_iload_n hx hb dX5_node_1 rfl (lv_at hl 1 rfl) ?_
  refine lv_iconst (v := (-1 : Int32)) hx hb dX5_node_2 (by decide) ?_
  refine lv_icmp_eq (tgt := 14) hx hb dX5_node_3 (by decide) (fun cb1 => ?_) (fun cb1 => ?_)
  · skip
    refine lv_iconst (v := nI 0) hx hb dX5_node_14 (by decide) ?_
    refine lv_goto (tgt := 19) hx hb dX5_node_15 (by decide) ?_
    refine va_put (D := D) (ci := 5) (v := .int (nI 0)) (ty := .int) (C := RX5) (T := TX5) (N := 20) hx hb hts in_wsX5_node_X5 tyX5 tyX5_ok nmX5 hown hK.1 hP hD hS 0 rfl rfl 0 (by decide) (hts _ lk358_wsX5_node) (fun _ h9 => h9) rfl (by decide +kernel) rfl rfl (Nat.le_of_ble_eq_true rfl) dX5_node_19 (fun H locs hP hD hS => ?_)
    have hP : va_P D vwCl [(M, .inr (5, [.int (nI 0), .ref m1, .ref m2, .ref m3, .ref m4, .ref m5, .int (nI fl), .int (nI t), .int (nI nn), .ref m6, .ref m7, .ref m8, .ref m9, .ref m10, .ref m11, .ref m12, .ref m13, .ref m14, .ref m15, .int mam])), (m1, .inl (cy.1, 4, .inl (fun z => nI (fc z)))), (m2, .inl (cy.1, 32, .inl lm)), (m6, .inl (cy.1, 12, .inl ab)), (m7, .inl (cy.1, 12, .inl (fun z => nI (sl z % 8)))), (m8, .inl (cy.1, 12, .inl (fun z => nI (sl z / 8))))] H := hP
    have hD : va_D (zIn [(M, .inr (5, [.int thr, .ref m1, .ref m2, .ref m3, .ref m4, .ref m5, .int (nI fl), .int (nI t), .int (nI nn), .ref m6, .ref m7, .ref m8, .ref m9, .ref m10, .ref m11, .ref m12, .ref m13, .ref m14, .ref m15, .int mam])), (m1, .inl (cy.1, 4, .inl (fun z => nI (fc z)))), (m2, .inl (cy.1, 32, .inl lm)), (m6, .inl (cy.1, 12, .inl ab)), (m7, .inl (cy.1, 12, .inl (fun z => nI (sl z % 8)))), (m8, .inl (cy.1, 12, .inl (fun z => nI (sl z / 8))))]) [(M, .inr (5, [.int (nI 0), .ref m1, .ref m2, .ref m3, .ref m4, .ref m5, .int (nI fl), .int (nI t), .int (nI nn), .ref m6, .ref m7, .ref m8, .ref m9, .ref m10, .ref m11, .ref m12, .ref m13, .ref m14, .ref m15, .int mam])), (m1, .inl (cy.1, 4, .inl (fun z => nI (fc z)))), (m2, .inl (cy.1, 32, .inl lm)), (m6, .inl (cy.1, 12, .inl ab)), (m7, .inl (cy.1, 12, .inl (fun z => nI (sl z % 8)))), (m8, .inl (cy.1, 12, .inl (fun z => nI (sl z / 8))))] := hD
    refine lv_aload_n hx hb dX5_node_22 rfl (lv_at hl 0 rfl) ?_
    refine va_get (D := D) (ci := 5) (v := .int (nI 0)) (C := RX5) (T := TX5) (N := 20) hx hb hts in_wsX5_node_X5 hown hK.1 hP 0 rfl rfl 0 (by decide) (hts _ lk358_wsX5_node) (fun _ h9 => h9) rfl dX5_node_23 ?_
    refine lv_if_le (tgt := 31) hx hb dX5_node_26 (by decide) (fun cb2 => ?_) (fun cb2 => ?_)
    · have cb2 : 0 ≤ 0 := zn_le_t (a := 0) (b := 0) (by omega) (by omega) cb2
      refine lv_iload_n hx hb dX5_node_31 rfl (lv_at hl 1 rfl) ?_
      refine lv_iconst (v := (-1 : Int32)) hx hb dX5_node_32 (by decide) ?_
      refine lv_icmp_ne (tgt := 43) hx hb dX5_node_33 (by decide) (fun cb3 => ?_) (fun cb3 => ?_)
      · skip
        exact absurd rfl cb3
      · skip
        refine lv_aload_n hx hb dX5_node_36 rfl (lv_at hl 0 rfl) ?_
        refine va_get (D := D) (ci := 5) (v := .int (nI t)) (C := RX5) (T := TX5) (N := 20) hx hb hts in_wsX5_node_X5 hown hK.1 hP 0 rfl rfl 7 (by decide) (hts _ lk360_wsX5_node) (fun _ h9 => h9) rfl dX5_node_37 ?_
        refine lv_goto (tgt := 53) hx hb dX5_node_40 (by decide) ?_
        refine lv_istore_n (lv' := [(3, .int (nI t)), (0, .ref M), (1, .int ((-1 : Int32))), (2, .int x)]) hx hb dX5_node_53 rfl hl (by decide) rfl (fun ls hl => ?_)
        refine lv_aload_n hx hb dX5_node_54 rfl (lv_at hl 1 rfl) ?_
        refine lv_iload_n hx hb dX5_node_55 rfl (lv_at hl 0 rfl) ?_
        refine lv_iconst (v := (-1 : Int32)) hx hb dX5_node_56 (by decide) ?_
        refine lv_icmp_ne (tgt := 64) hx hb dX5_node_57 (by decide) (fun cb4 => ?_) (fun cb4 => ?_)
        · skip
          refine lv_aload_n hx hb dX5_node_64 rfl (lv_at hl 1 rfl) ?_
          refine lv_iload_n hx hb dX5_node_65 rfl (lv_at hl 0 rfl) ?_
          refine lv_iload_n hx hb dX5_node_66 rfl (lv_at hl 3 rfl) ?_
          refine z_callV (b := M) (As := [.int (nI t), .int x]) (rest := [.ref M]) ⟨hx, hb, hml, hown, hts⟩ hK hP hS (c_X5_isField (i := 0) (j1 := 1) rfl rfl (t := t) (by omega) hf8 (x := x)) (cwV 2 hts gX5_node_X5_isField rfl rfl rfl k_yX5_isField ⟨Nat.le_of_ble_eq_true rfl, Nat.le_of_ble_eq_true rfl⟩) 0 5 rfl rfl rfl rfl hl.1 rfl rfl dX5_node_67 ⟨Nat.le_of_ble_eq_true rfl, Nat.le_of_ble_eq_true rfl⟩ (fun H locs hP hS => ?_)
          refine lv_if_eq (tgt := 77) hx hb dX5_node_70 (by decide) (fun cb5 => ?_) (fun cb5 => ?_)
          · have cb5 : (decide (inN (fc t) x)) = false := bI_t0 cb5
            refine lv_iconst (v := nI 1) hx hb dX5_node_77 (by decide) ?_
            refine va_put (D := D) (ci := 5) (v := .int (nI 1)) (ty := .int) (C := RX5) (T := TX5) (N := 20) hx hb hts in_wsX5_node_X5 tyX5 tyX5_ok nmX5 hown hK.1 hP hD hS 0 rfl rfl 0 (by decide) (hts _ lk358_wsX5_node) (fun _ h9 => h9) rfl (by decide +kernel) rfl rfl (Nat.le_of_ble_eq_true rfl) dX5_node_78 (fun H locs hP hD hS => ?_)
            have hP : va_P D vwCl [(M, .inr (5, [.int (nI 1), .ref m1, .ref m2, .ref m3, .ref m4, .ref m5, .int (nI fl), .int (nI t), .int (nI nn), .ref m6, .ref m7, .ref m8, .ref m9, .ref m10, .ref m11, .ref m12, .ref m13, .ref m14, .ref m15, .int mam])), (m1, .inl (cy.1, 4, .inl (fun z => nI (fc z)))), (m2, .inl (cy.1, 32, .inl lm)), (m6, .inl (cy.1, 12, .inl ab)), (m7, .inl (cy.1, 12, .inl (fun z => nI (sl z % 8)))), (m8, .inl (cy.1, 12, .inl (fun z => nI (sl z / 8))))] H := hP
            have hD : va_D (zIn [(M, .inr (5, [.int thr, .ref m1, .ref m2, .ref m3, .ref m4, .ref m5, .int (nI fl), .int (nI t), .int (nI nn), .ref m6, .ref m7, .ref m8, .ref m9, .ref m10, .ref m11, .ref m12, .ref m13, .ref m14, .ref m15, .int mam])), (m1, .inl (cy.1, 4, .inl (fun z => nI (fc z)))), (m2, .inl (cy.1, 32, .inl lm)), (m6, .inl (cy.1, 12, .inl ab)), (m7, .inl (cy.1, 12, .inl (fun z => nI (sl z % 8)))), (m8, .inl (cy.1, 12, .inl (fun z => nI (sl z / 8))))]) [(M, .inr (5, [.int (nI 1), .ref m1, .ref m2, .ref m3, .ref m4, .ref m5, .int (nI fl), .int (nI t), .int (nI nn), .ref m6, .ref m7, .ref m8, .ref m9, .ref m10, .ref m11, .ref m12, .ref m13, .ref m14, .ref m15, .int mam])), (m1, .inl (cy.1, 4, .inl (fun z => nI (fc z)))), (m2, .inl (cy.1, 32, .inl lm)), (m6, .inl (cy.1, 12, .inl ab)), (m7, .inl (cy.1, 12, .inl (fun z => nI (sl z % 8)))), (m8, .inl (cy.1, 12, .inl (fun z => nI (sl z / 8))))] := hD
            refine lv_iconst (v := nI 0) hx hb dX5_node_81 (by decide) ?_
            refine lv_istore (lv' := [(4, .int (nI 0)), (3, .int (nI t)), (0, .ref M), (1, .int ((-1 : Int32))), (2, .int x)]) hx hb dX5_node_82 hl (by decide) rfl (fun ls hl => ?_)
            refine lv_iconst (v := nI 0) hx hb dX5_node_84 (by decide) ?_
            refine lv_istore (lv' := [(5, .int (nI 0)), (4, .int (nI 0)), (3, .int (nI t)), (0, .ref M), (1, .int ((-1 : Int32))), (2, .int x)]) hx hb dX5_node_85 hl (by decide) rfl (fun ls hl => ?_)
            refine lv_iconst (v := nI 0) hx hb dX5_node_87 (by decide) ?_
            refine lv_istore (lv' := [(6, .int (nI 0)), (5, .int (nI 0)), (4, .int (nI 0)), (3, .int (nI t)), (0, .ref M), (1, .int ((-1 : Int32))), (2, .int x)]) hx hb dX5_node_88 hl (by decide) rfl (fun ls hl => ?_)
            have lo : ∀ (fuel : Nat) (n mc9 : Nat) (A : Bool), nn + 1 ≤ n + fuel → n ≤ nn → mc9 ≤ n → ∀ (H : Heap) (locs : List Loc) (ls : Array Slot), va_P D vwCl [(M, .inr (5, [.int (nI 1), .ref m1, .ref m2, .ref m3, .ref m4, .ref m5, .int (nI fl), .int (nI t), .int (nI nn), .ref m6, .ref m7, .ref m8, .ref m9, .ref m10, .ref m11, .ref m12, .ref m13, .ref m14, .ref m15, .int mam])), (m1, .inl (cy.1, 4, .inl (fun z => nI (fc z)))), (m2, .inl (cy.1, 32, .inl lm)), (m6, .inl (cy.1, 12, .inl ab)), (m7, .inl (cy.1, 12, .inl (fun z => nI (sl z % 8)))), (m8, .inl (cy.1, 12, .inl (fun z => nI (sl z / 8))))] H → va_D (zIn [(M, .inr (5, [.int thr, .ref m1, .ref m2, .ref m3, .ref m4, .ref m5, .int (nI fl), .int (nI t), .int (nI nn), .ref m6, .ref m7, .ref m8, .ref m9, .ref m10, .ref m11, .ref m12, .ref m13, .ref m14, .ref m15, .int mam])), (m1, .inl (cy.1, 4, .inl (fun z => nI (fc z)))), (m2, .inl (cy.1, 32, .inl lm)), (m6, .inl (cy.1, 12, .inl ab)), (m7, .inl (cy.1, 12, .inl (fun z => nI (sl z % 8)))), (m8, .inl (cy.1, 12, .inl (fun z => nI (sl z / 8))))]) [(M, .inr (5, [.int (nI 1), .ref m1, .ref m2, .ref m3, .ref m4, .ref m5, .int (nI fl), .int (nI t), .int (nI nn), .ref m6, .ref m7, .ref m8, .ref m9, .ref m10, .ref m11, .ref m12, .ref m13, .ref m14, .ref m15, .int mam])), (m1, .inl (cy.1, 4, .inl (fun z => nI (fc z)))), (m2, .inl (cy.1, 32, .inl lm)), (m6, .inl (cy.1, 12, .inl ab)), (m7, .inl (cy.1, 12, .inl (fun z => nI (sl z % 8)))), (m8, .inl (cy.1, 12, .inl (fun z => nI (sl z / 8))))] → va_S (zIn [(M, .inr (5, [.int thr, .ref m1, .ref m2, .ref m3, .ref m4, .ref m5, .int (nI fl), .int (nI t), .int (nI nn), .ref m6, .ref m7, .ref m8, .ref m9, .ref m10, .ref m11, .ref m12, .ref m13, .ref m14, .ref m15, .int mam])), (m1, .inl (cy.1, 4, .inl (fun z => nI (fc z)))), (m2, .inl (cy.1, 32, .inl lm)), (m6, .inl (cy.1, 12, .inl ab)), (m7, .inl (cy.1, 12, .inl (fun z => nI (sl z % 8)))), (m8, .inl (cy.1, 12, .inl (fun z => nI (sl z / 8))))]) s.heap H locs → lv_has ls 7 [(0, .ref M), (1, .int ((-1 : Int32))), (2, .int x), (3, .int (nI t)), (4, .int (nI mc9)), (5, .int (bI (A))), (6, .int (nI n))] → W p l e rmX5_node s m [.ref M, .int ((-1 : Int32)), .int x].toArray below meth c H locs 0 0 (zWQ (Unit) D below [.ref M, .int ((-1 : Int32)), .int x].toArray s [(M, .inr (5, [.int thr, .ref m1, .ref m2, .ref m3, .ref m4, .ref m5, .int (nI fl), .int (nI t), .int (nI nn), .ref m6, .ref m7, .ref m8, .ref m9, .ref m10, .ref m11, .ref m12, .ref m13, .ref m14, .ref m15, .int mam])), (m1, .inl (cy.1, 4, .inl (fun z => nI (fc z)))), (m2, .inl (cy.1, 32, .inl lm)), (m6, .inl (cy.1, 12, .inl ab)), (m7, .inl (cy.1, 12, .inl (fun z => nI (sl z % 8)))), (m8, .inl (cy.1, 12, .inl (fun z => nI (sl z / 8))))] (fun _ _ => True) (fun _ => [(M, .inr (5, [.int (nI 1), .ref m1, .ref m2, .ref m3, .ref m4, .ref m5, .int (nI fl), .int (nI t), .int (nI nn), .ref m6, .ref m7, .ref m8, .ref m9, .ref m10, .ref m11, .ref m12, .ref m13, .ref m14, .ref m15, .int mam])), (m1, .inl (cy.1, 4, .inl (fun z => nI (fc z)))), (m2, .inl (cy.1, 32, .inl lm)), (m6, .inl (cy.1, 12, .inl ab)), (m7, .inl (cy.1, 12, .inl (fun z => nI (sl z % 8)))), (m8, .inl (cy.1, 12, .inl (fun z => nI (sl z / 8))))])) (F0 m 90 ls []) := by
              intro fuel
              induction fuel with
              | zero => intro n mc9 A hfu hi hm; exact absurd hfu (by omega)
              | succ fuel ih_lo =>
                intro n mc9 A hfu hi hm H locs ls hP hD hS hl
                refine lv_iload hx hb dX5_node_90 (lv_at hl 6 rfl) ?_
                refine lv_aload_n hx hb dX5_node_92 rfl (lv_at hl 0 rfl) ?_
                refine va_get (D := D) (ci := 5) (v := .int (nI nn)) (C := RX5) (T := TX5) (N := 20) hx hb hts in_wsX5_node_X5 hown hK.1 hP 0 rfl rfl 8 (by decide) (hts _ lk361_wsX5_node) (fun _ h9 => h9) rfl dX5_node_93 ?_
                refine lv_icmp_ge (tgt := 160) hx hb dX5_node_96 (by decide) (fun cb6 => ?_) (fun cb6 => ?_)
                · have cb6 : nn ≤ n := zn_ge_t (a := n) (b := nn) (by omega) (by omega) cb6
                  refine lv_aload_n hx hb dX5_node_160 rfl (lv_at hl 0 rfl) ?_
                  refine va_get (D := D) (ci := 5) (v := .int (nI 1)) (C := RX5) (T := TX5) (N := 20) hx hb hts in_wsX5_node_X5 hown hK.1 hP 0 rfl rfl 0 (by decide) (hts _ lk358_wsX5_node) (fun _ h9 => h9) rfl dX5_node_161 ?_
                  refine lv_if_ne (tgt := 192) hx hb dX5_node_164 (by decide) (fun cb7 => ?_) (fun cb7 => ?_)
                  · have cb7 : ¬ (1 = 0) := zn_ne_f (a := 1) (b := 0) (by omega) (by omega) cb7
                    refine lv_aload_n hx hb dX5_node_192 rfl (lv_at hl 0 rfl) ?_
                    refine va_get (D := D) (ci := 5) (v := .int (nI 1)) (C := RX5) (T := TX5) (N := 20) hx hb hts in_wsX5_node_X5 hown hK.1 hP 0 rfl rfl 0 (by decide) (hts _ lk358_wsX5_node) (fun _ h9 => h9) rfl dX5_node_193 ?_
                    refine lv_if_le (tgt := 201) hx hb dX5_node_196 (by decide) (fun cb8 => ?_) (fun cb8 => ?_)
                    · have cb8 : 1 ≤ 0 := zn_le_t (a := 1) (b := 0) (by omega) (by omega) cb8
                      exact absurd cb8 (by decide)
                    · have cb8 : ¬ (1 ≤ 0) := zn_le_f (a := 1) (b := 0) (by omega) (by omega) cb8
                      refine lv_iconst (v := nI 0) hx hb dX5_node_199 (by decide) ?_
                      exact z_iretW () hx hb hr hlocks hS dX5_node_200 hP trivial
                  · have cb7 : 1 = 0 := zn_ne_t (a := 1) (b := 0) (by omega) (by omega) cb7
                    exact absurd cb7 (by decide)
                · have cb6 : ¬ (nn ≤ n) := zn_ge_f (a := n) (b := nn) (by omega) (by omega) cb6
                  refine lv_iload hx hb dX5_node_99 (lv_at hl 4 rfl) ?_
                  refine lv_aload_n hx hb dX5_node_101 rfl (lv_at hl 0 rfl) ?_
                  refine va_get (D := D) (ci := 5) (v := .ref m6) (C := RX5) (T := TX5) (N := 20) hx hb hts in_wsX5_node_X5 hown hK.1 hP 0 rfl rfl 9 (by decide) (hts _ lk362_wsX5_node) (fun _ h9 => h9) rfl dX5_node_102 ?_
                  refine lv_iload hx hb dX5_node_105 (lv_at hl 6 rfl) ?_
                  refine z_iald (v := (ab n)) hx hb hK.1 hP 3 0 rfl rfl (k := n) (by omega) (by decide) rfl dX5_node_107 ?_
                  refine lv_iload_n hx hb dX5_node_108 rfl (lv_at hl 1 rfl) ?_
                  refine lv_icmp_ne (tgt := 116) hx hb dX5_node_109 (by decide) (fun cb9 => ?_) (fun cb9 => ?_)
                  · skip
                    refine lv_iconst (v := nI 0) hx hb dX5_node_116 (by decide) ?_
                    refine lv_iadd hx hb dX5_node_117 ?_
                    refine z_top (y := nI (mc9 + 0)) (nI_add _ _) ?_
                    refine lv_istore (lv' := [(4, .int (nI (mc9 + 0))), (0, .ref M), (1, .int ((-1 : Int32))), (2, .int x), (3, .int (nI t)), (5, .int (bI (A))), (6, .int (nI n))]) hx hb dX5_node_118 hl (by decide) rfl (fun ls hl => ?_)
                    refine lv_iload hx hb dX5_node_120 (lv_at hl 5 rfl) ?_
                    refine lv_if_ne (tgt := 147) hx hb dX5_node_122 (by decide) (fun cb10 => ?_) (fun cb10 => ?_)
                    · have cb10 : (A) = true := bI_f0 cb10
                      refine lv_iconst (v := nI 1) hx hb dX5_node_147 (by decide) ?_
                      refine lv_goto (tgt := 152) hx hb dX5_node_148 (by decide) ?_
                      refine lv_istore (lv' := [(5, .int (nI 1)), (4, .int (nI (mc9 + 0))), (0, .ref M), (1, .int ((-1 : Int32))), (2, .int x), (3, .int (nI t)), (6, .int (nI n))]) hx hb dX5_node_152 hl (by decide) rfl (fun ls hl => ?_)
                      refine lv_iinc (v := nI (n + 1)) (lv' := [(6, .int (nI (n + 1))), (5, .int (nI 1)), (4, .int (nI (mc9 + 0))), (0, .ref M), (1, .int ((-1 : Int32))), (2, .int x), (3, .int (nI t))]) hx hb dX5_node_154 hl (k := 6) rfl (z_inc _) (by decide) rfl (fun ls hl => ?_)
                      refine lv_goto (tgt := 90) hx hb dX5_node_157 (by decide) ?_
                      exact ih_lo (n + 1) (mc9 + 0) true (by omega) (by omega) (by omega) _ _ _ hP hD hS (lv_sub hl [3, 4, 5, 6, 2, 1, 0] rfl)
                    · have cb10 : (A) = false := bI_t0 cb10
                      refine lv_aload_n hx hb dX5_node_125 rfl (lv_at hl 1 rfl) ?_
                      refine va_get (D := D) (ci := 5) (v := .ref m6) (C := RX5) (T := TX5) (N := 20) hx hb hts in_wsX5_node_X5 hown hK.1 hP 0 rfl rfl 9 (by decide) (hts _ lk362_wsX5_node) (fun _ h9 => h9) rfl dX5_node_126 ?_
                      refine lv_iload hx hb dX5_node_129 (lv_at hl 6 rfl) ?_
                      refine z_iald (v := (ab n)) hx hb hK.1 hP 3 0 rfl rfl (k := n) (by omega) (by decide) rfl dX5_node_131 ?_
                      refine lv_iload_n hx hb dX5_node_132 rfl (lv_at hl 2 rfl) ?_
                      refine lv_icmp_ne (tgt := 151) hx hb dX5_node_133 (by decide) (fun cb11 => ?_) (fun cb11 => ?_)
                      · skip
                        refine lv_iconst (v := nI 0) hx hb dX5_node_151 (by decide) ?_
                        refine lv_istore (lv' := [(5, .int (nI 0)), (4, .int (nI (mc9 + 0))), (0, .ref M), (1, .int ((-1 : Int32))), (2, .int x), (3, .int (nI t)), (6, .int (nI n))]) hx hb dX5_node_152 hl (by decide) rfl (fun ls hl => ?_)
                        refine lv_iinc (v := nI (n + 1)) (lv' := [(6, .int (nI (n + 1))), (5, .int (nI 0)), (4, .int (nI (mc9 + 0))), (0, .ref M), (1, .int ((-1 : Int32))), (2, .int x), (3, .int (nI t))]) hx hb dX5_node_154 hl (k := 6) rfl (z_inc _) (by decide) rfl (fun ls hl => ?_)
                        refine lv_goto (tgt := 90) hx hb dX5_node_157 (by decide) ?_
                        exact ih_lo (n + 1) (mc9 + 0) false (by omega) (by omega) (by omega) _ _ _ hP hD hS (lv_sub hl [3, 4, 5, 6, 2, 1, 0] rfl)
                      · skip
                        refine lv_aload_n hx hb dX5_node_136 rfl (lv_at hl 1 rfl) ?_
                        refine va_get (D := D) (ci := 5) (v := .ref m7) (C := RX5) (T := TX5) (N := 20) hx hb hts in_wsX5_node_X5 hown hK.1 hP 0 rfl rfl 10 (by decide) (hts _ lk363_wsX5_node) (fun _ h9 => h9) rfl dX5_node_137 ?_
                        refine lv_iload hx hb dX5_node_140 (lv_at hl 6 rfl) ?_
                        refine z_iald (v := nI (sl n % 8)) hx hb hK.1 hP 4 0 rfl rfl (k := n) (by omega) (by decide) rfl dX5_node_142 ?_
                        refine lv_iload_n hx hb dX5_node_143 rfl (lv_at hl 3 rfl) ?_
                        refine lv_icmp_ne (tgt := 151) hx hb dX5_node_144 (by decide) (fun cb12 => ?_) (fun cb12 => ?_)
                        · skip
                          refine lv_iconst (v := nI 0) hx hb dX5_node_151 (by decide) ?_
                          refine lv_istore (lv' := [(5, .int (nI 0)), (4, .int (nI (mc9 + 0))), (0, .ref M), (1, .int ((-1 : Int32))), (2, .int x), (3, .int (nI t)), (6, .int (nI n))]) hx hb dX5_node_152 hl (by decide) rfl (fun ls hl => ?_)
                          refine lv_iinc (v := nI (n + 1)) (lv' := [(6, .int (nI (n + 1))), (5, .int (nI 0)), (4, .int (nI (mc9 + 0))), (0, .ref M), (1, .int ((-1 : Int32))), (2, .int x), (3, .int (nI t))]) hx hb dX5_node_154 hl (k := 6) rfl (z_inc _) (by decide) rfl (fun ls hl => ?_)
                          refine lv_goto (tgt := 90) hx hb dX5_node_157 (by decide) ?_
                          exact ih_lo (n + 1) (mc9 + 0) false (by omega) (by omega) (by omega) _ _ _ hP hD hS (lv_sub hl [3, 4, 5, 6, 2, 1, 0] rfl)
                        · skip
                          refine lv_iconst (v := nI 1) hx hb dX5_node_147 (by decide) ?_
                          refine lv_goto (tgt := 152) hx hb dX5_node_148 (by decide) ?_
                          refine lv_istore (lv' := [(5, .int (nI 1)), (4, .int (nI (mc9 + 0))), (0, .ref M), (1, .int ((-1 : Int32))), (2, .int x), (3, .int (nI t)), (6, .int (nI n))]) hx hb dX5_node_152 hl (by decide) rfl (fun ls hl => ?_)
                          refine lv_iinc (v := nI (n + 1)) (lv' := [(6, .int (nI (n + 1))), (5, .int (nI 1)), (4, .int (nI (mc9 + 0))), (0, .ref M), (1, .int ((-1 : Int32))), (2, .int x), (3, .int (nI t))]) hx hb dX5_node_154 hl (k := 6) rfl (z_inc _) (by decide) rfl (fun ls hl => ?_)
                          refine lv_goto (tgt := 90) hx hb dX5_node_157 (by decide) ?_
                          exact ih_lo (n + 1) (mc9 + 0) true (by omega) (by omega) (by omega) _ _ _ hP hD hS (lv_sub hl [3, 4, 5, 6, 2, 1, 0] rfl)
                  · skip
                    refine lv_iconst (v := nI 1) hx hb dX5_node_112 (by decide) ?_
                    refine lv_goto (tgt := 117) hx hb dX5_node_113 (by decide) ?_
                    refine lv_iadd hx hb dX5_node_117 ?_
                    refine z_top (y := nI (mc9 + 1)) (nI_add _ _) ?_
                    refine lv_istore (lv' := [(4, .int (nI (mc9 + 1))), (0, .ref M), (1, .int ((-1 : Int32))), (2, .int x), (3, .int (nI t)), (5, .int (bI (A))), (6, .int (nI n))]) hx hb dX5_node_118 hl (by decide) rfl (fun ls hl => ?_)
                    refine lv_iload hx hb dX5_node_120 (lv_at hl 5 rfl) ?_
                    refine lv_if_ne (tgt := 147) hx hb dX5_node_122 (by decide) (fun cb13 => ?_) (fun cb13 => ?_)
                    · have cb13 : (A) = true := bI_f0 cb13
                      refine lv_iconst (v := nI 1) hx hb dX5_node_147 (by decide) ?_
                      refine lv_goto (tgt := 152) hx hb dX5_node_148 (by decide) ?_
                      refine lv_istore (lv' := [(5, .int (nI 1)), (4, .int (nI (mc9 + 1))), (0, .ref M), (1, .int ((-1 : Int32))), (2, .int x), (3, .int (nI t)), (6, .int (nI n))]) hx hb dX5_node_152 hl (by decide) rfl (fun ls hl => ?_)
                      refine lv_iinc (v := nI (n + 1)) (lv' := [(6, .int (nI (n + 1))), (5, .int (nI 1)), (4, .int (nI (mc9 + 1))), (0, .ref M), (1, .int ((-1 : Int32))), (2, .int x), (3, .int (nI t))]) hx hb dX5_node_154 hl (k := 6) rfl (z_inc _) (by decide) rfl (fun ls hl => ?_)
                      refine lv_goto (tgt := 90) hx hb dX5_node_157 (by decide) ?_
                      exact ih_lo (n + 1) (mc9 + 1) true (by omega) (by omega) (by omega) _ _ _ hP hD hS (lv_sub hl [3, 4, 5, 6, 2, 1, 0] rfl)
                    · have cb13 : (A) = false := bI_t0 cb13
                      refine lv_aload_n hx hb dX5_node_125 rfl (lv_at hl 1 rfl) ?_
                      refine va_get (D := D) (ci := 5) (v := .ref m6) (C := RX5) (T := TX5) (N := 20) hx hb hts in_wsX5_node_X5 hown hK.1 hP 0 rfl rfl 9 (by decide) (hts _ lk362_wsX5_node) (fun _ h9 => h9) rfl dX5_node_126 ?_
                      refine lv_iload hx hb dX5_node_129 (lv_at hl 6 rfl) ?_
                      refine z_iald (v := (ab n)) hx hb hK.1 hP 3 0 rfl rfl (k := n) (by omega) (by decide) rfl dX5_node_131 ?_
                      refine lv_iload_n hx hb dX5_node_132 rfl (lv_at hl 2 rfl) ?_
                      refine lv_icmp_ne (tgt := 151) hx hb dX5_node_133 (by decide) (fun cb14 => ?_) (fun cb14 => ?_)
                      · skip
                        refine lv_iconst (v := nI 0) hx hb dX5_node_151 (by decide) ?_
                        refine lv_istore (lv' := [(5, .int (nI 0)), (4, .int (nI (mc9 + 1))), (0, .ref M), (1, .int ((-1 : Int32))), (2, .int x), (3, .int (nI t)), (6, .int (nI n))]) hx hb dX5_node_152 hl (by decide) rfl (fun ls hl => ?_)
                        refine lv_iinc (v := nI (n + 1)) (lv' := [(6, .int (nI (n + 1))), (5, .int (nI 0)), (4, .int (nI (mc9 + 1))), (0, .ref M), (1, .int ((-1 : Int32))), (2, .int x), (3, .int (nI t))]) hx hb dX5_node_154 hl (k := 6) rfl (z_inc _) (by decide) rfl (fun ls hl => ?_)
                        refine lv_goto (tgt := 90) hx hb dX5_node_157 (by decide) ?_
                        exact ih_lo (n + 1) (mc9 + 1) false (by omega) (by omega) (by omega) _ _ _ hP hD hS (lv_sub hl [3, 4, 5, 6, 2, 1, 0] rfl)
                      · skip
                        refine lv_aload_n hx hb dX5_node_136 rfl (lv_at hl 1 rfl) ?_
                        refine va_get (D := D) (ci := 5) (v := .ref m7) (C := RX5) (T := TX5) (N := 20) hx hb hts in_wsX5_node_X5 hown hK.1 hP 0 rfl rfl 10 (by decide) (hts _ lk363_wsX5_node) (fun _ h9 => h9) rfl dX5_node_137 ?_
                        refine lv_iload hx hb dX5_node_140 (lv_at hl 6 rfl) ?_
                        refine z_iald (v := nI (sl n % 8)) hx hb hK.1 hP 4 0 rfl rfl (k := n) (by omega) (by decide) rfl dX5_node_142 ?_
                        refine lv_iload_n hx hb dX5_node_143 rfl (lv_at hl 3 rfl) ?_
                        refine lv_icmp_ne (tgt := 151) hx hb dX5_node_144 (by decide) (fun cb15 => ?_) (fun cb15 => ?_)
                        · skip
                          refine lv_iconst (v := nI 0) hx hb dX5_node_151 (by decide) ?_
                          refine lv_istore (lv' := [(5, .int (nI 0)), (4, .int (nI (mc9 + 1))), (0, .ref M), (1, .int ((-1 : Int32))), (2, .int x), (3, .int (nI t)), (6, .int (nI n))]) hx hb dX5_node_152 hl (by decide) rfl (fun ls hl => ?_)
                          refine lv_iinc (v := nI (n + 1)) (lv' := [(6, .int (nI (n + 1))), (5, .int (nI 0)), (4, .int (nI (mc9 + 1))), (0, .ref M), (1, .int ((-1 : Int32))), (2, .int x), (3, .int (nI t))]) hx hb dX5_node_154 hl (k := 6) rfl (z_inc _) (by decide) rfl (fun ls hl => ?_)
                          refine lv_goto (tgt := 90) hx hb dX5_node_157 (by decide) ?_
                          exact ih_lo (n + 1) (mc9 + 1) false (by omega) (by omega) (by omega) _ _ _ hP hD hS (lv_sub hl [3, 4, 5, 6, 2, 1, 0] rfl)
                        · skip
                          refine lv_iconst (v := nI 1) hx hb dX5_node_147 (by decide) ?_
                          refine lv_goto (tgt := 152) hx hb dX5_node_148 (by decide) ?_
                          refine lv_istore (lv' := [(5, .int (nI 1)), (4, .int (nI (mc9 + 1))), (0, .ref M), (1, .int ((-1 : Int32))), (2, .int x), (3, .int (nI t)), (6, .int (nI n))]) hx hb dX5_node_152 hl (by decide) rfl (fun ls hl => ?_)
                          refine lv_iinc (v := nI (n + 1)) (lv' := [(6, .int (nI (n + 1))), (5, .int (nI 1)), (4, .int (nI (mc9 + 1))), (0, .ref M), (1, .int ((-1 : Int32))), (2, .int x), (3, .int (nI t))]) hx hb dX5_node_154 hl (k := 6) rfl (z_inc _) (by decide) rfl (fun ls hl => ?_)
                          refine lv_goto (tgt := 90) hx hb dX5_node_157 (by decide) ?_
                          exact ih_lo (n + 1) (mc9 + 1) true (by omega) (by omega) (by omega) _ _ _ hP hD hS (lv_sub hl [3, 4, 5, 6, 2, 1, 0] rfl)
            exact lo (nn + 1) 0 0 false (by omega) (by omega) (by omega) _ _ _ hP hD hS (lv_sub hl [4, 5, 6, 3, 2, 1, 0] rfl)
          · have cb5 : (decide (inN (fc t) x)) = true := bI_f0 cb5
            exact absurd (of_decide_eq_true cb5) hbad
        · skip
          exact absurd cb4 (nI_m1 (by omega))
    · have cb2 : ¬ (0 ≤ 0) := zn_le_f (a := 0) (b := 0) (by omega) (by omega) cb2
      exact absurd cb2 (by decide)
  · skip
    exact absurd rfl cb1
set_option maxRecDepth 20000 in
theorem lk365_wsX5_node : Cond.fieldLink RX5 13 "QueryGatewayModel" "leads" "[I" ∈ wsX5_node := by decide +kernel
set_option maxHeartbeats 4000000 in
set_option maxRecDepth 100000 in
theorem c_X5_node_ok_at {l : Launch} {D : va_G} {cy : zCy} {M m1 m2 m3 m4 m5 m6 m7 m8 m9 m10 m11 m12 m13 m14 m15 nn qt fl : Nat} {thr mam : Int32} {fc sl : Nat → Nat} {lm ab : Nat → Int32} (hn : nn ≤ 12) {t : Nat} (ht : t < 4) {k : Nat} (hk : k < nn) (hs32 : sl k < 32) (hlt : lm (sl k) = nI t) (hf8 : fc t ≤ 8) (hty : ∀ j, j < nn → ab j = (nI k) → sl j / 8 = t) (hc4 : zcnt (fun j => decide (ab j = (nI k))) nn ≤ 4) {f : Nat} (hf : f < fc t) (hrm : ((∀ j, j < nn → ¬ (ab j = (nI k) ∧ sl j = t * 8 + f)) ∧ nn < 12 ∧ zcnt (fun j => decide (ab j = (nI k))) nn < 4)) : zW (Unit) l yX5_node wsX5_node rmX5_node D cy [(M, .inr (5, [.int thr, .ref m1, .ref m2, .ref m3, .ref m4, .ref m5, .int (nI fl), .int (nI qt), .int (nI nn), .ref m6, .ref m7, .ref m8, .ref m9, .ref m10, .ref m11, .ref m12, .ref m13, .ref m14, .ref m15, .int mam])), (m1, .inl (cy.1, 4, .inl (fun z => nI (fc z)))), (m2, .inl (cy.1, 32, .inl lm)), (m6, .inl (cy.1, 12, .inl ab)), (m7, .inl (cy.1, 12, .inl (fun z => nI (sl z % 8)))), (m8, .inl (cy.1, 12, .inl (fun z => nI (sl z / 8))))] [.ref M, .int (nI k), .int (nI f)] (fun r _ => r = nI nn) (fun _ => [(M, .inr (5, [.int (nI 0), .ref m1, .ref m2, .ref m3, .ref m4, .ref m5, .int (nI fl), .int (nI qt), .int (nI (nn + 1)), .ref m6, .ref m7, .ref m8, .ref m9, .ref m10, .ref m11, .ref m12, .ref m13, .ref m14, .ref m15, .int mam])), (m1, .inl (cy.1, 4, .inl (fun z => nI (fc z)))), (m2, .inl (cy.1, 32, .inl lm)), (m6, .inl (cy.1, 12, .inl (upd ab nn (nI k)))), (m7, .inl (cy.1, 12, .inl (fun z => nI (va_up sl nn (t * 8 + f) z % 8)))), (m8, .inl (cy.1, 12, .inl (fun z => nI (va_up sl nn (t * 8 + f) z / 8))))]) := by
  refine zW.of (cc := cX5_node) (maxL := 7) (ret := (some .int)) (by decide) rfl rfl ?_
  intro p e s m below meth c ls C hP hK hD hl
  obtain ⟨hx, hb, hr, hml, hts, hown, hlocks⟩ := C
  have hS : va_S (zIn [(M, .inr (5, [.int thr, .ref m1, .ref m2, .ref m3, .ref m4, .ref m5, .int (nI fl), .int (nI qt), .int (nI nn), .ref m6, .ref m7, .ref m8, .ref m9, .ref m10, .ref m11, .ref m12, .ref m13, .ref m14, .ref m15, .int mam])), (m1, .inl (cy.1, 4, .inl (fun z => nI (fc z)))), (m2, .inl (cy.1, 32, .inl lm)), (m6, .inl (cy.1, 12, .inl ab)), (m7, .inl (cy.1, 12, .inl (fun z => nI (sl z % 8)))), (m8, .inl (cy.1, 12, .inl (fun z => nI (sl z / 8))))]) s.heap s.heap [] := va_S.rf
  have hl : lv_has ls 7 [(0, .ref M), (1, .int (nI k)), (2, .int (nI f))] := hl
  refine lv_aload_n hx hb dX5_node_0 rfl (lv_at hl 0 rfl) ?_
  refine lv_iload_n hx hb dX5_node_1 rfl (lv_at hl 1 rfl) ?_
  refine lv_iconst (v := (-1 : Int32)) hx hb dX5_node_2 (by decide) ?_
  refine lv_icmp_eq (tgt := 14) hx hb dX5_node_3 (by decide) (fun cb1 => ?_) (fun cb1 => ?_)
  · skip
    exact absurd cb1 (nI_m1 (by omega))
  · skip
    refine lv_aload_n hx hb dX5_node_6 rfl (lv_at hl 0 rfl) ?_
    refine lv_iload_n hx hb dX5_node_7 rfl (lv_at hl 1 rfl) ?_
    refine z_callV (b := M) (As := [.int (nI k)]) (rest := [.ref M]) ⟨hx, hb, hml, hown, hts⟩ hK hP hS (c_X5_isNode (i := 0) rfl hn (x := nI k)) (cwV 1 hts gX5_node_X5_isNode rfl rfl rfl k_yX5_isNode ⟨Nat.le_of_ble_eq_true rfl, Nat.le_of_ble_eq_true rfl⟩) 0 5 rfl rfl rfl rfl hl.1 rfl rfl dX5_node_8 ⟨Nat.le_of_ble_eq_true rfl, Nat.le_of_ble_eq_true rfl⟩ (fun H locs hP hS => ?_)
    refine z_top (y := nI 1) (bI_in (by omega) (by omega)) ?_
    refine lv_if_eq (tgt := 18) hx hb dX5_node_11 (by decide) (fun cb2 => ?_) (fun cb2 => ?_)
    · have cb2 : 1 = 0 := zn_eq_t (a := 1) (b := 0) (by omega) (by omega) cb2
      exact absurd cb2 (by decide)
    · have cb2 : ¬ (1 = 0) := zn_eq_f (a := 1) (b := 0) (by omega) (by omega) cb2
      refine lv_iconst (v := nI 0) hx hb dX5_node_14 (by decide) ?_
      refine lv_goto (tgt := 19) hx hb dX5_node_15 (by decide) ?_
      refine va_put (D := D) (ci := 5) (v := .int (nI 0)) (ty := .int) (C := RX5) (T := TX5) (N := 20) hx hb hts in_wsX5_node_X5 tyX5 tyX5_ok nmX5 hown hK.1 hP hD hS 0 rfl rfl 0 (by decide) (hts _ lk358_wsX5_node) (fun _ h9 => h9) rfl (by decide +kernel) rfl rfl (Nat.le_of_ble_eq_true rfl) dX5_node_19 (fun H locs hP hD hS => ?_)
      have hP : va_P D vwCl [(M, .inr (5, [.int (nI 0), .ref m1, .ref m2, .ref m3, .ref m4, .ref m5, .int (nI fl), .int (nI qt), .int (nI nn), .ref m6, .ref m7, .ref m8, .ref m9, .ref m10, .ref m11, .ref m12, .ref m13, .ref m14, .ref m15, .int mam])), (m1, .inl (cy.1, 4, .inl (fun z => nI (fc z)))), (m2, .inl (cy.1, 32, .inl lm)), (m6, .inl (cy.1, 12, .inl ab)), (m7, .inl (cy.1, 12, .inl (fun z => nI (sl z % 8)))), (m8, .inl (cy.1, 12, .inl (fun z => nI (sl z / 8))))] H := hP
      have hD : va_D (zIn [(M, .inr (5, [.int thr, .ref m1, .ref m2, .ref m3, .ref m4, .ref m5, .int (nI fl), .int (nI qt), .int (nI nn), .ref m6, .ref m7, .ref m8, .ref m9, .ref m10, .ref m11, .ref m12, .ref m13, .ref m14, .ref m15, .int mam])), (m1, .inl (cy.1, 4, .inl (fun z => nI (fc z)))), (m2, .inl (cy.1, 32, .inl lm)), (m6, .inl (cy.1, 12, .inl ab)), (m7, .inl (cy.1, 12, .inl (fun z => nI (sl z % 8)))), (m8, .inl (cy.1, 12, .inl (fun z => nI (sl z / 8))))]) [(M, .inr (5, [.int (nI 0), .ref m1, .ref m2, .ref m3, .ref m4, .ref m5, .int (nI fl), .int (nI qt), .int (nI nn), .ref m6, .ref m7, .ref m8, .ref m9, .ref m10, .ref m11, .ref m12, .ref m13, .ref m14, .ref m15, .int mam])), (m1, .inl (cy.1, 4, .inl (fun z => nI (fc z)))), (m2, .inl (cy.1, 32, .inl lm)), (m6, .inl (cy.1, 12, .inl ab)), (m7, .inl (cy.1, 12, .inl (fun z => nI (sl z % 8)))), (m8, .inl (cy.1, 12, .inl (fun z => nI (sl z / 8))))] := hD
      refine lv_aload_n hx hb dX5_node_22 rfl (lv_at hl 0 rfl) ?_
      refine va_get (D := D) (ci := 5) (v := .int (nI 0)) (C := RX5) (T := TX5) (N := 20) hx hb hts in_wsX5_node_X5 hown hK.1 hP 0 rfl rfl 0 (by decide) (hts _ lk358_wsX5_node) (fun _ h9 => h9) rfl dX5_node_23 ?_
      refine lv_if_le (tgt := 31) hx hb dX5_node_26 (by decide) (fun cb3 => ?_) (fun cb3 => ?_)
      · have cb3 : 0 ≤ 0 := zn_le_t (a := 0) (b := 0) (by omega) (by omega) cb3
        refine lv_iload_n hx hb dX5_node_31 rfl (lv_at hl 1 rfl) ?_
        refine lv_iconst (v := (-1 : Int32)) hx hb dX5_node_32 (by decide) ?_
        refine lv_icmp_ne (tgt := 43) hx hb dX5_node_33 (by decide) (fun cb4 => ?_) (fun cb4 => ?_)
        · skip
          refine lv_aload_n hx hb dX5_node_43 rfl (lv_at hl 0 rfl) ?_
          refine va_get (D := D) (ci := 5) (v := .ref m2) (C := RX5) (T := TX5) (N := 20) hx hb hts in_wsX5_node_X5 hown hK.1 hP 0 rfl rfl 2 (by decide) (hts _ lk365_wsX5_node) (fun _ h9 => h9) rfl dX5_node_44 ?_
          refine lv_aload_n hx hb dX5_node_47 rfl (lv_at hl 0 rfl) ?_
          refine lv_iload_n hx hb dX5_node_48 rfl (lv_at hl 1 rfl) ?_
          refine z_callV (b := M) (As := [.int (nI k)]) (rest := [.ref m2]) ⟨hx, hb, hml, hown, hts⟩ hK hP hS (c_X5_fieldOf (i := 0) (j1 := 5) (j2 := 4) rfl rfl rfl (k := k) (by omega)) (cwV 1 hts gX5_node_X5_fieldOf rfl rfl rfl k_yX5_fieldOf ⟨Nat.le_of_ble_eq_true rfl, Nat.le_of_ble_eq_true rfl⟩) 0 5 rfl rfl rfl rfl hl.1 rfl rfl dX5_node_49 ⟨Nat.le_of_ble_eq_true rfl, Nat.le_of_ble_eq_true rfl⟩ (fun H locs hP hS => ?_)
          refine z_iald (v := nI t) hx hb hK.1 hP 2 0 rfl rfl (k := sl k) (by omega) (by decide) hlt dX5_node_52 ?_
          refine lv_istore_n (lv' := [(3, .int (nI t)), (0, .ref M), (1, .int (nI k)), (2, .int (nI f))]) hx hb dX5_node_53 rfl hl (by decide) rfl (fun ls hl => ?_)
          refine lv_aload_n hx hb dX5_node_54 rfl (lv_at hl 1 rfl) ?_
          refine lv_iload_n hx hb dX5_node_55 rfl (lv_at hl 0 rfl) ?_
          refine lv_iconst (v := (-1 : Int32)) hx hb dX5_node_56 (by decide) ?_
          refine lv_icmp_ne (tgt := 64) hx hb dX5_node_57 (by decide) (fun cb5 => ?_) (fun cb5 => ?_)
          · skip
            refine lv_aload_n hx hb dX5_node_64 rfl (lv_at hl 1 rfl) ?_
            refine lv_iload_n hx hb dX5_node_65 rfl (lv_at hl 0 rfl) ?_
            refine lv_iload_n hx hb dX5_node_66 rfl (lv_at hl 3 rfl) ?_
            refine z_callV (b := M) (As := [.int (nI t), .int (nI f)]) (rest := [.ref M]) ⟨hx, hb, hml, hown, hts⟩ hK hP hS (c_X5_isField (i := 0) (j1 := 1) rfl rfl (t := t) (by omega) hf8 (x := nI f)) (cwV 2 hts gX5_node_X5_isField rfl rfl rfl k_yX5_isField ⟨Nat.le_of_ble_eq_true rfl, Nat.le_of_ble_eq_true rfl⟩) 0 5 rfl rfl rfl rfl hl.1 rfl rfl dX5_node_67 ⟨Nat.le_of_ble_eq_true rfl, Nat.le_of_ble_eq_true rfl⟩ (fun H locs hP hS => ?_)
            refine z_top (y := nI 1) (bI_in (by omega) (by omega)) ?_
            refine lv_if_eq (tgt := 77) hx hb dX5_node_70 (by decide) (fun cb6 => ?_) (fun cb6 => ?_)
            · have cb6 : 1 = 0 := zn_eq_t (a := 1) (b := 0) (by omega) (by omega) cb6
              exact absurd cb6 (by decide)
            · have cb6 : ¬ (1 = 0) := zn_eq_f (a := 1) (b := 0) (by omega) (by omega) cb6
              refine lv_iconst (v := nI 0) hx hb dX5_node_73 (by decide) ?_
              refine lv_goto (tgt := 78) hx hb dX5_node_74 (by decide) ?_
              refine va_put (D := D) (ci := 5) (v := .int (nI 0)) (ty := .int) (C := RX5) (T := TX5) (N := 20) hx hb hts in_wsX5_node_X5 tyX5 tyX5_ok nmX5 hown hK.1 hP hD hS 0 rfl rfl 0 (by decide) (hts _ lk358_wsX5_node) (fun _ h9 => h9) rfl (by decide +kernel) rfl rfl (Nat.le_of_ble_eq_true rfl) dX5_node_78 (fun H locs hP hD hS => ?_)
              have hP : va_P D vwCl [(M, .inr (5, [.int (nI 0), .ref m1, .ref m2, .ref m3, .ref m4, .ref m5, .int (nI fl), .int (nI qt), .int (nI nn), .ref m6, .ref m7, .ref m8, .ref m9, .ref m10, .ref m11, .ref m12, .ref m13, .ref m14, .ref m15, .int mam])), (m1, .inl (cy.1, 4, .inl (fun z => nI (fc z)))), (m2, .inl (cy.1, 32, .inl lm)), (m6, .inl (cy.1, 12, .inl ab)), (m7, .inl (cy.1, 12, .inl (fun z => nI (sl z % 8)))), (m8, .inl (cy.1, 12, .inl (fun z => nI (sl z / 8))))] H := hP
              have hD : va_D (zIn [(M, .inr (5, [.int thr, .ref m1, .ref m2, .ref m3, .ref m4, .ref m5, .int (nI fl), .int (nI qt), .int (nI nn), .ref m6, .ref m7, .ref m8, .ref m9, .ref m10, .ref m11, .ref m12, .ref m13, .ref m14, .ref m15, .int mam])), (m1, .inl (cy.1, 4, .inl (fun z => nI (fc z)))), (m2, .inl (cy.1, 32, .inl lm)), (m6, .inl (cy.1, 12, .inl ab)), (m7, .inl (cy.1, 12, .inl (fun z => nI (sl z % 8)))), (m8, .inl (cy.1, 12, .inl (fun z => nI (sl z / 8))))]) [(M, .inr (5, [.int (nI 0), .ref m1, .ref m2, .ref m3, .ref m4, .ref m5, .int (nI fl), .int (nI qt), .int (nI nn), .ref m6, .ref m7, .ref m8, .ref m9, .ref m10, .ref m11, .ref m12, .ref m13, .ref m14, .ref m15, .int mam])), (m1, .inl (cy.1, 4, .inl (fun z => nI (fc z)))), (m2, .inl (cy.1, 32, .inl lm)), (m6, .inl (cy.1, 12, .inl ab)), (m7, .inl (cy.1, 12, .inl (fun z => nI (sl z % 8)))), (m8, .inl (cy.1, 12, .inl (fun z => nI (sl z / 8))))] := hD
              refine lv_iconst (v := nI 0) hx hb dX5_node_81 (by decide) ?_
              refine lv_istore (lv' := [(4, .int (nI 0)), (3, .int (nI t)), (0, .ref M), (1, .int (nI k)), (2, .int (nI f))]) hx hb dX5_node_82 hl (by decide) rfl (fun ls hl => ?_)
              refine lv_iconst (v := nI 0) hx hb dX5_node_84 (by decide) ?_
              refine lv_istore (lv' := [(5, .int (nI 0)), (4, .int (nI 0)), (3, .int (nI t)), (0, .ref M), (1, .int (nI k)), (2, .int (nI f))]) hx hb dX5_node_85 hl (by decide) rfl (fun ls hl => ?_)
              refine lv_iconst (v := nI 0) hx hb dX5_node_87 (by decide) ?_
              refine lv_istore (lv' := [(6, .int (nI 0)), (5, .int (nI 0)), (4, .int (nI 0)), (3, .int (nI t)), (0, .ref M), (1, .int (nI k)), (2, .int (nI f))]) hx hb dX5_node_88 hl (by decide) rfl (fun ls hl => ?_)
              have lo : ∀ (fuel : Nat) (n mc9 : Nat) (A : Bool), nn + 1 ≤ n + fuel → n ≤ nn → mc9 ≤ n → (mc9 = zcnt (fun j => decide (ab j = (nI k))) n) → (A = decide (∃ j, j < n ∧ ab j = (nI k) ∧ sl j % 8 = f)) → ∀ (H : Heap) (locs : List Loc) (ls : Array Slot), va_P D vwCl [(M, .inr (5, [.int (nI 0), .ref m1, .ref m2, .ref m3, .ref m4, .ref m5, .int (nI fl), .int (nI qt), .int (nI nn), .ref m6, .ref m7, .ref m8, .ref m9, .ref m10, .ref m11, .ref m12, .ref m13, .ref m14, .ref m15, .int mam])), (m1, .inl (cy.1, 4, .inl (fun z => nI (fc z)))), (m2, .inl (cy.1, 32, .inl lm)), (m6, .inl (cy.1, 12, .inl ab)), (m7, .inl (cy.1, 12, .inl (fun z => nI (sl z % 8)))), (m8, .inl (cy.1, 12, .inl (fun z => nI (sl z / 8))))] H → va_D (zIn [(M, .inr (5, [.int thr, .ref m1, .ref m2, .ref m3, .ref m4, .ref m5, .int (nI fl), .int (nI qt), .int (nI nn), .ref m6, .ref m7, .ref m8, .ref m9, .ref m10, .ref m11, .ref m12, .ref m13, .ref m14, .ref m15, .int mam])), (m1, .inl (cy.1, 4, .inl (fun z => nI (fc z)))), (m2, .inl (cy.1, 32, .inl lm)), (m6, .inl (cy.1, 12, .inl ab)), (m7, .inl (cy.1, 12, .inl (fun z => nI (sl z % 8)))), (m8, .inl (cy.1, 12, .inl (fun z => nI (sl z / 8))))]) [(M, .inr (5, [.int (nI 0), .ref m1, .ref m2, .ref m3, .ref m4, .ref m5, .int (nI fl), .int (nI qt), .int (nI nn), .ref m6, .ref m7, .ref m8, .ref m9, .ref m10, .ref m11, .ref m12, .ref m13, .ref m14, .ref m15, .int mam])), (m1, .inl (cy.1, 4, .inl (fun z => nI (fc z)))), (m2, .inl (cy.1, 32, .inl lm)), (m6, .inl (cy.1, 12, .inl ab)), (m7, .inl (cy.1, 12, .inl (fun z => nI (sl z % 8)))), (m8, .inl (cy.1, 12, .inl (fun z => nI (sl z / 8))))] → va_S (zIn [(M, .inr (5, [.int thr, .ref m1, .ref m2, .ref m3, .ref m4, .ref m5, .int (nI fl), .int (nI qt), .int (nI nn), .ref m6, .ref m7, .ref m8, .ref m9, .ref m10, .ref m11, .ref m12, .ref m13, .ref m14, .ref m15, .int mam])), (m1, .inl (cy.1, 4, .inl (fun z => nI (fc z)))), (m2, .inl (cy.1, 32, .inl lm)), (m6, .inl (cy.1, 12, .inl ab)), (m7, .inl (cy.1, 12, .inl (fun z => nI (sl z % 8)))), (m8, .inl (cy.1, 12, .inl (fun z => nI (sl z / 8))))]) s.heap H locs → lv_has ls 7 [(0, .ref M), (1, .int (nI k)), (2, .int (nI f)), (3, .int (nI t)), (4, .int (nI mc9)), (5, .int (bI (A))), (6, .int (nI n))] → W p l e rmX5_node s m [.ref M, .int (nI k), .int (nI f)].toArray below meth c H locs 0 0 (zWQ (Unit) D below [.ref M, .int (nI k), .int (nI f)].toArray s [(M, .inr (5, [.int thr, .ref m1, .ref m2, .ref m3, .ref m4, .ref m5, .int (nI fl), .int (nI qt), .int (nI nn), .ref m6, .ref m7, .ref m8, .ref m9, .ref m10, .ref m11, .ref m12, .ref m13, .ref m14, .ref m15, .int mam])), (m1, .inl (cy.1, 4, .inl (fun z => nI (fc z)))), (m2, .inl (cy.1, 32, .inl lm)), (m6, .inl (cy.1, 12, .inl ab)), (m7, .inl (cy.1, 12, .inl (fun z => nI (sl z % 8)))), (m8, .inl (cy.1, 12, .inl (fun z => nI (sl z / 8))))] (fun r _ => r = nI nn) (fun _ => [(M, .inr (5, [.int (nI 0), .ref m1, .ref m2, .ref m3, .ref m4, .ref m5, .int (nI fl), .int (nI qt), .int (nI (nn + 1)), .ref m6, .ref m7, .ref m8, .ref m9, .ref m10, .ref m11, .ref m12, .ref m13, .ref m14, .ref m15, .int mam])), (m1, .inl (cy.1, 4, .inl (fun z => nI (fc z)))), (m2, .inl (cy.1, 32, .inl lm)), (m6, .inl (cy.1, 12, .inl (upd ab nn (nI k)))), (m7, .inl (cy.1, 12, .inl (fun z => nI (va_up sl nn (t * 8 + f) z % 8)))), (m8, .inl (cy.1, 12, .inl (fun z => nI (va_up sl nn (t * 8 + f) z / 8))))])) (F0 m 90 ls []) := by
                intro fuel
                induction fuel with
                | zero => intro n mc9 A hfu hi hm ht9 hA; exact absurd hfu (by omega)
                | succ fuel ih_lo =>
                  intro n mc9 A hfu hi hm ht9 hA H locs ls hP hD hS hl
                  refine lv_iload hx hb dX5_node_90 (lv_at hl 6 rfl) ?_
                  refine lv_aload_n hx hb dX5_node_92 rfl (lv_at hl 0 rfl) ?_
                  refine va_get (D := D) (ci := 5) (v := .int (nI nn)) (C := RX5) (T := TX5) (N := 20) hx hb hts in_wsX5_node_X5 hown hK.1 hP 0 rfl rfl 8 (by decide) (hts _ lk361_wsX5_node) (fun _ h9 => h9) rfl dX5_node_93 ?_
                  refine lv_icmp_ge (tgt := 160) hx hb dX5_node_96 (by decide) (fun cb7 => ?_) (fun cb7 => ?_)
                  · have cb7 : nn ≤ n := zn_ge_t (a := n) (b := nn) (by omega) (by omega) cb7
                    refine lv_aload_n hx hb dX5_node_160 rfl (lv_at hl 0 rfl) ?_
                    refine va_get (D := D) (ci := 5) (v := .int (nI 0)) (C := RX5) (T := TX5) (N := 20) hx hb hts in_wsX5_node_X5 hown hK.1 hP 0 rfl rfl 0 (by decide) (hts _ lk358_wsX5_node) (fun _ h9 => h9) rfl dX5_node_161 ?_
                    refine lv_if_ne (tgt := 192) hx hb dX5_node_164 (by decide) (fun cb8 => ?_) (fun cb8 => ?_)
                    · have cb8 : ¬ (0 = 0) := zn_ne_f (a := 0) (b := 0) (by omega) (by omega) cb8
                      exact absurd cb8 (by decide)
                    · have cb8 : 0 = 0 := zn_ne_t (a := 0) (b := 0) (by omega) (by omega) cb8
                      refine lv_aload_n hx hb dX5_node_167 rfl (lv_at hl 0 rfl) ?_
                      refine va_get (D := D) (ci := 5) (v := .int (nI nn)) (C := RX5) (T := TX5) (N := 20) hx hb hts in_wsX5_node_X5 hown hK.1 hP 0 rfl rfl 8 (by decide) (hts _ lk361_wsX5_node) (fun _ h9 => h9) rfl dX5_node_168 ?_
                      refine lv_bipush (v := nI 12) hx hb dX5_node_171 (by decide) ?_
                      refine lv_icmp_eq (tgt := 187) hx hb dX5_node_173 (by decide) (fun cb9 => ?_) (fun cb9 => ?_)
                      · have cb9 : nn = 12 := zn_eq_t (a := nn) (b := 12) (by omega) (by omega) cb9
                        exact absurd cb9 (by have := hrm.2.1; omega)
                      · have cb9 : ¬ (nn = 12) := zn_eq_f (a := nn) (b := 12) (by omega) (by omega) cb9
                        refine lv_iload hx hb dX5_node_176 (lv_at hl 4 rfl) ?_
                        refine lv_iconst (v := nI 4) hx hb dX5_node_178 (by decide) ?_
                        refine lv_icmp_eq (tgt := 187) hx hb dX5_node_179 (by decide) (fun cb10 => ?_) (fun cb10 => ?_)
                        · have cb10 : mc9 = 4 := zn_eq_t (a := mc9) (b := 4) (by omega) (by omega) cb10
                          exact absurd cb10 (by have := hrm.2.2; rw [show n = nn by omega] at ht9; omega)
                        · have cb10 : ¬ (mc9 = 4) := zn_eq_f (a := mc9) (b := 4) (by omega) (by omega) cb10
                          refine lv_iload hx hb dX5_node_182 (lv_at hl 5 rfl) ?_
                          refine lv_if_eq (tgt := 192) hx hb dX5_node_184 (by decide) (fun cb11 => ?_) (fun cb11 => ?_)
                          · have cb11 : (A) = false := bI_t0 cb11
                            refine lv_aload_n hx hb dX5_node_192 rfl (lv_at hl 0 rfl) ?_
                            refine va_get (D := D) (ci := 5) (v := .int (nI 0)) (C := RX5) (T := TX5) (N := 20) hx hb hts in_wsX5_node_X5 hown hK.1 hP 0 rfl rfl 0 (by decide) (hts _ lk358_wsX5_node) (fun _ h9 => h9) rfl dX5_node_193 ?_
                            refine lv_if_le (tgt := 201) hx hb dX5_node_196 (by decide) (fun cb12 => ?_) (fun cb12 => ?_)
                            · have cb12 : 0 ≤ 0 := zn_le_t (a := 0) (b := 0) (by omega) (by omega) cb12
                              have hn12 := hrm.2.1
                              refine lv_aload_n hx hb dX5_node_201 rfl (lv_at hl 0 rfl) ?_
                              refine va_get (D := D) (ci := 5) (v := .ref m6) (C := RX5) (T := TX5) (N := 20) hx hb hts in_wsX5_node_X5 hown hK.1 hP 0 rfl rfl 9 (by decide) (hts _ lk362_wsX5_node) (fun _ h9 => h9) rfl dX5_node_202 ?_
                              refine lv_aload_n hx hb dX5_node_205 rfl (lv_at hl 0 rfl) ?_
                              refine va_get (D := D) (ci := 5) (v := .int (nI nn)) (C := RX5) (T := TX5) (N := 20) hx hb hts in_wsX5_node_X5 hown hK.1 hP 0 rfl rfl 8 (by decide) (hts _ lk361_wsX5_node) (fun _ h9 => h9) rfl dX5_node_206 ?_
                              refine lv_iload_n hx hb dX5_node_209 rfl (lv_at hl 1 rfl) ?_
                              refine z_iast (g := upd ab nn (nI k)) hx hb hK.1 hP hD hS 3 0 rfl rfl (k := nn) (by omega) (by decide) (fun _ _ => rfl) dX5_node_210 (fun H locs hP hD hS => ?_)
                              have hP : va_P D vwCl [(M, .inr (5, [.int (nI 0), .ref m1, .ref m2, .ref m3, .ref m4, .ref m5, .int (nI fl), .int (nI qt), .int (nI nn), .ref m6, .ref m7, .ref m8, .ref m9, .ref m10, .ref m11, .ref m12, .ref m13, .ref m14, .ref m15, .int mam])), (m1, .inl (cy.1, 4, .inl (fun z => nI (fc z)))), (m2, .inl (cy.1, 32, .inl lm)), (m6, .inl (cy.1, 12, .inl (upd ab nn (nI k)))), (m7, .inl (cy.1, 12, .inl (fun z => nI (sl z % 8)))), (m8, .inl (cy.1, 12, .inl (fun z => nI (sl z / 8))))] H := hP
                              have hD : va_D (zIn [(M, .inr (5, [.int thr, .ref m1, .ref m2, .ref m3, .ref m4, .ref m5, .int (nI fl), .int (nI qt), .int (nI nn), .ref m6, .ref m7, .ref m8, .ref m9, .ref m10, .ref m11, .ref m12, .ref m13, .ref m14, .ref m15, .int mam])), (m1, .inl (cy.1, 4, .inl (fun z => nI (fc z)))), (m2, .inl (cy.1, 32, .inl lm)), (m6, .inl (cy.1, 12, .inl ab)), (m7, .inl (cy.1, 12, .inl (fun z => nI (sl z % 8)))), (m8, .inl (cy.1, 12, .inl (fun z => nI (sl z / 8))))]) [(M, .inr (5, [.int (nI 0), .ref m1, .ref m2, .ref m3, .ref m4, .ref m5, .int (nI fl), .int (nI qt), .int (nI nn), .ref m6, .ref m7, .ref m8, .ref m9, .ref m10, .ref m11, .ref m12, .ref m13, .ref m14, .ref m15, .int mam])), (m1, .inl (cy.1, 4, .inl (fun z => nI (fc z)))), (m2, .inl (cy.1, 32, .inl lm)), (m6, .inl (cy.1, 12, .inl (upd ab nn (nI k)))), (m7, .inl (cy.1, 12, .inl (fun z => nI (sl z % 8)))), (m8, .inl (cy.1, 12, .inl (fun z => nI (sl z / 8))))] := hD
                              refine lv_aload_n hx hb dX5_node_211 rfl (lv_at hl 0 rfl) ?_
                              refine va_get (D := D) (ci := 5) (v := .ref m7) (C := RX5) (T := TX5) (N := 20) hx hb hts in_wsX5_node_X5 hown hK.1 hP 0 rfl rfl 10 (by decide) (hts _ lk363_wsX5_node) (fun _ h9 => h9) rfl dX5_node_212 ?_
                              refine lv_aload_n hx hb dX5_node_215 rfl (lv_at hl 0 rfl) ?_
                              refine va_get (D := D) (ci := 5) (v := .int (nI nn)) (C := RX5) (T := TX5) (N := 20) hx hb hts in_wsX5_node_X5 hown hK.1 hP 0 rfl rfl 8 (by decide) (hts _ lk361_wsX5_node) (fun _ h9 => h9) rfl dX5_node_216 ?_
                              refine lv_iload_n hx hb dX5_node_219 rfl (lv_at hl 2 rfl) ?_
                              refine z_iast (g := fun z => nI (va_up sl nn (t * 8 + f) z % 8)) hx hb hK.1 hP hD hS 4 0 rfl rfl (k := nn) (by omega) (by decide) (fun z _ => by unfold upd va_up; split; (rw [show (t * 8 + f) % 8 = f by omega]); rfl) dX5_node_220 (fun H locs hP hD hS => ?_)
                              have hP : va_P D vwCl [(M, .inr (5, [.int (nI 0), .ref m1, .ref m2, .ref m3, .ref m4, .ref m5, .int (nI fl), .int (nI qt), .int (nI nn), .ref m6, .ref m7, .ref m8, .ref m9, .ref m10, .ref m11, .ref m12, .ref m13, .ref m14, .ref m15, .int mam])), (m1, .inl (cy.1, 4, .inl (fun z => nI (fc z)))), (m2, .inl (cy.1, 32, .inl lm)), (m6, .inl (cy.1, 12, .inl (upd ab nn (nI k)))), (m7, .inl (cy.1, 12, .inl (fun z => nI (va_up sl nn (t * 8 + f) z % 8)))), (m8, .inl (cy.1, 12, .inl (fun z => nI (sl z / 8))))] H := hP
                              have hD : va_D (zIn [(M, .inr (5, [.int thr, .ref m1, .ref m2, .ref m3, .ref m4, .ref m5, .int (nI fl), .int (nI qt), .int (nI nn), .ref m6, .ref m7, .ref m8, .ref m9, .ref m10, .ref m11, .ref m12, .ref m13, .ref m14, .ref m15, .int mam])), (m1, .inl (cy.1, 4, .inl (fun z => nI (fc z)))), (m2, .inl (cy.1, 32, .inl lm)), (m6, .inl (cy.1, 12, .inl ab)), (m7, .inl (cy.1, 12, .inl (fun z => nI (sl z % 8)))), (m8, .inl (cy.1, 12, .inl (fun z => nI (sl z / 8))))]) [(M, .inr (5, [.int (nI 0), .ref m1, .ref m2, .ref m3, .ref m4, .ref m5, .int (nI fl), .int (nI qt), .int (nI nn), .ref m6, .ref m7, .ref m8, .ref m9, .ref m10, .ref m11, .ref m12, .ref m13, .ref m14, .ref m15, .int mam])), (m1, .inl (cy.1, 4, .inl (fun z => nI (fc z)))), (m2, .inl (cy.1, 32, .inl lm)), (m6, .inl (cy.1, 12, .inl (upd ab nn (nI k)))), (m7, .inl (cy.1, 12, .inl (fun z => nI (va_up sl nn (t * 8 + f) z % 8)))), (m8, .inl (cy.1, 12, .inl (fun z => nI (sl z / 8))))] := hD
                              refine lv_aload_n hx hb dX5_node_221 rfl (lv_at hl 0 rfl) ?_
                              refine va_get (D := D) (ci := 5) (v := .ref m8) (C := RX5) (T := TX5) (N := 20) hx hb hts in_wsX5_node_X5 hown hK.1 hP 0 rfl rfl 11 (by decide) (hts _ lk364_wsX5_node) (fun _ h9 => h9) rfl dX5_node_222 ?_
                              refine lv_aload_n hx hb dX5_node_225 rfl (lv_at hl 0 rfl) ?_
                              refine va_get (D := D) (ci := 5) (v := .int (nI nn)) (C := RX5) (T := TX5) (N := 20) hx hb hts in_wsX5_node_X5 hown hK.1 hP 0 rfl rfl 8 (by decide) (hts _ lk361_wsX5_node) (fun _ h9 => h9) rfl dX5_node_226 ?_
                              refine lv_iload_n hx hb dX5_node_229 rfl (lv_at hl 3 rfl) ?_
                              refine z_iast (g := fun z => nI (va_up sl nn (t * 8 + f) z / 8)) hx hb hK.1 hP hD hS 5 0 rfl rfl (k := nn) (by omega) (by decide) (fun z _ => by unfold upd va_up; split; (rw [show (t * 8 + f) / 8 = t by omega]); rfl) dX5_node_230 (fun H locs hP hD hS => ?_)
                              have hP : va_P D vwCl [(M, .inr (5, [.int (nI 0), .ref m1, .ref m2, .ref m3, .ref m4, .ref m5, .int (nI fl), .int (nI qt), .int (nI nn), .ref m6, .ref m7, .ref m8, .ref m9, .ref m10, .ref m11, .ref m12, .ref m13, .ref m14, .ref m15, .int mam])), (m1, .inl (cy.1, 4, .inl (fun z => nI (fc z)))), (m2, .inl (cy.1, 32, .inl lm)), (m6, .inl (cy.1, 12, .inl (upd ab nn (nI k)))), (m7, .inl (cy.1, 12, .inl (fun z => nI (va_up sl nn (t * 8 + f) z % 8)))), (m8, .inl (cy.1, 12, .inl (fun z => nI (va_up sl nn (t * 8 + f) z / 8))))] H := hP
                              have hD : va_D (zIn [(M, .inr (5, [.int thr, .ref m1, .ref m2, .ref m3, .ref m4, .ref m5, .int (nI fl), .int (nI qt), .int (nI nn), .ref m6, .ref m7, .ref m8, .ref m9, .ref m10, .ref m11, .ref m12, .ref m13, .ref m14, .ref m15, .int mam])), (m1, .inl (cy.1, 4, .inl (fun z => nI (fc z)))), (m2, .inl (cy.1, 32, .inl lm)), (m6, .inl (cy.1, 12, .inl ab)), (m7, .inl (cy.1, 12, .inl (fun z => nI (sl z % 8)))), (m8, .inl (cy.1, 12, .inl (fun z => nI (sl z / 8))))]) [(M, .inr (5, [.int (nI 0), .ref m1, .ref m2, .ref m3, .ref m4, .ref m5, .int (nI fl), .int (nI qt), .int (nI nn), .ref m6, .ref m7, .ref m8, .ref m9, .ref m10, .ref m11, .ref m12, .ref m13, .ref m14, .ref m15, .int mam])), (m1, .inl (cy.1, 4, .inl (fun z => nI (fc z)))), (m2, .inl (cy.1, 32, .inl lm)), (m6, .inl (cy.1, 12, .inl (upd ab nn (nI k)))), (m7, .inl (cy.1, 12, .inl (fun z => nI (va_up sl nn (t * 8 + f) z % 8)))), (m8, .inl (cy.1, 12, .inl (fun z => nI (va_up sl nn (t * 8 + f) z / 8))))] := hD
                              refine lv_aload_n hx hb dX5_node_231 rfl (lv_at hl 0 rfl) ?_
                              refine lv_dup hx hb dX5_node_232 rfl ?_
                              refine va_get (D := D) (ci := 5) (v := .int (nI nn)) (C := RX5) (T := TX5) (N := 20) hx hb hts in_wsX5_node_X5 hown hK.1 hP 0 rfl rfl 8 (by decide) (hts _ lk361_wsX5_node) (fun _ h9 => h9) rfl dX5_node_233 ?_
                              refine lv_iconst (v := nI 1) hx hb dX5_node_236 (by decide) ?_
                              refine lv_iadd hx hb dX5_node_237 ?_
                              refine z_top (y := nI (nn + 1)) (nI_add _ _) ?_
                              refine va_put (D := D) (ci := 5) (v := .int (nI (nn + 1))) (ty := .int) (C := RX5) (T := TX5) (N := 20) hx hb hts in_wsX5_node_X5 tyX5 tyX5_ok nmX5 hown hK.1 hP hD hS 0 rfl rfl 8 (by decide) (hts _ lk361_wsX5_node) (fun _ h9 => h9) rfl (by decide +kernel) rfl rfl (Nat.le_of_ble_eq_true rfl) dX5_node_238 (fun H locs hP hD hS => ?_)
                              have hP : va_P D vwCl [(M, .inr (5, [.int (nI 0), .ref m1, .ref m2, .ref m3, .ref m4, .ref m5, .int (nI fl), .int (nI qt), .int (nI (nn + 1)), .ref m6, .ref m7, .ref m8, .ref m9, .ref m10, .ref m11, .ref m12, .ref m13, .ref m14, .ref m15, .int mam])), (m1, .inl (cy.1, 4, .inl (fun z => nI (fc z)))), (m2, .inl (cy.1, 32, .inl lm)), (m6, .inl (cy.1, 12, .inl (upd ab nn (nI k)))), (m7, .inl (cy.1, 12, .inl (fun z => nI (va_up sl nn (t * 8 + f) z % 8)))), (m8, .inl (cy.1, 12, .inl (fun z => nI (va_up sl nn (t * 8 + f) z / 8))))] H := hP
                              have hD : va_D (zIn [(M, .inr (5, [.int thr, .ref m1, .ref m2, .ref m3, .ref m4, .ref m5, .int (nI fl), .int (nI qt), .int (nI nn), .ref m6, .ref m7, .ref m8, .ref m9, .ref m10, .ref m11, .ref m12, .ref m13, .ref m14, .ref m15, .int mam])), (m1, .inl (cy.1, 4, .inl (fun z => nI (fc z)))), (m2, .inl (cy.1, 32, .inl lm)), (m6, .inl (cy.1, 12, .inl ab)), (m7, .inl (cy.1, 12, .inl (fun z => nI (sl z % 8)))), (m8, .inl (cy.1, 12, .inl (fun z => nI (sl z / 8))))]) [(M, .inr (5, [.int (nI 0), .ref m1, .ref m2, .ref m3, .ref m4, .ref m5, .int (nI fl), .int (nI qt), .int (nI (nn + 1)), .ref m6, .ref m7, .ref m8, .ref m9, .ref m10, .ref m11, .ref m12, .ref m13, .ref m14, .ref m15, .int mam])), (m1, .inl (cy.1, 4, .inl (fun z => nI (fc z)))), (m2, .inl (cy.1, 32, .inl lm)), (m6, .inl (cy.1, 12, .inl (upd ab nn (nI k)))), (m7, .inl (cy.1, 12, .inl (fun z => nI (va_up sl nn (t * 8 + f) z % 8)))), (m8, .inl (cy.1, 12, .inl (fun z => nI (va_up sl nn (t * 8 + f) z / 8))))] := hD
                              refine lv_aload_n hx hb dX5_node_241 rfl (lv_at hl 0 rfl) ?_
                              refine va_get (D := D) (ci := 5) (v := .int (nI (nn + 1))) (C := RX5) (T := TX5) (N := 20) hx hb hts in_wsX5_node_X5 hown hK.1 hP 0 rfl rfl 8 (by decide) (hts _ lk361_wsX5_node) (fun _ h9 => h9) rfl dX5_node_242 ?_
                              refine lv_iconst (v := nI 1) hx hb dX5_node_245 (by decide) ?_
                              refine lv_isub hx hb dX5_node_246 ?_
                              refine z_top (y := nI nn) (nI_pred nn) ?_
                              exact z_iretW () hx hb hr hlocks hS dX5_node_247 hP rfl
                            · have cb12 : ¬ (0 ≤ 0) := zn_le_f (a := 0) (b := 0) (by omega) (by omega) cb12
                              exact absurd cb12 (by decide)
                          · have cb11 : (A) = true := bI_f0 cb11
                            exact absurd cb11 (fun z => by obtain ⟨j, h1, h2, h3⟩ := of_decide_eq_true (hA.symm.trans z); have := hty j (by omega) h2; exact hrm.1 j (by omega) ⟨h2, by omega⟩)
                  · have cb7 : ¬ (nn ≤ n) := zn_ge_f (a := n) (b := nn) (by omega) (by omega) cb7
                    refine lv_iload hx hb dX5_node_99 (lv_at hl 4 rfl) ?_
                    refine lv_aload_n hx hb dX5_node_101 rfl (lv_at hl 0 rfl) ?_
                    refine va_get (D := D) (ci := 5) (v := .ref m6) (C := RX5) (T := TX5) (N := 20) hx hb hts in_wsX5_node_X5 hown hK.1 hP 0 rfl rfl 9 (by decide) (hts _ lk362_wsX5_node) (fun _ h9 => h9) rfl dX5_node_102 ?_
                    refine lv_iload hx hb dX5_node_105 (lv_at hl 6 rfl) ?_
                    refine z_iald (v := (ab n)) hx hb hK.1 hP 3 0 rfl rfl (k := n) (by omega) (by decide) rfl dX5_node_107 ?_
                    refine lv_iload_n hx hb dX5_node_108 rfl (lv_at hl 1 rfl) ?_
                    refine lv_icmp_ne (tgt := 116) hx hb dX5_node_109 (by decide) (fun cb13 => ?_) (fun cb13 => ?_)
                    · skip
                      refine lv_iconst (v := nI 0) hx hb dX5_node_116 (by decide) ?_
                      refine lv_iadd hx hb dX5_node_117 ?_
                      refine z_top (y := nI (mc9 + 0)) (nI_add _ _) ?_
                      refine lv_istore (lv' := [(4, .int (nI (mc9 + 0))), (0, .ref M), (1, .int (nI k)), (2, .int (nI f)), (3, .int (nI t)), (5, .int (bI (A))), (6, .int (nI n))]) hx hb dX5_node_118 hl (by decide) rfl (fun ls hl => ?_)
                      refine lv_iload hx hb dX5_node_120 (lv_at hl 5 rfl) ?_
                      refine lv_if_ne (tgt := 147) hx hb dX5_node_122 (by decide) (fun cb14 => ?_) (fun cb14 => ?_)
                      · have cb14 : (A) = true := bI_f0 cb14
                        refine lv_iconst (v := nI 1) hx hb dX5_node_147 (by decide) ?_
                        refine lv_goto (tgt := 152) hx hb dX5_node_148 (by decide) ?_
                        refine lv_istore (lv' := [(5, .int (nI 1)), (4, .int (nI (mc9 + 0))), (0, .ref M), (1, .int (nI k)), (2, .int (nI f)), (3, .int (nI t)), (6, .int (nI n))]) hx hb dX5_node_152 hl (by decide) rfl (fun ls hl => ?_)
                        refine lv_iinc (v := nI (n + 1)) (lv' := [(6, .int (nI (n + 1))), (5, .int (nI 1)), (4, .int (nI (mc9 + 0))), (0, .ref M), (1, .int (nI k)), (2, .int (nI f)), (3, .int (nI t))]) hx hb dX5_node_154 hl (k := 6) rfl (z_inc _) (by decide) rfl (fun ls hl => ?_)
                        refine lv_goto (tgt := 90) hx hb dX5_node_157 (by decide) ?_
                        exact ih_lo (n + 1) (mc9 + 0) true (by omega) (by omega) (by omega) (by unfold zcnt; rw [if_neg (fun z => cb13 (of_decide_eq_true z)), ← ht9]; try rfl) (decide_eq_true ((of_decide_eq_true (hA.symm.trans cb14)).imp fun j h => ⟨by omega, h.2⟩)).symm _ _ _ hP hD hS (lv_sub hl [3, 4, 5, 6, 2, 1, 0] rfl)
                      · have cb14 : (A) = false := bI_t0 cb14
                        refine lv_aload_n hx hb dX5_node_125 rfl (lv_at hl 1 rfl) ?_
                        refine va_get (D := D) (ci := 5) (v := .ref m6) (C := RX5) (T := TX5) (N := 20) hx hb hts in_wsX5_node_X5 hown hK.1 hP 0 rfl rfl 9 (by decide) (hts _ lk362_wsX5_node) (fun _ h9 => h9) rfl dX5_node_126 ?_
                        refine lv_iload hx hb dX5_node_129 (lv_at hl 6 rfl) ?_
                        refine z_iald (v := (ab n)) hx hb hK.1 hP 3 0 rfl rfl (k := n) (by omega) (by decide) rfl dX5_node_131 ?_
                        refine lv_iload_n hx hb dX5_node_132 rfl (lv_at hl 2 rfl) ?_
                        refine lv_icmp_ne (tgt := 151) hx hb dX5_node_133 (by decide) (fun cb15 => ?_) (fun cb15 => ?_)
                        · skip
                          refine lv_iconst (v := nI 0) hx hb dX5_node_151 (by decide) ?_
                          refine lv_istore (lv' := [(5, .int (nI 0)), (4, .int (nI (mc9 + 0))), (0, .ref M), (1, .int (nI k)), (2, .int (nI f)), (3, .int (nI t)), (6, .int (nI n))]) hx hb dX5_node_152 hl (by decide) rfl (fun ls hl => ?_)
                          refine lv_iinc (v := nI (n + 1)) (lv' := [(6, .int (nI (n + 1))), (5, .int (nI 0)), (4, .int (nI (mc9 + 0))), (0, .ref M), (1, .int (nI k)), (2, .int (nI f)), (3, .int (nI t))]) hx hb dX5_node_154 hl (k := 6) rfl (z_inc _) (by decide) rfl (fun ls hl => ?_)
                          refine lv_goto (tgt := 90) hx hb dX5_node_157 (by decide) ?_
                          exact ih_lo (n + 1) (mc9 + 0) false (by omega) (by omega) (by omega) (by unfold zcnt; rw [if_neg (fun z => cb13 (of_decide_eq_true z)), ← ht9]; try rfl) (decide_eq_false (fun ⟨j, h1, h2, h3⟩ => (Nat.lt_or_ge j n).elim (fun y => of_decide_eq_false (hA.symm.trans cb14) ⟨j, y, h2, h3⟩) (fun y => by obtain rfl : j = n := (by omega); exact cb15 h2))).symm _ _ _ hP hD hS (lv_sub hl [3, 4, 5, 6, 2, 1, 0] rfl)
                        · skip
                          refine lv_aload_n hx hb dX5_node_136 rfl (lv_at hl 1 rfl) ?_
                          refine va_get (D := D) (ci := 5) (v := .ref m7) (C := RX5) (T := TX5) (N := 20) hx hb hts in_wsX5_node_X5 hown hK.1 hP 0 rfl rfl 10 (by decide) (hts _ lk363_wsX5_node) (fun _ h9 => h9) rfl dX5_node_137 ?_
                          refine lv_iload hx hb dX5_node_140 (lv_at hl 6 rfl) ?_
                          refine z_iald (v := nI (sl n % 8)) hx hb hK.1 hP 4 0 rfl rfl (k := n) (by omega) (by decide) rfl dX5_node_142 ?_
                          refine lv_iload_n hx hb dX5_node_143 rfl (lv_at hl 3 rfl) ?_
                          refine lv_icmp_ne (tgt := 151) hx hb dX5_node_144 (by decide) (fun cb16 => ?_) (fun cb16 => ?_)
                          · have cb16 : ¬ ((sl n % 8) = f) := zn_ne_f (a := (sl n % 8)) (b := f) (by omega) (by omega) cb16
                            refine lv_iconst (v := nI 0) hx hb dX5_node_151 (by decide) ?_
                            refine lv_istore (lv' := [(5, .int (nI 0)), (4, .int (nI (mc9 + 0))), (0, .ref M), (1, .int (nI k)), (2, .int (nI f)), (3, .int (nI t)), (6, .int (nI n))]) hx hb dX5_node_152 hl (by decide) rfl (fun ls hl => ?_)
                            refine lv_iinc (v := nI (n + 1)) (lv' := [(6, .int (nI (n + 1))), (5, .int (nI 0)), (4, .int (nI (mc9 + 0))), (0, .ref M), (1, .int (nI k)), (2, .int (nI f)), (3, .int (nI t))]) hx hb dX5_node_154 hl (k := 6) rfl (z_inc _) (by decide) rfl (fun ls hl => ?_)
                            refine lv_goto (tgt := 90) hx hb dX5_node_157 (by decide) ?_
                            exact ih_lo (n + 1) (mc9 + 0) false (by omega) (by omega) (by omega) (by unfold zcnt; rw [if_neg (fun z => cb13 (of_decide_eq_true z)), ← ht9]; try rfl) (decide_eq_false (fun ⟨j, h1, h2, h3⟩ => (Nat.lt_or_ge j n).elim (fun y => of_decide_eq_false (hA.symm.trans cb14) ⟨j, y, h2, h3⟩) (fun y => by obtain rfl : j = n := (by omega); exact cb16 h3))).symm _ _ _ hP hD hS (lv_sub hl [3, 4, 5, 6, 2, 1, 0] rfl)
                          · have cb16 : (sl n % 8) = f := zn_ne_t (a := (sl n % 8)) (b := f) (by omega) (by omega) cb16
                            refine lv_iconst (v := nI 1) hx hb dX5_node_147 (by decide) ?_
                            refine lv_goto (tgt := 152) hx hb dX5_node_148 (by decide) ?_
                            refine lv_istore (lv' := [(5, .int (nI 1)), (4, .int (nI (mc9 + 0))), (0, .ref M), (1, .int (nI k)), (2, .int (nI f)), (3, .int (nI t)), (6, .int (nI n))]) hx hb dX5_node_152 hl (by decide) rfl (fun ls hl => ?_)
                            refine lv_iinc (v := nI (n + 1)) (lv' := [(6, .int (nI (n + 1))), (5, .int (nI 1)), (4, .int (nI (mc9 + 0))), (0, .ref M), (1, .int (nI k)), (2, .int (nI f)), (3, .int (nI t))]) hx hb dX5_node_154 hl (k := 6) rfl (z_inc _) (by decide) rfl (fun ls hl => ?_)
                            refine lv_goto (tgt := 90) hx hb dX5_node_157 (by decide) ?_
                            exact ih_lo (n + 1) (mc9 + 0) true (by omega) (by omega) (by omega) (by unfold zcnt; rw [if_neg (fun z => cb13 (of_decide_eq_true z)), ← ht9]; try rfl) (decide_eq_true ⟨n, by omega, cb15, cb16⟩).symm _ _ _ hP hD hS (lv_sub hl [3, 4, 5, 6, 2, 1, 0] rfl)
                    · skip
                      refine lv_iconst (v := nI 1) hx hb dX5_node_112 (by decide) ?_
                      refine lv_goto (tgt := 117) hx hb dX5_node_113 (by decide) ?_
                      refine lv_iadd hx hb dX5_node_117 ?_
                      refine z_top (y := nI (mc9 + 1)) (nI_add _ _) ?_
                      refine lv_istore (lv' := [(4, .int (nI (mc9 + 1))), (0, .ref M), (1, .int (nI k)), (2, .int (nI f)), (3, .int (nI t)), (5, .int (bI (A))), (6, .int (nI n))]) hx hb dX5_node_118 hl (by decide) rfl (fun ls hl => ?_)
                      refine lv_iload hx hb dX5_node_120 (lv_at hl 5 rfl) ?_
                      refine lv_if_ne (tgt := 147) hx hb dX5_node_122 (by decide) (fun cb17 => ?_) (fun cb17 => ?_)
                      · have cb17 : (A) = true := bI_f0 cb17
                        refine lv_iconst (v := nI 1) hx hb dX5_node_147 (by decide) ?_
                        refine lv_goto (tgt := 152) hx hb dX5_node_148 (by decide) ?_
                        refine lv_istore (lv' := [(5, .int (nI 1)), (4, .int (nI (mc9 + 1))), (0, .ref M), (1, .int (nI k)), (2, .int (nI f)), (3, .int (nI t)), (6, .int (nI n))]) hx hb dX5_node_152 hl (by decide) rfl (fun ls hl => ?_)
                        refine lv_iinc (v := nI (n + 1)) (lv' := [(6, .int (nI (n + 1))), (5, .int (nI 1)), (4, .int (nI (mc9 + 1))), (0, .ref M), (1, .int (nI k)), (2, .int (nI f)), (3, .int (nI t))]) hx hb dX5_node_154 hl (k := 6) rfl (z_inc _) (by decide) rfl (fun ls hl => ?_)
                        refine lv_goto (tgt := 90) hx hb dX5_node_157 (by decide) ?_
                        exact ih_lo (n + 1) (mc9 + 1) true (by omega) (by omega) (by omega) (by unfold zcnt; rw [if_pos (decide_eq_true cb13), ← ht9]) (decide_eq_true ((of_decide_eq_true (hA.symm.trans cb17)).imp fun j h => ⟨by omega, h.2⟩)).symm _ _ _ hP hD hS (lv_sub hl [3, 4, 5, 6, 2, 1, 0] rfl)
                      · have cb17 : (A) = false := bI_t0 cb17
                        refine lv_aload_n hx hb dX5_node_125 rfl (lv_at hl 1 rfl) ?_
                        refine va_get (D := D) (ci := 5) (v := .ref m6) (C := RX5) (T := TX5) (N := 20) hx hb hts in_wsX5_node_X5 hown hK.1 hP 0 rfl rfl 9 (by decide) (hts _ lk362_wsX5_node) (fun _ h9 => h9) rfl dX5_node_126 ?_
                        refine lv_iload hx hb dX5_node_129 (lv_at hl 6 rfl) ?_
                        refine z_iald (v := (ab n)) hx hb hK.1 hP 3 0 rfl rfl (k := n) (by omega) (by decide) rfl dX5_node_131 ?_
                        refine lv_iload_n hx hb dX5_node_132 rfl (lv_at hl 2 rfl) ?_
                        refine lv_icmp_ne (tgt := 151) hx hb dX5_node_133 (by decide) (fun cb18 => ?_) (fun cb18 => ?_)
                        · skip
                          refine lv_iconst (v := nI 0) hx hb dX5_node_151 (by decide) ?_
                          refine lv_istore (lv' := [(5, .int (nI 0)), (4, .int (nI (mc9 + 1))), (0, .ref M), (1, .int (nI k)), (2, .int (nI f)), (3, .int (nI t)), (6, .int (nI n))]) hx hb dX5_node_152 hl (by decide) rfl (fun ls hl => ?_)
                          refine lv_iinc (v := nI (n + 1)) (lv' := [(6, .int (nI (n + 1))), (5, .int (nI 0)), (4, .int (nI (mc9 + 1))), (0, .ref M), (1, .int (nI k)), (2, .int (nI f)), (3, .int (nI t))]) hx hb dX5_node_154 hl (k := 6) rfl (z_inc _) (by decide) rfl (fun ls hl => ?_)
                          refine lv_goto (tgt := 90) hx hb dX5_node_157 (by decide) ?_
                          exact ih_lo (n + 1) (mc9 + 1) false (by omega) (by omega) (by omega) (by unfold zcnt; rw [if_pos (decide_eq_true cb13), ← ht9]) (decide_eq_false (fun ⟨j, h1, h2, h3⟩ => (Nat.lt_or_ge j n).elim (fun y => of_decide_eq_false (hA.symm.trans cb17) ⟨j, y, h2, h3⟩) (fun y => by obtain rfl : j = n := (by omega); exact cb18 h2))).symm _ _ _ hP hD hS (lv_sub hl [3, 4, 5, 6, 2, 1, 0] rfl)
                        · skip
                          refine lv_aload_n hx hb dX5_node_136 rfl (lv_at hl 1 rfl) ?_
                          refine va_get (D := D) (ci := 5) (v := .ref m7) (C := RX5) (T := TX5) (N := 20) hx hb hts in_wsX5_node_X5 hown hK.1 hP 0 rfl rfl 10 (by decide) (hts _ lk363_wsX5_node) (fun _ h9 => h9) rfl dX5_node_137 ?_
                          refine lv_iload hx hb dX5_node_140 (lv_at hl 6 rfl) ?_
                          refine z_iald (v := nI (sl n % 8)) hx hb hK.1 hP 4 0 rfl rfl (k := n) (by omega) (by decide) rfl dX5_node_142 ?_
                          refine lv_iload_n hx hb dX5_node_143 rfl (lv_at hl 3 rfl) ?_
                          refine lv_icmp_ne (tgt := 151) hx hb dX5_node_144 (by decide) (fun cb19 => ?_) (fun cb19 => ?_)
                          · have cb19 : ¬ ((sl n % 8) = f) := zn_ne_f (a := (sl n % 8)) (b := f) (by omega) (by omega) cb19
                            refine lv_iconst (v := nI 0) hx hb dX5_node_151 (by decide) ?_
                            refine lv_istore (lv' := [(5, .int (nI 0)), (4, .int (nI (mc9 + 1))), (0, .ref M), (1, .int (nI k)), (2, .int (nI f)), (3, .int (nI t)), (6, .int (nI n))]) hx hb dX5_node_152 hl (by decide) rfl (fun ls hl => ?_)
                            refine lv_iinc (v := nI (n + 1)) (lv' := [(6, .int (nI (n + 1))), (5, .int (nI 0)), (4, .int (nI (mc9 + 1))), (0, .ref M), (1, .int (nI k)), (2, .int (nI f)), (3, .int (nI t))]) hx hb dX5_node_154 hl (k := 6) rfl (z_inc _) (by decide) rfl (fun ls hl => ?_)
                            refine lv_goto (tgt := 90) hx hb dX5_node_157 (by decide) ?_
                            exact ih_lo (n + 1) (mc9 + 1) false (by omega) (by omega) (by omega) (by unfold zcnt; rw [if_pos (decide_eq_true cb13), ← ht9]) (decide_eq_false (fun ⟨j, h1, h2, h3⟩ => (Nat.lt_or_ge j n).elim (fun y => of_decide_eq_false (hA.symm.trans cb17) ⟨j, y, h2, h3⟩) (fun y => by obtain rfl : j = n := (by omega); exact cb19 h3))).symm _ _ _ hP hD hS (lv_sub hl [3, 4, 5, 6, 2, 1, 0] rfl)
                          · have cb19 : (sl n % 8) = f := zn_ne_t (a := (sl n % 8)) (b := f) (by omega) (by omega) cb19
                            refine lv_iconst (v := nI 1) hx hb dX5_node_147 (by decide) ?_
                            refine lv_goto (tgt := 152) hx hb dX5_node_148 (by decide) ?_
                            refine lv_istore (lv' := [(5, .int (nI 1)), (4, .int (nI (mc9 + 1))), (0, .ref M), (1, .int (nI k)), (2, .int (nI f)), (3, .int (nI t)), (6, .int (nI n))]) hx hb dX5_node_152 hl (by decide) rfl (fun ls hl => ?_)
                            refine lv_iinc (v := nI (n + 1)) (lv' := [(6, .int (nI (n + 1))), (5, .int (nI 1)), (4, .int (nI (mc9 + 1))), (0, .ref M), (1, .int (nI k)), (2, .int (nI f)), (3, .int (nI t))]) hx hb dX5_node_154 hl (k := 6) rfl (z_inc _) (by decide) rfl (fun ls hl => ?_)
                            refine lv_goto (tgt := 90) hx hb dX5_node_157 (by decide) ?_
                            exact ih_lo (n + 1) (mc9 + 1) true (by omega) (by omega) (by omega) (by unfold zcnt; rw [if_pos (decide_eq_true cb13), ← ht9]) (decide_eq_true ⟨n, by omega, cb18, cb19⟩).symm _ _ _ hP hD hS (lv_sub hl [3, 4, 5, 6, 2, 1, 0] rfl)
              exact lo (nn + 1) 0 0 false (by omega) (by omega) (by omega) rfl (decide_eq_false (fun ⟨j, h1, _⟩ => absurd h1 (by omega))).symm _ _ _ hP hD hS (lv_sub hl [4, 5, 6, 3, 2, 1, 0] rfl)
          · skip
            exact absurd cb5 (nI_m1 (by omega))
        · skip
          exact absurd cb4 (nI_m1 (by omega))
      · have cb3 : ¬ (0 ≤ 0) := zn_le_f (a := 0) (b := 0) (by omega) (by omega) cb3
        exact absurd cb3 (by decide)
set_option maxHeartbeats 4000000 in
set_option maxRecDepth 100000 in
theorem c_X5_node_badR_at {l : Launch} {D : va_G} {cy : zCy} {M m1 m2 m3 m4 m5 m6 m7 m8 m9 m10 m11 m12 m13 m14 m15 nn qt fl : Nat} {thr mam : Int32} {fc sl : Nat → Nat} {lm ab : Nat → Int32} (hn : nn ≤ 12) {t : Nat} (ht : t < 4) {k : Nat} (hk : k < nn) (hs32 : sl k < 32) (hlt : lm (sl k) = nI t) (hf8 : fc t ≤ 8) (hty : ∀ j, j < nn → ab j = (nI k) → sl j / 8 = t) (hc4 : zcnt (fun j => decide (ab j = (nI k))) nn ≤ 4) {f : Nat} (hf : f < fc t) (hrm : ¬ ((∀ j, j < nn → ¬ (ab j = (nI k) ∧ sl j = t * 8 + f)) ∧ nn < 12 ∧ zcnt (fun j => decide (ab j = (nI k))) nn < 4)) : zW (Unit) l yX5_node wsX5_node rmX5_node D cy [(M, .inr (5, [.int thr, .ref m1, .ref m2, .ref m3, .ref m4, .ref m5, .int (nI fl), .int (nI qt), .int (nI nn), .ref m6, .ref m7, .ref m8, .ref m9, .ref m10, .ref m11, .ref m12, .ref m13, .ref m14, .ref m15, .int mam])), (m1, .inl (cy.1, 4, .inl (fun z => nI (fc z)))), (m2, .inl (cy.1, 32, .inl lm)), (m6, .inl (cy.1, 12, .inl ab)), (m7, .inl (cy.1, 12, .inl (fun z => nI (sl z % 8)))), (m8, .inl (cy.1, 12, .inl (fun z => nI (sl z / 8))))] [.ref M, .int (nI k), .int (nI f)] (fun _ _ => True) (fun _ => [(M, .inr (5, [.int (nI 2), .ref m1, .ref m2, .ref m3, .ref m4, .ref m5, .int (nI fl), .int (nI qt), .int (nI nn), .ref m6, .ref m7, .ref m8, .ref m9, .ref m10, .ref m11, .ref m12, .ref m13, .ref m14, .ref m15, .int mam])), (m1, .inl (cy.1, 4, .inl (fun z => nI (fc z)))), (m2, .inl (cy.1, 32, .inl lm)), (m6, .inl (cy.1, 12, .inl ab)), (m7, .inl (cy.1, 12, .inl (fun z => nI (sl z % 8)))), (m8, .inl (cy.1, 12, .inl (fun z => nI (sl z / 8))))]) := by
  refine zW.of (cc := cX5_node) (maxL := 7) (ret := (some .int)) (by decide) rfl rfl ?_
  intro p e s m below meth c ls C hP hK hD hl
  obtain ⟨hx, hb, hr, hml, hts, hown, hlocks⟩ := C
  have hS : va_S (zIn [(M, .inr (5, [.int thr, .ref m1, .ref m2, .ref m3, .ref m4, .ref m5, .int (nI fl), .int (nI qt), .int (nI nn), .ref m6, .ref m7, .ref m8, .ref m9, .ref m10, .ref m11, .ref m12, .ref m13, .ref m14, .ref m15, .int mam])), (m1, .inl (cy.1, 4, .inl (fun z => nI (fc z)))), (m2, .inl (cy.1, 32, .inl lm)), (m6, .inl (cy.1, 12, .inl ab)), (m7, .inl (cy.1, 12, .inl (fun z => nI (sl z % 8)))), (m8, .inl (cy.1, 12, .inl (fun z => nI (sl z / 8))))]) s.heap s.heap [] := va_S.rf
  have hl : lv_has ls 7 [(0, .ref M), (1, .int (nI k)), (2, .int (nI f))] := hl
  refine lv_aload_n hx hb dX5_node_0 rfl (lv_at hl 0 rfl) ?_
  refine lv_iload_n hx hb dX5_node_1 rfl (lv_at hl 1 rfl) ?_
  refine lv_iconst (v := (-1 : Int32)) hx hb dX5_node_2 (by decide) ?_
  refine lv_icmp_eq (tgt := 14) hx hb dX5_node_3 (by decide) (fun cb1 => ?_) (fun cb1 => ?_)
  · skip
    exact absurd cb1 (nI_m1 (by omega))
  · skip
    refine lv_aload_n hx hb dX5_node_6 rfl (lv_at hl 0 rfl) ?_
    refine lv_iload_n hx hb dX5_node_7 rfl (lv_at hl 1 rfl) ?_
    refine z_callV (b := M) (As := [.int (nI k)]) (rest := [.ref M]) ⟨hx, hb, hml, hown, hts⟩ hK hP hS (c_X5_isNode (i := 0) rfl hn (x := nI k)) (cwV 1 hts gX5_node_X5_isNode rfl rfl rfl k_yX5_isNode ⟨Nat.le_of_ble_eq_true rfl, Nat.le_of_ble_eq_true rfl⟩) 0 5 rfl rfl rfl rfl hl.1 rfl rfl dX5_node_8 ⟨Nat.le_of_ble_eq_true rfl, Nat.le_of_ble_eq_true rfl⟩ (fun H locs hP hS => ?_)
    refine z_top (y := nI 1) (bI_in (by omega) (by omega)) ?_
    refine lv_if_eq (tgt := 18) hx hb dX5_node_11 (by decide) (fun cb2 => ?_) (fun cb2 => ?_)
    · have cb2 : 1 = 0 := zn_eq_t (a := 1) (b := 0) (by omega) (by omega) cb2
      exact absurd cb2 (by decide)
    · have cb2 : ¬ (1 = 0) := zn_eq_f (a := 1) (b := 0) (by omega) (by omega) cb2
      refine lv_iconst (v := nI 0) hx hb dX5_node_14 (by decide) ?_
      refine lv_goto (tgt := 19) hx hb dX5_node_15 (by decide) ?_
      refine va_put (D := D) (ci := 5) (v := .int (nI 0)) (ty := .int) (C := RX5) (T := TX5) (N := 20) hx hb hts in_wsX5_node_X5 tyX5 tyX5_ok nmX5 hown hK.1 hP hD hS 0 rfl rfl 0 (by decide) (hts _ lk358_wsX5_node) (fun _ h9 => h9) rfl (by decide +kernel) rfl rfl (Nat.le_of_ble_eq_true rfl) dX5_node_19 (fun H locs hP hD hS => ?_)
      have hP : va_P D vwCl [(M, .inr (5, [.int (nI 0), .ref m1, .ref m2, .ref m3, .ref m4, .ref m5, .int (nI fl), .int (nI qt), .int (nI nn), .ref m6, .ref m7, .ref m8, .ref m9, .ref m10, .ref m11, .ref m12, .ref m13, .ref m14, .ref m15, .int mam])), (m1, .inl (cy.1, 4, .inl (fun z => nI (fc z)))), (m2, .inl (cy.1, 32, .inl lm)), (m6, .inl (cy.1, 12, .inl ab)), (m7, .inl (cy.1, 12, .inl (fun z => nI (sl z % 8)))), (m8, .inl (cy.1, 12, .inl (fun z => nI (sl z / 8))))] H := hP
      have hD : va_D (zIn [(M, .inr (5, [.int thr, .ref m1, .ref m2, .ref m3, .ref m4, .ref m5, .int (nI fl), .int (nI qt), .int (nI nn), .ref m6, .ref m7, .ref m8, .ref m9, .ref m10, .ref m11, .ref m12, .ref m13, .ref m14, .ref m15, .int mam])), (m1, .inl (cy.1, 4, .inl (fun z => nI (fc z)))), (m2, .inl (cy.1, 32, .inl lm)), (m6, .inl (cy.1, 12, .inl ab)), (m7, .inl (cy.1, 12, .inl (fun z => nI (sl z % 8)))), (m8, .inl (cy.1, 12, .inl (fun z => nI (sl z / 8))))]) [(M, .inr (5, [.int (nI 0), .ref m1, .ref m2, .ref m3, .ref m4, .ref m5, .int (nI fl), .int (nI qt), .int (nI nn), .ref m6, .ref m7, .ref m8, .ref m9, .ref m10, .ref m11, .ref m12, .ref m13, .ref m14, .ref m15, .int mam])), (m1, .inl (cy.1, 4, .inl (fun z => nI (fc z)))), (m2, .inl (cy.1, 32, .inl lm)), (m6, .inl (cy.1, 12, .inl ab)), (m7, .inl (cy.1, 12, .inl (fun z => nI (sl z % 8)))), (m8, .inl (cy.1, 12, .inl (fun z => nI (sl z / 8))))] := hD
      refine lv_aload_n hx hb dX5_node_22 rfl (lv_at hl 0 rfl) ?_
      refine va_get (D := D) (ci := 5) (v := .int (nI 0)) (C := RX5) (T := TX5) (N := 20) hx hb hts in_wsX5_node_X5 hown hK.1 hP 0 rfl rfl 0 (by decide) (hts _ lk358_wsX5_node) (fun _ h9 => h9) rfl dX5_node_23 ?_
      refine lv_if_le (tgt := 31) hx hb dX5_node_26 (by decide) (fun cb3 => ?_) (fun cb3 => ?_)
      · have cb3 : 0 ≤ 0 := zn_le_t (a := 0) (b := 0) (by omega) (by omega) cb3
        refine lv_iload_n hx hb dX5_node_31 rfl (lv_at hl 1 rfl) ?_
        refine lv_iconst (v := (-1 : Int32)) hx hb dX5_node_32 (by decide) ?_
        refine lv_icmp_ne (tgt := 43) hx hb dX5_node_33 (by decide) (fun cb4 => ?_) (fun cb4 => ?_)
        · skip
          refine lv_aload_n hx hb dX5_node_43 rfl (lv_at hl 0 rfl) ?_
          refine va_get (D := D) (ci := 5) (v := .ref m2) (C := RX5) (T := TX5) (N := 20) hx hb hts in_wsX5_node_X5 hown hK.1 hP 0 rfl rfl 2 (by decide) (hts _ lk365_wsX5_node) (fun _ h9 => h9) rfl dX5_node_44 ?_
          refine lv_aload_n hx hb dX5_node_47 rfl (lv_at hl 0 rfl) ?_
          refine lv_iload_n hx hb dX5_node_48 rfl (lv_at hl 1 rfl) ?_
          refine z_callV (b := M) (As := [.int (nI k)]) (rest := [.ref m2]) ⟨hx, hb, hml, hown, hts⟩ hK hP hS (c_X5_fieldOf (i := 0) (j1 := 5) (j2 := 4) rfl rfl rfl (k := k) (by omega)) (cwV 1 hts gX5_node_X5_fieldOf rfl rfl rfl k_yX5_fieldOf ⟨Nat.le_of_ble_eq_true rfl, Nat.le_of_ble_eq_true rfl⟩) 0 5 rfl rfl rfl rfl hl.1 rfl rfl dX5_node_49 ⟨Nat.le_of_ble_eq_true rfl, Nat.le_of_ble_eq_true rfl⟩ (fun H locs hP hS => ?_)
          refine z_iald (v := nI t) hx hb hK.1 hP 2 0 rfl rfl (k := sl k) (by omega) (by decide) hlt dX5_node_52 ?_
          refine lv_istore_n (lv' := [(3, .int (nI t)), (0, .ref M), (1, .int (nI k)), (2, .int (nI f))]) hx hb dX5_node_53 rfl hl (by decide) rfl (fun ls hl => ?_)
          refine lv_aload_n hx hb dX5_node_54 rfl (lv_at hl 1 rfl) ?_
          refine lv_iload_n hx hb dX5_node_55 rfl (lv_at hl 0 rfl) ?_
          refine lv_iconst (v := (-1 : Int32)) hx hb dX5_node_56 (by decide) ?_
          refine lv_icmp_ne (tgt := 64) hx hb dX5_node_57 (by decide) (fun cb5 => ?_) (fun cb5 => ?_)
          · skip
            refine lv_aload_n hx hb dX5_node_64 rfl (lv_at hl 1 rfl) ?_
            refine lv_iload_n hx hb dX5_node_65 rfl (lv_at hl 0 rfl) ?_
            refine lv_iload_n hx hb dX5_node_66 rfl (lv_at hl 3 rfl) ?_
            refine z_callV (b := M) (As := [.int (nI t), .int (nI f)]) (rest := [.ref M]) ⟨hx, hb, hml, hown, hts⟩ hK hP hS (c_X5_isField (i := 0) (j1 := 1) rfl rfl (t := t) (by omega) hf8 (x := nI f)) (cwV 2 hts gX5_node_X5_isField rfl rfl rfl k_yX5_isField ⟨Nat.le_of_ble_eq_true rfl, Nat.le_of_ble_eq_true rfl⟩) 0 5 rfl rfl rfl rfl hl.1 rfl rfl dX5_node_67 ⟨Nat.le_of_ble_eq_true rfl, Nat.le_of_ble_eq_true rfl⟩ (fun H locs hP hS => ?_)
            refine z_top (y := nI 1) (bI_in (by omega) (by omega)) ?_
            refine lv_if_eq (tgt := 77) hx hb dX5_node_70 (by decide) (fun cb6 => ?_) (fun cb6 => ?_)
            · have cb6 : 1 = 0 := zn_eq_t (a := 1) (b := 0) (by omega) (by omega) cb6
              exact absurd cb6 (by decide)
            · have cb6 : ¬ (1 = 0) := zn_eq_f (a := 1) (b := 0) (by omega) (by omega) cb6
              refine lv_iconst (v := nI 0) hx hb dX5_node_73 (by decide) ?_
              refine lv_goto (tgt := 78) hx hb dX5_node_74 (by decide) ?_
              refine va_put (D := D) (ci := 5) (v := .int (nI 0)) (ty := .int) (C := RX5) (T := TX5) (N := 20) hx hb hts in_wsX5_node_X5 tyX5 tyX5_ok nmX5 hown hK.1 hP hD hS 0 rfl rfl 0 (by decide) (hts _ lk358_wsX5_node) (fun _ h9 => h9) rfl (by decide +kernel) rfl rfl (Nat.le_of_ble_eq_true rfl) dX5_node_78 (fun H locs hP hD hS => ?_)
              have hP : va_P D vwCl [(M, .inr (5, [.int (nI 0), .ref m1, .ref m2, .ref m3, .ref m4, .ref m5, .int (nI fl), .int (nI qt), .int (nI nn), .ref m6, .ref m7, .ref m8, .ref m9, .ref m10, .ref m11, .ref m12, .ref m13, .ref m14, .ref m15, .int mam])), (m1, .inl (cy.1, 4, .inl (fun z => nI (fc z)))), (m2, .inl (cy.1, 32, .inl lm)), (m6, .inl (cy.1, 12, .inl ab)), (m7, .inl (cy.1, 12, .inl (fun z => nI (sl z % 8)))), (m8, .inl (cy.1, 12, .inl (fun z => nI (sl z / 8))))] H := hP
              have hD : va_D (zIn [(M, .inr (5, [.int thr, .ref m1, .ref m2, .ref m3, .ref m4, .ref m5, .int (nI fl), .int (nI qt), .int (nI nn), .ref m6, .ref m7, .ref m8, .ref m9, .ref m10, .ref m11, .ref m12, .ref m13, .ref m14, .ref m15, .int mam])), (m1, .inl (cy.1, 4, .inl (fun z => nI (fc z)))), (m2, .inl (cy.1, 32, .inl lm)), (m6, .inl (cy.1, 12, .inl ab)), (m7, .inl (cy.1, 12, .inl (fun z => nI (sl z % 8)))), (m8, .inl (cy.1, 12, .inl (fun z => nI (sl z / 8))))]) [(M, .inr (5, [.int (nI 0), .ref m1, .ref m2, .ref m3, .ref m4, .ref m5, .int (nI fl), .int (nI qt), .int (nI nn), .ref m6, .ref m7, .ref m8, .ref m9, .ref m10, .ref m11, .ref m12, .ref m13, .ref m14, .ref m15, .int mam])), (m1, .inl (cy.1, 4, .inl (fun z => nI (fc z)))), (m2, .inl (cy.1, 32, .inl lm)), (m6, .inl (cy.1, 12, .inl ab)), (m7, .inl (cy.1, 12, .inl (fun z => nI (sl z % 8)))), (m8, .inl (cy.1, 12, .inl (fun z => nI (sl z / 8))))] := hD
              refine lv_iconst (v := nI 0) hx hb dX5_node_81 (by decide) ?_
              refine lv_istore (lv' := [(4, .int (nI 0)), (3, .int (nI t)), (0, .ref M), (1, .int (nI k)), (2, .int (nI f))]) hx hb dX5_node_82 hl (by decide) rfl (fun ls hl => ?_)
              refine lv_iconst (v := nI 0) hx hb dX5_node_84 (by decide) ?_
              refine lv_istore (lv' := [(5, .int (nI 0)), (4, .int (nI 0)), (3, .int (nI t)), (0, .ref M), (1, .int (nI k)), (2, .int (nI f))]) hx hb dX5_node_85 hl (by decide) rfl (fun ls hl => ?_)
              refine lv_iconst (v := nI 0) hx hb dX5_node_87 (by decide) ?_
              refine lv_istore (lv' := [(6, .int (nI 0)), (5, .int (nI 0)), (4, .int (nI 0)), (3, .int (nI t)), (0, .ref M), (1, .int (nI k)), (2, .int (nI f))]) hx hb dX5_node_88 hl (by decide) rfl (fun ls hl => ?_)
              have lo : ∀ (fuel : Nat) (n mc9 : Nat) (A : Bool), nn + 1 ≤ n + fuel → n ≤ nn → mc9 ≤ n → (mc9 = zcnt (fun j => decide (ab j = (nI k))) n) → (A = decide (∃ j, j < n ∧ ab j = (nI k) ∧ sl j % 8 = f)) → ∀ (H : Heap) (locs : List Loc) (ls : Array Slot), va_P D vwCl [(M, .inr (5, [.int (nI 0), .ref m1, .ref m2, .ref m3, .ref m4, .ref m5, .int (nI fl), .int (nI qt), .int (nI nn), .ref m6, .ref m7, .ref m8, .ref m9, .ref m10, .ref m11, .ref m12, .ref m13, .ref m14, .ref m15, .int mam])), (m1, .inl (cy.1, 4, .inl (fun z => nI (fc z)))), (m2, .inl (cy.1, 32, .inl lm)), (m6, .inl (cy.1, 12, .inl ab)), (m7, .inl (cy.1, 12, .inl (fun z => nI (sl z % 8)))), (m8, .inl (cy.1, 12, .inl (fun z => nI (sl z / 8))))] H → va_D (zIn [(M, .inr (5, [.int thr, .ref m1, .ref m2, .ref m3, .ref m4, .ref m5, .int (nI fl), .int (nI qt), .int (nI nn), .ref m6, .ref m7, .ref m8, .ref m9, .ref m10, .ref m11, .ref m12, .ref m13, .ref m14, .ref m15, .int mam])), (m1, .inl (cy.1, 4, .inl (fun z => nI (fc z)))), (m2, .inl (cy.1, 32, .inl lm)), (m6, .inl (cy.1, 12, .inl ab)), (m7, .inl (cy.1, 12, .inl (fun z => nI (sl z % 8)))), (m8, .inl (cy.1, 12, .inl (fun z => nI (sl z / 8))))]) [(M, .inr (5, [.int (nI 0), .ref m1, .ref m2, .ref m3, .ref m4, .ref m5, .int (nI fl), .int (nI qt), .int (nI nn), .ref m6, .ref m7, .ref m8, .ref m9, .ref m10, .ref m11, .ref m12, .ref m13, .ref m14, .ref m15, .int mam])), (m1, .inl (cy.1, 4, .inl (fun z => nI (fc z)))), (m2, .inl (cy.1, 32, .inl lm)), (m6, .inl (cy.1, 12, .inl ab)), (m7, .inl (cy.1, 12, .inl (fun z => nI (sl z % 8)))), (m8, .inl (cy.1, 12, .inl (fun z => nI (sl z / 8))))] → va_S (zIn [(M, .inr (5, [.int thr, .ref m1, .ref m2, .ref m3, .ref m4, .ref m5, .int (nI fl), .int (nI qt), .int (nI nn), .ref m6, .ref m7, .ref m8, .ref m9, .ref m10, .ref m11, .ref m12, .ref m13, .ref m14, .ref m15, .int mam])), (m1, .inl (cy.1, 4, .inl (fun z => nI (fc z)))), (m2, .inl (cy.1, 32, .inl lm)), (m6, .inl (cy.1, 12, .inl ab)), (m7, .inl (cy.1, 12, .inl (fun z => nI (sl z % 8)))), (m8, .inl (cy.1, 12, .inl (fun z => nI (sl z / 8))))]) s.heap H locs → lv_has ls 7 [(0, .ref M), (1, .int (nI k)), (2, .int (nI f)), (3, .int (nI t)), (4, .int (nI mc9)), (5, .int (bI (A))), (6, .int (nI n))] → W p l e rmX5_node s m [.ref M, .int (nI k), .int (nI f)].toArray below meth c H locs 0 0 (zWQ (Unit) D below [.ref M, .int (nI k), .int (nI f)].toArray s [(M, .inr (5, [.int thr, .ref m1, .ref m2, .ref m3, .ref m4, .ref m5, .int (nI fl), .int (nI qt), .int (nI nn), .ref m6, .ref m7, .ref m8, .ref m9, .ref m10, .ref m11, .ref m12, .ref m13, .ref m14, .ref m15, .int mam])), (m1, .inl (cy.1, 4, .inl (fun z => nI (fc z)))), (m2, .inl (cy.1, 32, .inl lm)), (m6, .inl (cy.1, 12, .inl ab)), (m7, .inl (cy.1, 12, .inl (fun z => nI (sl z % 8)))), (m8, .inl (cy.1, 12, .inl (fun z => nI (sl z / 8))))] (fun _ _ => True) (fun _ => [(M, .inr (5, [.int (nI 2), .ref m1, .ref m2, .ref m3, .ref m4, .ref m5, .int (nI fl), .int (nI qt), .int (nI nn), .ref m6, .ref m7, .ref m8, .ref m9, .ref m10, .ref m11, .ref m12, .ref m13, .ref m14, .ref m15, .int mam])), (m1, .inl (cy.1, 4, .inl (fun z => nI (fc z)))), (m2, .inl (cy.1, 32, .inl lm)), (m6, .inl (cy.1, 12, .inl ab)), (m7, .inl (cy.1, 12, .inl (fun z => nI (sl z % 8)))), (m8, .inl (cy.1, 12, .inl (fun z => nI (sl z / 8))))])) (F0 m 90 ls []) := by
                intro fuel
                induction fuel with
                | zero => intro n mc9 A hfu hi hm ht9 hA; exact absurd hfu (by omega)
                | succ fuel ih_lo =>
                  intro n mc9 A hfu hi hm ht9 hA H locs ls hP hD hS hl
                  refine lv_iload hx hb dX5_node_90 (lv_at hl 6 rfl) ?_
                  refine lv_aload_n hx hb dX5_node_92 rfl (lv_at hl 0 rfl) ?_
                  refine va_get (D := D) (ci := 5) (v := .int (nI nn)) (C := RX5) (T := TX5) (N := 20) hx hb hts in_wsX5_node_X5 hown hK.1 hP 0 rfl rfl 8 (by decide) (hts _ lk361_wsX5_node) (fun _ h9 => h9) rfl dX5_node_93 ?_
                  refine lv_icmp_ge (tgt := 160) hx hb dX5_node_96 (by decide) (fun cb7 => ?_) (fun cb7 => ?_)
                  · have cb7 : nn ≤ n := zn_ge_t (a := n) (b := nn) (by omega) (by omega) cb7
                    refine lv_aload_n hx hb dX5_node_160 rfl (lv_at hl 0 rfl) ?_
                    refine va_get (D := D) (ci := 5) (v := .int (nI 0)) (C := RX5) (T := TX5) (N := 20) hx hb hts in_wsX5_node_X5 hown hK.1 hP 0 rfl rfl 0 (by decide) (hts _ lk358_wsX5_node) (fun _ h9 => h9) rfl dX5_node_161 ?_
                    refine lv_if_ne (tgt := 192) hx hb dX5_node_164 (by decide) (fun cb8 => ?_) (fun cb8 => ?_)
                    · have cb8 : ¬ (0 = 0) := zn_ne_f (a := 0) (b := 0) (by omega) (by omega) cb8
                      exact absurd cb8 (by decide)
                    · have cb8 : 0 = 0 := zn_ne_t (a := 0) (b := 0) (by omega) (by omega) cb8
                      refine lv_aload_n hx hb dX5_node_167 rfl (lv_at hl 0 rfl) ?_
                      refine va_get (D := D) (ci := 5) (v := .int (nI nn)) (C := RX5) (T := TX5) (N := 20) hx hb hts in_wsX5_node_X5 hown hK.1 hP 0 rfl rfl 8 (by decide) (hts _ lk361_wsX5_node) (fun _ h9 => h9) rfl dX5_node_168 ?_
                      refine lv_bipush (v := nI 12) hx hb dX5_node_171 (by decide) ?_
                      refine lv_icmp_eq (tgt := 187) hx hb dX5_node_173 (by decide) (fun cb9 => ?_) (fun cb9 => ?_)
                      · have cb9 : nn = 12 := zn_eq_t (a := nn) (b := 12) (by omega) (by omega) cb9
                        refine lv_aload_n hx hb dX5_node_187 rfl (lv_at hl 0 rfl) ?_
                        refine lv_iconst (v := nI 2) hx hb dX5_node_188 (by decide) ?_
                        refine va_put (D := D) (ci := 5) (v := .int (nI 2)) (ty := .int) (C := RX5) (T := TX5) (N := 20) hx hb hts in_wsX5_node_X5 tyX5 tyX5_ok nmX5 hown hK.1 hP hD hS 0 rfl rfl 0 (by decide) (hts _ lk358_wsX5_node) (fun _ h9 => h9) rfl (by decide +kernel) rfl rfl (Nat.le_of_ble_eq_true rfl) dX5_node_189 (fun H locs hP hD hS => ?_)
                        have hP : va_P D vwCl [(M, .inr (5, [.int (nI 2), .ref m1, .ref m2, .ref m3, .ref m4, .ref m5, .int (nI fl), .int (nI qt), .int (nI nn), .ref m6, .ref m7, .ref m8, .ref m9, .ref m10, .ref m11, .ref m12, .ref m13, .ref m14, .ref m15, .int mam])), (m1, .inl (cy.1, 4, .inl (fun z => nI (fc z)))), (m2, .inl (cy.1, 32, .inl lm)), (m6, .inl (cy.1, 12, .inl ab)), (m7, .inl (cy.1, 12, .inl (fun z => nI (sl z % 8)))), (m8, .inl (cy.1, 12, .inl (fun z => nI (sl z / 8))))] H := hP
                        have hD : va_D (zIn [(M, .inr (5, [.int thr, .ref m1, .ref m2, .ref m3, .ref m4, .ref m5, .int (nI fl), .int (nI qt), .int (nI nn), .ref m6, .ref m7, .ref m8, .ref m9, .ref m10, .ref m11, .ref m12, .ref m13, .ref m14, .ref m15, .int mam])), (m1, .inl (cy.1, 4, .inl (fun z => nI (fc z)))), (m2, .inl (cy.1, 32, .inl lm)), (m6, .inl (cy.1, 12, .inl ab)), (m7, .inl (cy.1, 12, .inl (fun z => nI (sl z % 8)))), (m8, .inl (cy.1, 12, .inl (fun z => nI (sl z / 8))))]) [(M, .inr (5, [.int (nI 2), .ref m1, .ref m2, .ref m3, .ref m4, .ref m5, .int (nI fl), .int (nI qt), .int (nI nn), .ref m6, .ref m7, .ref m8, .ref m9, .ref m10, .ref m11, .ref m12, .ref m13, .ref m14, .ref m15, .int mam])), (m1, .inl (cy.1, 4, .inl (fun z => nI (fc z)))), (m2, .inl (cy.1, 32, .inl lm)), (m6, .inl (cy.1, 12, .inl ab)), (m7, .inl (cy.1, 12, .inl (fun z => nI (sl z % 8)))), (m8, .inl (cy.1, 12, .inl (fun z => nI (sl z / 8))))] := hD
                        refine lv_aload_n hx hb dX5_node_192 rfl (lv_at hl 0 rfl) ?_
                        refine va_get (D := D) (ci := 5) (v := .int (nI 2)) (C := RX5) (T := TX5) (N := 20) hx hb hts in_wsX5_node_X5 hown hK.1 hP 0 rfl rfl 0 (by decide) (hts _ lk358_wsX5_node) (fun _ h9 => h9) rfl dX5_node_193 ?_
                        refine lv_if_le (tgt := 201) hx hb dX5_node_196 (by decide) (fun cb10 => ?_) (fun cb10 => ?_)
                        · have cb10 : 2 ≤ 0 := zn_le_t (a := 2) (b := 0) (by omega) (by omega) cb10
                          exact absurd cb10 (by decide)
                        · have cb10 : ¬ (2 ≤ 0) := zn_le_f (a := 2) (b := 0) (by omega) (by omega) cb10
                          refine lv_iconst (v := nI 0) hx hb dX5_node_199 (by decide) ?_
                          exact z_iretW () hx hb hr hlocks hS dX5_node_200 hP trivial
                      · have cb9 : ¬ (nn = 12) := zn_eq_f (a := nn) (b := 12) (by omega) (by omega) cb9
                        refine lv_iload hx hb dX5_node_176 (lv_at hl 4 rfl) ?_
                        refine lv_iconst (v := nI 4) hx hb dX5_node_178 (by decide) ?_
                        refine lv_icmp_eq (tgt := 187) hx hb dX5_node_179 (by decide) (fun cb11 => ?_) (fun cb11 => ?_)
                        · have cb11 : mc9 = 4 := zn_eq_t (a := mc9) (b := 4) (by omega) (by omega) cb11
                          refine lv_aload_n hx hb dX5_node_187 rfl (lv_at hl 0 rfl) ?_
                          refine lv_iconst (v := nI 2) hx hb dX5_node_188 (by decide) ?_
                          refine va_put (D := D) (ci := 5) (v := .int (nI 2)) (ty := .int) (C := RX5) (T := TX5) (N := 20) hx hb hts in_wsX5_node_X5 tyX5 tyX5_ok nmX5 hown hK.1 hP hD hS 0 rfl rfl 0 (by decide) (hts _ lk358_wsX5_node) (fun _ h9 => h9) rfl (by decide +kernel) rfl rfl (Nat.le_of_ble_eq_true rfl) dX5_node_189 (fun H locs hP hD hS => ?_)
                          have hP : va_P D vwCl [(M, .inr (5, [.int (nI 2), .ref m1, .ref m2, .ref m3, .ref m4, .ref m5, .int (nI fl), .int (nI qt), .int (nI nn), .ref m6, .ref m7, .ref m8, .ref m9, .ref m10, .ref m11, .ref m12, .ref m13, .ref m14, .ref m15, .int mam])), (m1, .inl (cy.1, 4, .inl (fun z => nI (fc z)))), (m2, .inl (cy.1, 32, .inl lm)), (m6, .inl (cy.1, 12, .inl ab)), (m7, .inl (cy.1, 12, .inl (fun z => nI (sl z % 8)))), (m8, .inl (cy.1, 12, .inl (fun z => nI (sl z / 8))))] H := hP
                          have hD : va_D (zIn [(M, .inr (5, [.int thr, .ref m1, .ref m2, .ref m3, .ref m4, .ref m5, .int (nI fl), .int (nI qt), .int (nI nn), .ref m6, .ref m7, .ref m8, .ref m9, .ref m10, .ref m11, .ref m12, .ref m13, .ref m14, .ref m15, .int mam])), (m1, .inl (cy.1, 4, .inl (fun z => nI (fc z)))), (m2, .inl (cy.1, 32, .inl lm)), (m6, .inl (cy.1, 12, .inl ab)), (m7, .inl (cy.1, 12, .inl (fun z => nI (sl z % 8)))), (m8, .inl (cy.1, 12, .inl (fun z => nI (sl z / 8))))]) [(M, .inr (5, [.int (nI 2), .ref m1, .ref m2, .ref m3, .ref m4, .ref m5, .int (nI fl), .int (nI qt), .int (nI nn), .ref m6, .ref m7, .ref m8, .ref m9, .ref m10, .ref m11, .ref m12, .ref m13, .ref m14, .ref m15, .int mam])), (m1, .inl (cy.1, 4, .inl (fun z => nI (fc z)))), (m2, .inl (cy.1, 32, .inl lm)), (m6, .inl (cy.1, 12, .inl ab)), (m7, .inl (cy.1, 12, .inl (fun z => nI (sl z % 8)))), (m8, .inl (cy.1, 12, .inl (fun z => nI (sl z / 8))))] := hD
                          refine lv_aload_n hx hb dX5_node_192 rfl (lv_at hl 0 rfl) ?_
                          refine va_get (D := D) (ci := 5) (v := .int (nI 2)) (C := RX5) (T := TX5) (N := 20) hx hb hts in_wsX5_node_X5 hown hK.1 hP 0 rfl rfl 0 (by decide) (hts _ lk358_wsX5_node) (fun _ h9 => h9) rfl dX5_node_193 ?_
                          refine lv_if_le (tgt := 201) hx hb dX5_node_196 (by decide) (fun cb12 => ?_) (fun cb12 => ?_)
                          · have cb12 : 2 ≤ 0 := zn_le_t (a := 2) (b := 0) (by omega) (by omega) cb12
                            exact absurd cb12 (by decide)
                          · have cb12 : ¬ (2 ≤ 0) := zn_le_f (a := 2) (b := 0) (by omega) (by omega) cb12
                            refine lv_iconst (v := nI 0) hx hb dX5_node_199 (by decide) ?_
                            exact z_iretW () hx hb hr hlocks hS dX5_node_200 hP trivial
                        · have cb11 : ¬ (mc9 = 4) := zn_eq_f (a := mc9) (b := 4) (by omega) (by omega) cb11
                          refine lv_iload hx hb dX5_node_182 (lv_at hl 5 rfl) ?_
                          refine lv_if_eq (tgt := 192) hx hb dX5_node_184 (by decide) (fun cb13 => ?_) (fun cb13 => ?_)
                          · have cb13 : (A) = false := bI_t0 cb13
                            exact absurd ⟨fun j hj z => of_decide_eq_false (hA.symm.trans cb13) ⟨j, by omega, z.1, by have := z.2; omega⟩, by omega, by rw [show n = nn by omega] at ht9; omega⟩ hrm
                          · have cb13 : (A) = true := bI_f0 cb13
                            refine lv_aload_n hx hb dX5_node_187 rfl (lv_at hl 0 rfl) ?_
                            refine lv_iconst (v := nI 2) hx hb dX5_node_188 (by decide) ?_
                            refine va_put (D := D) (ci := 5) (v := .int (nI 2)) (ty := .int) (C := RX5) (T := TX5) (N := 20) hx hb hts in_wsX5_node_X5 tyX5 tyX5_ok nmX5 hown hK.1 hP hD hS 0 rfl rfl 0 (by decide) (hts _ lk358_wsX5_node) (fun _ h9 => h9) rfl (by decide +kernel) rfl rfl (Nat.le_of_ble_eq_true rfl) dX5_node_189 (fun H locs hP hD hS => ?_)
                            have hP : va_P D vwCl [(M, .inr (5, [.int (nI 2), .ref m1, .ref m2, .ref m3, .ref m4, .ref m5, .int (nI fl), .int (nI qt), .int (nI nn), .ref m6, .ref m7, .ref m8, .ref m9, .ref m10, .ref m11, .ref m12, .ref m13, .ref m14, .ref m15, .int mam])), (m1, .inl (cy.1, 4, .inl (fun z => nI (fc z)))), (m2, .inl (cy.1, 32, .inl lm)), (m6, .inl (cy.1, 12, .inl ab)), (m7, .inl (cy.1, 12, .inl (fun z => nI (sl z % 8)))), (m8, .inl (cy.1, 12, .inl (fun z => nI (sl z / 8))))] H := hP
                            have hD : va_D (zIn [(M, .inr (5, [.int thr, .ref m1, .ref m2, .ref m3, .ref m4, .ref m5, .int (nI fl), .int (nI qt), .int (nI nn), .ref m6, .ref m7, .ref m8, .ref m9, .ref m10, .ref m11, .ref m12, .ref m13, .ref m14, .ref m15, .int mam])), (m1, .inl (cy.1, 4, .inl (fun z => nI (fc z)))), (m2, .inl (cy.1, 32, .inl lm)), (m6, .inl (cy.1, 12, .inl ab)), (m7, .inl (cy.1, 12, .inl (fun z => nI (sl z % 8)))), (m8, .inl (cy.1, 12, .inl (fun z => nI (sl z / 8))))]) [(M, .inr (5, [.int (nI 2), .ref m1, .ref m2, .ref m3, .ref m4, .ref m5, .int (nI fl), .int (nI qt), .int (nI nn), .ref m6, .ref m7, .ref m8, .ref m9, .ref m10, .ref m11, .ref m12, .ref m13, .ref m14, .ref m15, .int mam])), (m1, .inl (cy.1, 4, .inl (fun z => nI (fc z)))), (m2, .inl (cy.1, 32, .inl lm)), (m6, .inl (cy.1, 12, .inl ab)), (m7, .inl (cy.1, 12, .inl (fun z => nI (sl z % 8)))), (m8, .inl (cy.1, 12, .inl (fun z => nI (sl z / 8))))] := hD
                            refine lv_aload_n hx hb dX5_node_192 rfl (lv_at hl 0 rfl) ?_
                            refine va_get (D := D) (ci := 5) (v := .int (nI 2)) (C := RX5) (T := TX5) (N := 20) hx hb hts in_wsX5_node_X5 hown hK.1 hP 0 rfl rfl 0 (by decide) (hts _ lk358_wsX5_node) (fun _ h9 => h9) rfl dX5_node_193 ?_
                            refine lv_if_le (tgt := 201) hx hb dX5_node_196 (by decide) (fun cb14 => ?_) (fun cb14 => ?_)
                            · have cb14 : 2 ≤ 0 := zn_le_t (a := 2) (b := 0) (by omega) (by omega) cb14
                              exact absurd cb14 (by decide)
                            · have cb14 : ¬ (2 ≤ 0) := zn_le_f (a := 2) (b := 0) (by omega) (by omega) cb14
                              refine lv_iconst (v := nI 0) hx hb dX5_node_199 (by decide) ?_
                              exact z_iretW () hx hb hr hlocks hS dX5_node_200 hP trivial
                  · have cb7 : ¬ (nn ≤ n) := zn_ge_f (a := n) (b := nn) (by omega) (by omega) cb7
                    refine lv_iload hx hb dX5_node_99 (lv_at hl 4 rfl) ?_
                    refine lv_aload_n hx hb dX5_node_101 rfl (lv_at hl 0 rfl) ?_
                    refine va_get (D := D) (ci := 5) (v := .ref m6) (C := RX5) (T := TX5) (N := 20) hx hb hts in_wsX5_node_X5 hown hK.1 hP 0 rfl rfl 9 (by decide) (hts _ lk362_wsX5_node) (fun _ h9 => h9) rfl dX5_node_102 ?_
                    refine lv_iload hx hb dX5_node_105 (lv_at hl 6 rfl) ?_
                    refine z_iald (v := (ab n)) hx hb hK.1 hP 3 0 rfl rfl (k := n) (by omega) (by decide) rfl dX5_node_107 ?_
                    refine lv_iload_n hx hb dX5_node_108 rfl (lv_at hl 1 rfl) ?_
                    refine lv_icmp_ne (tgt := 116) hx hb dX5_node_109 (by decide) (fun cb15 => ?_) (fun cb15 => ?_)
                    · skip
                      refine lv_iconst (v := nI 0) hx hb dX5_node_116 (by decide) ?_
                      refine lv_iadd hx hb dX5_node_117 ?_
                      refine z_top (y := nI (mc9 + 0)) (nI_add _ _) ?_
                      refine lv_istore (lv' := [(4, .int (nI (mc9 + 0))), (0, .ref M), (1, .int (nI k)), (2, .int (nI f)), (3, .int (nI t)), (5, .int (bI (A))), (6, .int (nI n))]) hx hb dX5_node_118 hl (by decide) rfl (fun ls hl => ?_)
                      refine lv_iload hx hb dX5_node_120 (lv_at hl 5 rfl) ?_
                      refine lv_if_ne (tgt := 147) hx hb dX5_node_122 (by decide) (fun cb16 => ?_) (fun cb16 => ?_)
                      · have cb16 : (A) = true := bI_f0 cb16
                        refine lv_iconst (v := nI 1) hx hb dX5_node_147 (by decide) ?_
                        refine lv_goto (tgt := 152) hx hb dX5_node_148 (by decide) ?_
                        refine lv_istore (lv' := [(5, .int (nI 1)), (4, .int (nI (mc9 + 0))), (0, .ref M), (1, .int (nI k)), (2, .int (nI f)), (3, .int (nI t)), (6, .int (nI n))]) hx hb dX5_node_152 hl (by decide) rfl (fun ls hl => ?_)
                        refine lv_iinc (v := nI (n + 1)) (lv' := [(6, .int (nI (n + 1))), (5, .int (nI 1)), (4, .int (nI (mc9 + 0))), (0, .ref M), (1, .int (nI k)), (2, .int (nI f)), (3, .int (nI t))]) hx hb dX5_node_154 hl (k := 6) rfl (z_inc _) (by decide) rfl (fun ls hl => ?_)
                        refine lv_goto (tgt := 90) hx hb dX5_node_157 (by decide) ?_
                        exact ih_lo (n + 1) (mc9 + 0) true (by omega) (by omega) (by omega) (by unfold zcnt; rw [if_neg (fun z => cb15 (of_decide_eq_true z)), ← ht9]; try rfl) (decide_eq_true ((of_decide_eq_true (hA.symm.trans cb16)).imp fun j h => ⟨by omega, h.2⟩)).symm _ _ _ hP hD hS (lv_sub hl [3, 4, 5, 6, 2, 1, 0] rfl)
                      · have cb16 : (A) = false := bI_t0 cb16
                        refine lv_aload_n hx hb dX5_node_125 rfl (lv_at hl 1 rfl) ?_
                        refine va_get (D := D) (ci := 5) (v := .ref m6) (C := RX5) (T := TX5) (N := 20) hx hb hts in_wsX5_node_X5 hown hK.1 hP 0 rfl rfl 9 (by decide) (hts _ lk362_wsX5_node) (fun _ h9 => h9) rfl dX5_node_126 ?_
                        refine lv_iload hx hb dX5_node_129 (lv_at hl 6 rfl) ?_
                        refine z_iald (v := (ab n)) hx hb hK.1 hP 3 0 rfl rfl (k := n) (by omega) (by decide) rfl dX5_node_131 ?_
                        refine lv_iload_n hx hb dX5_node_132 rfl (lv_at hl 2 rfl) ?_
                        refine lv_icmp_ne (tgt := 151) hx hb dX5_node_133 (by decide) (fun cb17 => ?_) (fun cb17 => ?_)
                        · skip
                          refine lv_iconst (v := nI 0) hx hb dX5_node_151 (by decide) ?_
                          refine lv_istore (lv' := [(5, .int (nI 0)), (4, .int (nI (mc9 + 0))), (0, .ref M), (1, .int (nI k)), (2, .int (nI f)), (3, .int (nI t)), (6, .int (nI n))]) hx hb dX5_node_152 hl (by decide) rfl (fun ls hl => ?_)
                          refine lv_iinc (v := nI (n + 1)) (lv' := [(6, .int (nI (n + 1))), (5, .int (nI 0)), (4, .int (nI (mc9 + 0))), (0, .ref M), (1, .int (nI k)), (2, .int (nI f)), (3, .int (nI t))]) hx hb dX5_node_154 hl (k := 6) rfl (z_inc _) (by decide) rfl (fun ls hl => ?_)
                          refine lv_goto (tgt := 90) hx hb dX5_node_157 (by decide) ?_
                          exact ih_lo (n + 1) (mc9 + 0) false (by omega) (by omega) (by omega) (by unfold zcnt; rw [if_neg (fun z => cb15 (of_decide_eq_true z)), ← ht9]; try rfl) (decide_eq_false (fun ⟨j, h1, h2, h3⟩ => (Nat.lt_or_ge j n).elim (fun y => of_decide_eq_false (hA.symm.trans cb16) ⟨j, y, h2, h3⟩) (fun y => by obtain rfl : j = n := (by omega); exact cb17 h2))).symm _ _ _ hP hD hS (lv_sub hl [3, 4, 5, 6, 2, 1, 0] rfl)
                        · skip
                          refine lv_aload_n hx hb dX5_node_136 rfl (lv_at hl 1 rfl) ?_
                          refine va_get (D := D) (ci := 5) (v := .ref m7) (C := RX5) (T := TX5) (N := 20) hx hb hts in_wsX5_node_X5 hown hK.1 hP 0 rfl rfl 10 (by decide) (hts _ lk363_wsX5_node) (fun _ h9 => h9) rfl dX5_node_137 ?_
                          refine lv_iload hx hb dX5_node_140 (lv_at hl 6 rfl) ?_
                          refine z_iald (v := nI (sl n % 8)) hx hb hK.1 hP 4 0 rfl rfl (k := n) (by omega) (by decide) rfl dX5_node_142 ?_
                          refine lv_iload_n hx hb dX5_node_143 rfl (lv_at hl 3 rfl) ?_
                          refine lv_icmp_ne (tgt := 151) hx hb dX5_node_144 (by decide) (fun cb18 => ?_) (fun cb18 => ?_)
                          · have cb18 : ¬ ((sl n % 8) = f) := zn_ne_f (a := (sl n % 8)) (b := f) (by omega) (by omega) cb18
                            refine lv_iconst (v := nI 0) hx hb dX5_node_151 (by decide) ?_
                            refine lv_istore (lv' := [(5, .int (nI 0)), (4, .int (nI (mc9 + 0))), (0, .ref M), (1, .int (nI k)), (2, .int (nI f)), (3, .int (nI t)), (6, .int (nI n))]) hx hb dX5_node_152 hl (by decide) rfl (fun ls hl => ?_)
                            refine lv_iinc (v := nI (n + 1)) (lv' := [(6, .int (nI (n + 1))), (5, .int (nI 0)), (4, .int (nI (mc9 + 0))), (0, .ref M), (1, .int (nI k)), (2, .int (nI f)), (3, .int (nI t))]) hx hb dX5_node_154 hl (k := 6) rfl (z_inc _) (by decide) rfl (fun ls hl => ?_)
                            refine lv_goto (tgt := 90) hx hb dX5_node_157 (by decide) ?_
                            exact ih_lo (n + 1) (mc9 + 0) false (by omega) (by omega) (by omega) (by unfold zcnt; rw [if_neg (fun z => cb15 (of_decide_eq_true z)), ← ht9]; try rfl) (decide_eq_false (fun ⟨j, h1, h2, h3⟩ => (Nat.lt_or_ge j n).elim (fun y => of_decide_eq_false (hA.symm.trans cb16) ⟨j, y, h2, h3⟩) (fun y => by obtain rfl : j = n := (by omega); exact cb18 h3))).symm _ _ _ hP hD hS (lv_sub hl [3, 4, 5, 6, 2, 1, 0] rfl)
                          · have cb18 : (sl n % 8) = f := zn_ne_t (a := (sl n % 8)) (b := f) (by omega) (by omega) cb18
                            refine lv_iconst (v := nI 1) hx hb dX5_node_147 (by decide) ?_
                            refine lv_goto (tgt := 152) hx hb dX5_node_148 (by decide) ?_
                            refine lv_istore (lv' := [(5, .int (nI 1)), (4, .int (nI (mc9 + 0))), (0, .ref M), (1, .int (nI k)), (2, .int (nI f)), (3, .int (nI t)), (6, .int (nI n))]) hx hb dX5_node_152 hl (by decide) rfl (fun ls hl => ?_)
                            refine lv_iinc (v := nI (n + 1)) (lv' := [(6, .int (nI (n + 1))), (5, .int (nI 1)), (4, .int (nI (mc9 + 0))), (0, .ref M), (1, .int (nI k)), (2, .int (nI f)), (3, .int (nI t))]) hx hb dX5_node_154 hl (k := 6) rfl (z_inc _) (by decide) rfl (fun ls hl => ?_)
                            refine lv_goto (tgt := 90) hx hb dX5_node_157 (by decide) ?_
                            exact ih_lo (n + 1) (mc9 + 0) true (by omega) (by omega) (by omega) (by unfold zcnt; rw [if_neg (fun z => cb15 (of_decide_eq_true z)), ← ht9]; try rfl) (decide_eq_true ⟨n, by omega, cb17, cb18⟩).symm _ _ _ hP hD hS (lv_sub hl [3, 4, 5, 6, 2, 1, 0] rfl)
                    · skip
                      refine lv_iconst (v := nI 1) hx hb dX5_node_112 (by decide) ?_
                      refine lv_goto (tgt := 117) hx hb dX5_node_113 (by decide) ?_
                      refine lv_iadd hx hb dX5_node_117 ?_
                      refine z_top (y := nI (mc9 + 1)) (nI_add _ _) ?_
                      refine lv_istore (lv' := [(4, .int (nI (mc9 + 1))), (0, .ref M), (1, .int (nI k)), (2, .int (nI f)), (3, .int (nI t)), (5, .int (bI (A))), (6, .int (nI n))]) hx hb dX5_node_118 hl (by decide) rfl (fun ls hl => ?_)
                      refine lv_iload hx hb dX5_node_120 (lv_at hl 5 rfl) ?_
                      refine lv_if_ne (tgt := 147) hx hb dX5_node_122 (by decide) (fun cb19 => ?_) (fun cb19 => ?_)
                      · have cb19 : (A) = true := bI_f0 cb19
                        refine lv_iconst (v := nI 1) hx hb dX5_node_147 (by decide) ?_
                        refine lv_goto (tgt := 152) hx hb dX5_node_148 (by decide) ?_
                        refine lv_istore (lv' := [(5, .int (nI 1)), (4, .int (nI (mc9 + 1))), (0, .ref M), (1, .int (nI k)), (2, .int (nI f)), (3, .int (nI t)), (6, .int (nI n))]) hx hb dX5_node_152 hl (by decide) rfl (fun ls hl => ?_)
                        refine lv_iinc (v := nI (n + 1)) (lv' := [(6, .int (nI (n + 1))), (5, .int (nI 1)), (4, .int (nI (mc9 + 1))), (0, .ref M), (1, .int (nI k)), (2, .int (nI f)), (3, .int (nI t))]) hx hb dX5_node_154 hl (k := 6) rfl (z_inc _) (by decide) rfl (fun ls hl => ?_)
                        refine lv_goto (tgt := 90) hx hb dX5_node_157 (by decide) ?_
                        exact ih_lo (n + 1) (mc9 + 1) true (by omega) (by omega) (by omega) (by unfold zcnt; rw [if_pos (decide_eq_true cb15), ← ht9]) (decide_eq_true ((of_decide_eq_true (hA.symm.trans cb19)).imp fun j h => ⟨by omega, h.2⟩)).symm _ _ _ hP hD hS (lv_sub hl [3, 4, 5, 6, 2, 1, 0] rfl)
                      · have cb19 : (A) = false := bI_t0 cb19
                        refine lv_aload_n hx hb dX5_node_125 rfl (lv_at hl 1 rfl) ?_
                        refine va_get (D := D) (ci := 5) (v := .ref m6) (C := RX5) (T := TX5) (N := 20) hx hb hts in_wsX5_node_X5 hown hK.1 hP 0 rfl rfl 9 (by decide) (hts _ lk362_wsX5_node) (fun _ h9 => h9) rfl dX5_node_126 ?_
                        refine lv_iload hx hb dX5_node_129 (lv_at hl 6 rfl) ?_
                        refine z_iald (v := (ab n)) hx hb hK.1 hP 3 0 rfl rfl (k := n) (by omega) (by decide) rfl dX5_node_131 ?_
                        refine lv_iload_n hx hb dX5_node_132 rfl (lv_at hl 2 rfl) ?_
                        refine lv_icmp_ne (tgt := 151) hx hb dX5_node_133 (by decide) (fun cb20 => ?_) (fun cb20 => ?_)
                        · skip
                          refine lv_iconst (v := nI 0) hx hb dX5_node_151 (by decide) ?_
                          refine lv_istore (lv' := [(5, .int (nI 0)), (4, .int (nI (mc9 + 1))), (0, .ref M), (1, .int (nI k)), (2, .int (nI f)), (3, .int (nI t)), (6, .int (nI n))]) hx hb dX5_node_152 hl (by decide) rfl (fun ls hl => ?_)
                          refine lv_iinc (v := nI (n + 1)) (lv' := [(6, .int (nI (n + 1))), (5, .int (nI 0)), (4, .int (nI (mc9 + 1))), (0, .ref M), (1, .int (nI k)), (2, .int (nI f)), (3, .int (nI t))]) hx hb dX5_node_154 hl (k := 6) rfl (z_inc _) (by decide) rfl (fun ls hl => ?_)
                          refine lv_goto (tgt := 90) hx hb dX5_node_157 (by decide) ?_
                          exact ih_lo (n + 1) (mc9 + 1) false (by omega) (by omega) (by omega) (by unfold zcnt; rw [if_pos (decide_eq_true cb15), ← ht9]) (decide_eq_false (fun ⟨j, h1, h2, h3⟩ => (Nat.lt_or_ge j n).elim (fun y => of_decide_eq_false (hA.symm.trans cb19) ⟨j, y, h2, h3⟩) (fun y => by obtain rfl : j = n := (by omega); exact cb20 h2))).symm _ _ _ hP hD hS (lv_sub hl [3, 4, 5, 6, 2, 1, 0] rfl)
                        · skip
                          refine lv_aload_n hx hb dX5_node_136 rfl (lv_at hl 1 rfl) ?_
                          refine va_get (D := D) (ci := 5) (v := .ref m7) (C := RX5) (T := TX5) (N := 20) hx hb hts in_wsX5_node_X5 hown hK.1 hP 0 rfl rfl 10 (by decide) (hts _ lk363_wsX5_node) (fun _ h9 => h9) rfl dX5_node_137 ?_
                          refine lv_iload hx hb dX5_node_140 (lv_at hl 6 rfl) ?_
                          refine z_iald (v := nI (sl n % 8)) hx hb hK.1 hP 4 0 rfl rfl (k := n) (by omega) (by decide) rfl dX5_node_142 ?_
                          refine lv_iload_n hx hb dX5_node_143 rfl (lv_at hl 3 rfl) ?_
                          refine lv_icmp_ne (tgt := 151) hx hb dX5_node_144 (by decide) (fun cb21 => ?_) (fun cb21 => ?_)
                          · have cb21 : ¬ ((sl n % 8) = f) := zn_ne_f (a := (sl n % 8)) (b := f) (by omega) (by omega) cb21
                            refine lv_iconst (v := nI 0) hx hb dX5_node_151 (by decide) ?_
                            refine lv_istore (lv' := [(5, .int (nI 0)), (4, .int (nI (mc9 + 1))), (0, .ref M), (1, .int (nI k)), (2, .int (nI f)), (3, .int (nI t)), (6, .int (nI n))]) hx hb dX5_node_152 hl (by decide) rfl (fun ls hl => ?_)
                            refine lv_iinc (v := nI (n + 1)) (lv' := [(6, .int (nI (n + 1))), (5, .int (nI 0)), (4, .int (nI (mc9 + 1))), (0, .ref M), (1, .int (nI k)), (2, .int (nI f)), (3, .int (nI t))]) hx hb dX5_node_154 hl (k := 6) rfl (z_inc _) (by decide) rfl (fun ls hl => ?_)
                            refine lv_goto (tgt := 90) hx hb dX5_node_157 (by decide) ?_
                            exact ih_lo (n + 1) (mc9 + 1) false (by omega) (by omega) (by omega) (by unfold zcnt; rw [if_pos (decide_eq_true cb15), ← ht9]) (decide_eq_false (fun ⟨j, h1, h2, h3⟩ => (Nat.lt_or_ge j n).elim (fun y => of_decide_eq_false (hA.symm.trans cb19) ⟨j, y, h2, h3⟩) (fun y => by obtain rfl : j = n := (by omega); exact cb21 h3))).symm _ _ _ hP hD hS (lv_sub hl [3, 4, 5, 6, 2, 1, 0] rfl)
                          · have cb21 : (sl n % 8) = f := zn_ne_t (a := (sl n % 8)) (b := f) (by omega) (by omega) cb21
                            refine lv_iconst (v := nI 1) hx hb dX5_node_147 (by decide) ?_
                            refine lv_goto (tgt := 152) hx hb dX5_node_148 (by decide) ?_
                            refine lv_istore (lv' := [(5, .int (nI 1)), (4, .int (nI (mc9 + 1))), (0, .ref M), (1, .int (nI k)), (2, .int (nI f)), (3, .int (nI t)), (6, .int (nI n))]) hx hb dX5_node_152 hl (by decide) rfl (fun ls hl => ?_)
                            refine lv_iinc (v := nI (n + 1)) (lv' := [(6, .int (nI (n + 1))), (5, .int (nI 1)), (4, .int (nI (mc9 + 1))), (0, .ref M), (1, .int (nI k)), (2, .int (nI f)), (3, .int (nI t))]) hx hb dX5_node_154 hl (k := 6) rfl (z_inc _) (by decide) rfl (fun ls hl => ?_)
                            refine lv_goto (tgt := 90) hx hb dX5_node_157 (by decide) ?_
                            exact ih_lo (n + 1) (mc9 + 1) true (by omega) (by omega) (by omega) (by unfold zcnt; rw [if_pos (decide_eq_true cb15), ← ht9]) (decide_eq_true ⟨n, by omega, cb20, cb21⟩).symm _ _ _ hP hD hS (lv_sub hl [3, 4, 5, 6, 2, 1, 0] rfl)
              exact lo (nn + 1) 0 0 false (by omega) (by omega) (by omega) rfl (decide_eq_false (fun ⟨j, h1, _⟩ => absurd h1 (by omega))).symm _ _ _ hP hD hS (lv_sub hl [4, 5, 6, 3, 2, 1, 0] rfl)
          · skip
            exact absurd cb5 (nI_m1 (by omega))
        · skip
          exact absurd cb4 (nI_m1 (by omega))
      · have cb3 : ¬ (0 ≤ 0) := zn_le_f (a := 0) (b := 0) (by omega) (by omega) cb3
        exact absurd cb3 (by decide)
set_option maxHeartbeats 4000000 in
set_option maxRecDepth 100000 in
theorem c_X5_node_badF_at {l : Launch} {D : va_G} {cy : zCy} {M m1 m2 m3 m4 m5 m6 m7 m8 m9 m10 m11 m12 m13 m14 m15 nn qt fl : Nat} {thr mam : Int32} {fc sl : Nat → Nat} {lm ab : Nat → Int32} (hn : nn ≤ 12) {t : Nat} (ht : t < 4) {k : Nat} (hk : k < nn) (hs32 : sl k < 32) (hlt : lm (sl k) = nI t) (hf8 : fc t ≤ 8) {x : Int32} (hbad : ¬ inN (fc t) x) : zW (Unit) l yX5_node wsX5_node rmX5_node D cy [(M, .inr (5, [.int thr, .ref m1, .ref m2, .ref m3, .ref m4, .ref m5, .int (nI fl), .int (nI qt), .int (nI nn), .ref m6, .ref m7, .ref m8, .ref m9, .ref m10, .ref m11, .ref m12, .ref m13, .ref m14, .ref m15, .int mam])), (m1, .inl (cy.1, 4, .inl (fun z => nI (fc z)))), (m2, .inl (cy.1, 32, .inl lm)), (m6, .inl (cy.1, 12, .inl ab)), (m7, .inl (cy.1, 12, .inl (fun z => nI (sl z % 8)))), (m8, .inl (cy.1, 12, .inl (fun z => nI (sl z / 8))))] [.ref M, .int (nI k), .int x] (fun _ _ => True) (fun _ => [(M, .inr (5, [.int (nI 1), .ref m1, .ref m2, .ref m3, .ref m4, .ref m5, .int (nI fl), .int (nI qt), .int (nI nn), .ref m6, .ref m7, .ref m8, .ref m9, .ref m10, .ref m11, .ref m12, .ref m13, .ref m14, .ref m15, .int mam])), (m1, .inl (cy.1, 4, .inl (fun z => nI (fc z)))), (m2, .inl (cy.1, 32, .inl lm)), (m6, .inl (cy.1, 12, .inl ab)), (m7, .inl (cy.1, 12, .inl (fun z => nI (sl z % 8)))), (m8, .inl (cy.1, 12, .inl (fun z => nI (sl z / 8))))]) := by
  refine zW.of (cc := cX5_node) (maxL := 7) (ret := (some .int)) (by decide) rfl rfl ?_
  intro p e s m below meth c ls C hP hK hD hl
  obtain ⟨hx, hb, hr, hml, hts, hown, hlocks⟩ := C
  have hS : va_S (zIn [(M, .inr (5, [.int thr, .ref m1, .ref m2, .ref m3, .ref m4, .ref m5, .int (nI fl), .int (nI qt), .int (nI nn), .ref m6, .ref m7, .ref m8, .ref m9, .ref m10, .ref m11, .ref m12, .ref m13, .ref m14, .ref m15, .int mam])), (m1, .inl (cy.1, 4, .inl (fun z => nI (fc z)))), (m2, .inl (cy.1, 32, .inl lm)), (m6, .inl (cy.1, 12, .inl ab)), (m7, .inl (cy.1, 12, .inl (fun z => nI (sl z % 8)))), (m8, .inl (cy.1, 12, .inl (fun z => nI (sl z / 8))))]) s.heap s.heap [] := va_S.rf
  have hl : lv_has ls 7 [(0, .ref M), (1, .int (nI k)), (2, .int x)] := hl
  refine lv_aload_n hx hb dX5_node_0 rfl (lv_at hl 0 rfl) ?_
  refine lv_iload_n hx hb dX5_node_1 rfl (lv_at hl 1 rfl) ?_
  refine lv_iconst (v := (-1 : Int32)) hx hb dX5_node_2 (by decide) ?_
  refine lv_icmp_eq (tgt := 14) hx hb dX5_node_3 (by decide) (fun cb1 => ?_) (fun cb1 => ?_)
  · skip
    exact absurd cb1 (nI_m1 (by omega))
  · skip
    refine lv_aload_n hx hb dX5_node_6 rfl (lv_at hl 0 rfl) ?_
    refine lv_iload_n hx hb dX5_node_7 rfl (lv_at hl 1 rfl) ?_
    refine z_callV (b := M) (As := [.int (nI k)]) (rest := [.ref M]) ⟨hx, hb, hml, hown, hts⟩ hK hP hS (c_X5_isNode (i := 0) rfl hn (x := nI k)) (cwV 1 hts gX5_node_X5_isNode rfl rfl rfl k_yX5_isNode ⟨Nat.le_of_ble_eq_true rfl, Nat.le_of_ble_eq_true rfl⟩) 0 5 rfl rfl rfl rfl hl.1 rfl rfl dX5_node_8 ⟨Nat.le_of_ble_eq_true rfl, Nat.le_of_ble_eq_true rfl⟩ (fun H locs hP hS => ?_)
    refine z_top (y := nI 1) (bI_in (by omega) (by omega)) ?_
    refine lv_if_eq (tgt := 18) hx hb dX5_node_11 (by decide) (fun cb2 => ?_) (fun cb2 => ?_)
    · have cb2 : 1 = 0 := zn_eq_t (a := 1) (b := 0) (by omega) (by omega) cb2
      exact absurd cb2 (by decide)
    · have cb2 : ¬ (1 = 0) := zn_eq_f (a := 1) (b := 0) (by omega) (by omega) cb2
      refine lv_iconst (v := nI 0) hx hb dX5_node_14 (by decide) ?_
      refine lv_goto (tgt := 19) hx hb dX5_node_15 (by decide) ?_
      refine va_put (D := D) (ci := 5) (v := .int (nI 0)) (ty := .int) (C := RX5) (T := TX5) (N := 20) hx hb hts in_wsX5_node_X5 tyX5 tyX5_ok nmX5 hown hK.1 hP hD hS 0 rfl rfl 0 (by decide) (hts _ lk358_wsX5_node) (fun _ h9 => h9) rfl (by decide +kernel) rfl rfl (Nat.le_of_ble_eq_true rfl) dX5_node_19 (fun H locs hP hD hS => ?_)
      have hP : va_P D vwCl [(M, .inr (5, [.int (nI 0), .ref m1, .ref m2, .ref m3, .ref m4, .ref m5, .int (nI fl), .int (nI qt), .int (nI nn), .ref m6, .ref m7, .ref m8, .ref m9, .ref m10, .ref m11, .ref m12, .ref m13, .ref m14, .ref m15, .int mam])), (m1, .inl (cy.1, 4, .inl (fun z => nI (fc z)))), (m2, .inl (cy.1, 32, .inl lm)), (m6, .inl (cy.1, 12, .inl ab)), (m7, .inl (cy.1, 12, .inl (fun z => nI (sl z % 8)))), (m8, .inl (cy.1, 12, .inl (fun z => nI (sl z / 8))))] H := hP
      have hD : va_D (zIn [(M, .inr (5, [.int thr, .ref m1, .ref m2, .ref m3, .ref m4, .ref m5, .int (nI fl), .int (nI qt), .int (nI nn), .ref m6, .ref m7, .ref m8, .ref m9, .ref m10, .ref m11, .ref m12, .ref m13, .ref m14, .ref m15, .int mam])), (m1, .inl (cy.1, 4, .inl (fun z => nI (fc z)))), (m2, .inl (cy.1, 32, .inl lm)), (m6, .inl (cy.1, 12, .inl ab)), (m7, .inl (cy.1, 12, .inl (fun z => nI (sl z % 8)))), (m8, .inl (cy.1, 12, .inl (fun z => nI (sl z / 8))))]) [(M, .inr (5, [.int (nI 0), .ref m1, .ref m2, .ref m3, .ref m4, .ref m5, .int (nI fl), .int (nI qt), .int (nI nn), .ref m6, .ref m7, .ref m8, .ref m9, .ref m10, .ref m11, .ref m12, .ref m13, .ref m14, .ref m15, .int mam])), (m1, .inl (cy.1, 4, .inl (fun z => nI (fc z)))), (m2, .inl (cy.1, 32, .inl lm)), (m6, .inl (cy.1, 12, .inl ab)), (m7, .inl (cy.1, 12, .inl (fun z => nI (sl z % 8)))), (m8, .inl (cy.1, 12, .inl (fun z => nI (sl z / 8))))] := hD
      refine lv_aload_n hx hb dX5_node_22 rfl (lv_at hl 0 rfl) ?_
      refine va_get (D := D) (ci := 5) (v := .int (nI 0)) (C := RX5) (T := TX5) (N := 20) hx hb hts in_wsX5_node_X5 hown hK.1 hP 0 rfl rfl 0 (by decide) (hts _ lk358_wsX5_node) (fun _ h9 => h9) rfl dX5_node_23 ?_
      refine lv_if_le (tgt := 31) hx hb dX5_node_26 (by decide) (fun cb3 => ?_) (fun cb3 => ?_)
      · have cb3 : 0 ≤ 0 := zn_le_t (a := 0) (b := 0) (by omega) (by omega) cb3
        refine lv_iload_n hx hb dX5_node_31 rfl (lv_at hl 1 rfl) ?_
        refine lv_iconst (v := (-1 : Int32)) hx hb dX5_node_32 (by decide) ?_
        refine lv_icmp_ne (tgt := 43) hx hb dX5_node_33 (by decide) (fun cb4 => ?_) (fun cb4 => ?_)
        · skip
          refine lv_aload_n hx hb dX5_node_43 rfl (lv_at hl 0 rfl) ?_
          refine va_get (D := D) (ci := 5) (v := .ref m2) (C := RX5) (T := TX5) (N := 20) hx hb hts in_wsX5_node_X5 hown hK.1 hP 0 rfl rfl 2 (by decide) (hts _ lk365_wsX5_node) (fun _ h9 => h9) rfl dX5_node_44 ?_
          refine lv_aload_n hx hb dX5_node_47 rfl (lv_at hl 0 rfl) ?_
          refine lv_iload_n hx hb dX5_node_48 rfl (lv_at hl 1 rfl) ?_
          refine z_callV (b := M) (As := [.int (nI k)]) (rest := [.ref m2]) ⟨hx, hb, hml, hown, hts⟩ hK hP hS (c_X5_fieldOf (i := 0) (j1 := 5) (j2 := 4) rfl rfl rfl (k := k) (by omega)) (cwV 1 hts gX5_node_X5_fieldOf rfl rfl rfl k_yX5_fieldOf ⟨Nat.le_of_ble_eq_true rfl, Nat.le_of_ble_eq_true rfl⟩) 0 5 rfl rfl rfl rfl hl.1 rfl rfl dX5_node_49 ⟨Nat.le_of_ble_eq_true rfl, Nat.le_of_ble_eq_true rfl⟩ (fun H locs hP hS => ?_)
          refine z_iald (v := nI t) hx hb hK.1 hP 2 0 rfl rfl (k := sl k) (by omega) (by decide) hlt dX5_node_52 ?_
          refine lv_istore_n (lv' := [(3, .int (nI t)), (0, .ref M), (1, .int (nI k)), (2, .int x)]) hx hb dX5_node_53 rfl hl (by decide) rfl (fun ls hl => ?_)
          refine lv_aload_n hx hb dX5_node_54 rfl (lv_at hl 1 rfl) ?_
          refine lv_iload_n hx hb dX5_node_55 rfl (lv_at hl 0 rfl) ?_
          refine lv_iconst (v := (-1 : Int32)) hx hb dX5_node_56 (by decide) ?_
          refine lv_icmp_ne (tgt := 64) hx hb dX5_node_57 (by decide) (fun cb5 => ?_) (fun cb5 => ?_)
          · skip
            refine lv_aload_n hx hb dX5_node_64 rfl (lv_at hl 1 rfl) ?_
            refine lv_iload_n hx hb dX5_node_65 rfl (lv_at hl 0 rfl) ?_
            refine lv_iload_n hx hb dX5_node_66 rfl (lv_at hl 3 rfl) ?_
            refine z_callV (b := M) (As := [.int (nI t), .int x]) (rest := [.ref M]) ⟨hx, hb, hml, hown, hts⟩ hK hP hS (c_X5_isField (i := 0) (j1 := 1) rfl rfl (t := t) (by omega) hf8 (x := x)) (cwV 2 hts gX5_node_X5_isField rfl rfl rfl k_yX5_isField ⟨Nat.le_of_ble_eq_true rfl, Nat.le_of_ble_eq_true rfl⟩) 0 5 rfl rfl rfl rfl hl.1 rfl rfl dX5_node_67 ⟨Nat.le_of_ble_eq_true rfl, Nat.le_of_ble_eq_true rfl⟩ (fun H locs hP hS => ?_)
            refine lv_if_eq (tgt := 77) hx hb dX5_node_70 (by decide) (fun cb6 => ?_) (fun cb6 => ?_)
            · have cb6 : (decide (inN (fc t) x)) = false := bI_t0 cb6
              refine lv_iconst (v := nI 1) hx hb dX5_node_77 (by decide) ?_
              refine va_put (D := D) (ci := 5) (v := .int (nI 1)) (ty := .int) (C := RX5) (T := TX5) (N := 20) hx hb hts in_wsX5_node_X5 tyX5 tyX5_ok nmX5 hown hK.1 hP hD hS 0 rfl rfl 0 (by decide) (hts _ lk358_wsX5_node) (fun _ h9 => h9) rfl (by decide +kernel) rfl rfl (Nat.le_of_ble_eq_true rfl) dX5_node_78 (fun H locs hP hD hS => ?_)
              have hP : va_P D vwCl [(M, .inr (5, [.int (nI 1), .ref m1, .ref m2, .ref m3, .ref m4, .ref m5, .int (nI fl), .int (nI qt), .int (nI nn), .ref m6, .ref m7, .ref m8, .ref m9, .ref m10, .ref m11, .ref m12, .ref m13, .ref m14, .ref m15, .int mam])), (m1, .inl (cy.1, 4, .inl (fun z => nI (fc z)))), (m2, .inl (cy.1, 32, .inl lm)), (m6, .inl (cy.1, 12, .inl ab)), (m7, .inl (cy.1, 12, .inl (fun z => nI (sl z % 8)))), (m8, .inl (cy.1, 12, .inl (fun z => nI (sl z / 8))))] H := hP
              have hD : va_D (zIn [(M, .inr (5, [.int thr, .ref m1, .ref m2, .ref m3, .ref m4, .ref m5, .int (nI fl), .int (nI qt), .int (nI nn), .ref m6, .ref m7, .ref m8, .ref m9, .ref m10, .ref m11, .ref m12, .ref m13, .ref m14, .ref m15, .int mam])), (m1, .inl (cy.1, 4, .inl (fun z => nI (fc z)))), (m2, .inl (cy.1, 32, .inl lm)), (m6, .inl (cy.1, 12, .inl ab)), (m7, .inl (cy.1, 12, .inl (fun z => nI (sl z % 8)))), (m8, .inl (cy.1, 12, .inl (fun z => nI (sl z / 8))))]) [(M, .inr (5, [.int (nI 1), .ref m1, .ref m2, .ref m3, .ref m4, .ref m5, .int (nI fl), .int (nI qt), .int (nI nn), .ref m6, .ref m7, .ref m8, .ref m9, .ref m10, .ref m11, .ref m12, .ref m13, .ref m14, .ref m15, .int mam])), (m1, .inl (cy.1, 4, .inl (fun z => nI (fc z)))), (m2, .inl (cy.1, 32, .inl lm)), (m6, .inl (cy.1, 12, .inl ab)), (m7, .inl (cy.1, 12, .inl (fun z => nI (sl z % 8)))), (m8, .inl (cy.1, 12, .inl (fun z => nI (sl z / 8))))] := hD
              refine lv_iconst (v := nI 0) hx hb dX5_node_81 (by decide) ?_
              refine lv_istore (lv' := [(4, .int (nI 0)), (3, .int (nI t)), (0, .ref M), (1, .int (nI k)), (2, .int x)]) hx hb dX5_node_82 hl (by decide) rfl (fun ls hl => ?_)
              refine lv_iconst (v := nI 0) hx hb dX5_node_84 (by decide) ?_
              refine lv_istore (lv' := [(5, .int (nI 0)), (4, .int (nI 0)), (3, .int (nI t)), (0, .ref M), (1, .int (nI k)), (2, .int x)]) hx hb dX5_node_85 hl (by decide) rfl (fun ls hl => ?_)
              refine lv_iconst (v := nI 0) hx hb dX5_node_87 (by decide) ?_
              refine lv_istore (lv' := [(6, .int (nI 0)), (5, .int (nI 0)), (4, .int (nI 0)), (3, .int (nI t)), (0, .ref M), (1, .int (nI k)), (2, .int x)]) hx hb dX5_node_88 hl (by decide) rfl (fun ls hl => ?_)
              have lo : ∀ (fuel : Nat) (n mc9 : Nat) (A : Bool), nn + 1 ≤ n + fuel → n ≤ nn → mc9 ≤ n → ∀ (H : Heap) (locs : List Loc) (ls : Array Slot), va_P D vwCl [(M, .inr (5, [.int (nI 1), .ref m1, .ref m2, .ref m3, .ref m4, .ref m5, .int (nI fl), .int (nI qt), .int (nI nn), .ref m6, .ref m7, .ref m8, .ref m9, .ref m10, .ref m11, .ref m12, .ref m13, .ref m14, .ref m15, .int mam])), (m1, .inl (cy.1, 4, .inl (fun z => nI (fc z)))), (m2, .inl (cy.1, 32, .inl lm)), (m6, .inl (cy.1, 12, .inl ab)), (m7, .inl (cy.1, 12, .inl (fun z => nI (sl z % 8)))), (m8, .inl (cy.1, 12, .inl (fun z => nI (sl z / 8))))] H → va_D (zIn [(M, .inr (5, [.int thr, .ref m1, .ref m2, .ref m3, .ref m4, .ref m5, .int (nI fl), .int (nI qt), .int (nI nn), .ref m6, .ref m7, .ref m8, .ref m9, .ref m10, .ref m11, .ref m12, .ref m13, .ref m14, .ref m15, .int mam])), (m1, .inl (cy.1, 4, .inl (fun z => nI (fc z)))), (m2, .inl (cy.1, 32, .inl lm)), (m6, .inl (cy.1, 12, .inl ab)), (m7, .inl (cy.1, 12, .inl (fun z => nI (sl z % 8)))), (m8, .inl (cy.1, 12, .inl (fun z => nI (sl z / 8))))]) [(M, .inr (5, [.int (nI 1), .ref m1, .ref m2, .ref m3, .ref m4, .ref m5, .int (nI fl), .int (nI qt), .int (nI nn), .ref m6, .ref m7, .ref m8, .ref m9, .ref m10, .ref m11, .ref m12, .ref m13, .ref m14, .ref m15, .int mam])), (m1, .inl (cy.1, 4, .inl (fun z => nI (fc z)))), (m2, .inl (cy.1, 32, .inl lm)), (m6, .inl (cy.1, 12, .inl ab)), (m7, .inl (cy.1, 12, .inl (fun z => nI (sl z % 8)))), (m8, .inl (cy.1, 12, .inl (fun z => nI (sl z / 8))))] → va_S (zIn [(M, .inr (5, [.int thr, .ref m1, .ref m2, .ref m3, .ref m4, .ref m5, .int (nI fl), .int (nI qt), .int (nI nn), .ref m6, .ref m7, .ref m8, .ref m9, .ref m10, .ref m11, .ref m12, .ref m13, .ref m14, .ref m15, .int mam])), (m1, .inl (cy.1, 4, .inl (fun z => nI (fc z)))), (m2, .inl (cy.1, 32, .inl lm)), (m6, .inl (cy.1, 12, .inl ab)), (m7, .inl (cy.1, 12, .inl (fun z => nI (sl z % 8)))), (m8, .inl (cy.1, 12, .inl (fun z => nI (sl z / 8))))]) s.heap H locs → lv_has ls 7 [(0, .ref M), (1, .int (nI k)), (2, .int x), (3, .int (nI t)), (4, .int (nI mc9)), (5, .int (bI (A))), (6, .int (nI n))] → W p l e rmX5_node s m [.ref M, .int (nI k), .int x].toArray below meth c H locs 0 0 (zWQ (Unit) D below [.ref M, .int (nI k), .int x].toArray s [(M, .inr (5, [.int thr, .ref m1, .ref m2, .ref m3, .ref m4, .ref m5, .int (nI fl), .int (nI qt), .int (nI nn), .ref m6, .ref m7, .ref m8, .ref m9, .ref m10, .ref m11, .ref m12, .ref m13, .ref m14, .ref m15, .int mam])), (m1, .inl (cy.1, 4, .inl (fun z => nI (fc z)))), (m2, .inl (cy.1, 32, .inl lm)), (m6, .inl (cy.1, 12, .inl ab)), (m7, .inl (cy.1, 12, .inl (fun z => nI (sl z % 8)))), (m8, .inl (cy.1, 12, .inl (fun z => nI (sl z / 8))))] (fun _ _ => True) (fun _ => [(M, .inr (5, [.int (nI 1), .ref m1, .ref m2, .ref m3, .ref m4, .ref m5, .int (nI fl), .int (nI qt), .int (nI nn), .ref m6, .ref m7, .ref m8, .ref m9, .ref m10, .ref m11, .ref m12, .ref m13, .ref m14, .ref m15, .int mam])), (m1, .inl (cy.1, 4, .inl (fun z => nI (fc z)))), (m2, .inl (cy.1, 32, .inl lm)), (m6, .inl (cy.1, 12, .inl ab)), (m7, .inl (cy.1, 12, .inl (fun z => nI (sl z % 8)))), (m8, .inl (cy.1, 12, .inl (fun z => nI (sl z / 8))))])) (F0 m 90 ls []) := by
                intro fuel
                induction fuel with
                | zero => intro n mc9 A hfu hi hm; exact absurd hfu (by omega)
                | succ fuel ih_lo =>
                  intro n mc9 A hfu hi hm H locs ls hP hD hS hl
                  refine lv_iload hx hb dX5_node_90 (lv_at hl 6 rfl) ?_
                  refine lv_aload_n hx hb dX5_node_92 rfl (lv_at hl 0 rfl) ?_
                  refine va_get (D := D) (ci := 5) (v := .int (nI nn)) (C := RX5) (T := TX5) (N := 20) hx hb hts in_wsX5_node_X5 hown hK.1 hP 0 rfl rfl 8 (by decide) (hts _ lk361_wsX5_node) (fun _ h9 => h9) rfl dX5_node_93 ?_
                  refine lv_icmp_ge (tgt := 160) hx hb dX5_node_96 (by decide) (fun cb7 => ?_) (fun cb7 => ?_)
                  · have cb7 : nn ≤ n := zn_ge_t (a := n) (b := nn) (by omega) (by omega) cb7
                    refine lv_aload_n hx hb dX5_node_160 rfl (lv_at hl 0 rfl) ?_
                    refine va_get (D := D) (ci := 5) (v := .int (nI 1)) (C := RX5) (T := TX5) (N := 20) hx hb hts in_wsX5_node_X5 hown hK.1 hP 0 rfl rfl 0 (by decide) (hts _ lk358_wsX5_node) (fun _ h9 => h9) rfl dX5_node_161 ?_
                    refine lv_if_ne (tgt := 192) hx hb dX5_node_164 (by decide) (fun cb8 => ?_) (fun cb8 => ?_)
                    · have cb8 : ¬ (1 = 0) := zn_ne_f (a := 1) (b := 0) (by omega) (by omega) cb8
                      refine lv_aload_n hx hb dX5_node_192 rfl (lv_at hl 0 rfl) ?_
                      refine va_get (D := D) (ci := 5) (v := .int (nI 1)) (C := RX5) (T := TX5) (N := 20) hx hb hts in_wsX5_node_X5 hown hK.1 hP 0 rfl rfl 0 (by decide) (hts _ lk358_wsX5_node) (fun _ h9 => h9) rfl dX5_node_193 ?_
                      refine lv_if_le (tgt := 201) hx hb dX5_node_196 (by decide) (fun cb9 => ?_) (fun cb9 => ?_)
                      · have cb9 : 1 ≤ 0 := zn_le_t (a := 1) (b := 0) (by omega) (by omega) cb9
                        exact absurd cb9 (by decide)
                      · have cb9 : ¬ (1 ≤ 0) := zn_le_f (a := 1) (b := 0) (by omega) (by omega) cb9
                        refine lv_iconst (v := nI 0) hx hb dX5_node_199 (by decide) ?_
                        exact z_iretW () hx hb hr hlocks hS dX5_node_200 hP trivial
                    · have cb8 : 1 = 0 := zn_ne_t (a := 1) (b := 0) (by omega) (by omega) cb8
                      exact absurd cb8 (by decide)
                  · have cb7 : ¬ (nn ≤ n) := zn_ge_f (a := n) (b := nn) (by omega) (by omega) cb7
                    refine lv_iload hx hb dX5_node_99 (lv_at hl 4 rfl) ?_
                    refine lv_aload_n hx hb dX5_node_101 rfl (lv_at hl 0 rfl) ?_
                    refine va_get (D := D) (ci := 5) (v := .ref m6) (C := RX5) (T := TX5) (N := 20) hx hb hts in_wsX5_node_X5 hown hK.1 hP 0 rfl rfl 9 (by decide) (hts _ lk362_wsX5_node) (fun _ h9 => h9) rfl dX5_node_102 ?_
                    refine lv_iload hx hb dX5_node_105 (lv_at hl 6 rfl) ?_
                    refine z_iald (v := (ab n)) hx hb hK.1 hP 3 0 rfl rfl (k := n) (by omega) (by decide) rfl dX5_node_107 ?_
                    refine lv_iload_n hx hb dX5_node_108 rfl (lv_at hl 1 rfl) ?_
                    refine lv_icmp_ne (tgt := 116) hx hb dX5_node_109 (by decide) (fun cb10 => ?_) (fun cb10 => ?_)
                    · skip
                      refine lv_iconst (v := nI 0) hx hb dX5_node_116 (by decide) ?_
                      refine lv_iadd hx hb dX5_node_117 ?_
                      refine z_top (y := nI (mc9 + 0)) (nI_add _ _) ?_
                      refine lv_istore (lv' := [(4, .int (nI (mc9 + 0))), (0, .ref M), (1, .int (nI k)), (2, .int x), (3, .int (nI t)), (5, .int (bI (A))), (6, .int (nI n))]) hx hb dX5_node_118 hl (by decide) rfl (fun ls hl => ?_)
                      refine lv_iload hx hb dX5_node_120 (lv_at hl 5 rfl) ?_
                      refine lv_if_ne (tgt := 147) hx hb dX5_node_122 (by decide) (fun cb11 => ?_) (fun cb11 => ?_)
                      · have cb11 : (A) = true := bI_f0 cb11
                        refine lv_iconst (v := nI 1) hx hb dX5_node_147 (by decide) ?_
                        refine lv_goto (tgt := 152) hx hb dX5_node_148 (by decide) ?_
                        refine lv_istore (lv' := [(5, .int (nI 1)), (4, .int (nI (mc9 + 0))), (0, .ref M), (1, .int (nI k)), (2, .int x), (3, .int (nI t)), (6, .int (nI n))]) hx hb dX5_node_152 hl (by decide) rfl (fun ls hl => ?_)
                        refine lv_iinc (v := nI (n + 1)) (lv' := [(6, .int (nI (n + 1))), (5, .int (nI 1)), (4, .int (nI (mc9 + 0))), (0, .ref M), (1, .int (nI k)), (2, .int x), (3, .int (nI t))]) hx hb dX5_node_154 hl (k := 6) rfl (z_inc _) (by decide) rfl (fun ls hl => ?_)
                        refine lv_goto (tgt := 90) hx hb dX5_node_157 (by decide) ?_
                        exact ih_lo (n + 1) (mc9 + 0) true (by omega) (by omega) (by omega) _ _ _ hP hD hS (lv_sub hl [3, 4, 5, 6, 2, 1, 0] rfl)
                      · have cb11 : (A) = false := bI_t0 cb11
                        refine lv_aload_n hx hb dX5_node_125 rfl (lv_at hl 1 rfl) ?_
                        refine va_get (D := D) (ci := 5) (v := .ref m6) (C := RX5) (T := TX5) (N := 20) hx hb hts in_wsX5_node_X5 hown hK.1 hP 0 rfl rfl 9 (by decide) (hts _ lk362_wsX5_node) (fun _ h9 => h9) rfl dX5_node_126 ?_
                        refine lv_iload hx hb dX5_node_129 (lv_at hl 6 rfl) ?_
                        refine z_iald (v := (ab n)) hx hb hK.1 hP 3 0 rfl rfl (k := n) (by omega) (by decide) rfl dX5_node_131 ?_
                        refine lv_iload_n hx hb dX5_node_132 rfl (lv_at hl 2 rfl) ?_
                        refine lv_icmp_ne (tgt := 151) hx hb dX5_node_133 (by decide) (fun cb12 => ?_) (fun cb12 => ?_)
                        · skip
                          refine lv_iconst (v := nI 0) hx hb dX5_node_151 (by decide) ?_
                          refine lv_istore (lv' := [(5, .int (nI 0)), (4, .int (nI (mc9 + 0))), (0, .ref M), (1, .int (nI k)), (2, .int x), (3, .int (nI t)), (6, .int (nI n))]) hx hb dX5_node_152 hl (by decide) rfl (fun ls hl => ?_)
                          refine lv_iinc (v := nI (n + 1)) (lv' := [(6, .int (nI (n + 1))), (5, .int (nI 0)), (4, .int (nI (mc9 + 0))), (0, .ref M), (1, .int (nI k)), (2, .int x), (3, .int (nI t))]) hx hb dX5_node_154 hl (k := 6) rfl (z_inc _) (by decide) rfl (fun ls hl => ?_)
                          refine lv_goto (tgt := 90) hx hb dX5_node_157 (by decide) ?_
                          exact ih_lo (n + 1) (mc9 + 0) false (by omega) (by omega) (by omega) _ _ _ hP hD hS (lv_sub hl [3, 4, 5, 6, 2, 1, 0] rfl)
                        · skip
                          refine lv_aload_n hx hb dX5_node_136 rfl (lv_at hl 1 rfl) ?_
                          refine va_get (D := D) (ci := 5) (v := .ref m7) (C := RX5) (T := TX5) (N := 20) hx hb hts in_wsX5_node_X5 hown hK.1 hP 0 rfl rfl 10 (by decide) (hts _ lk363_wsX5_node) (fun _ h9 => h9) rfl dX5_node_137 ?_
                          refine lv_iload hx hb dX5_node_140 (lv_at hl 6 rfl) ?_
                          refine z_iald (v := nI (sl n % 8)) hx hb hK.1 hP 4 0 rfl rfl (k := n) (by omega) (by decide) rfl dX5_node_142 ?_
                          refine lv_iload_n hx hb dX5_node_143 rfl (lv_at hl 3 rfl) ?_
                          refine lv_icmp_ne (tgt := 151) hx hb dX5_node_144 (by decide) (fun cb13 => ?_) (fun cb13 => ?_)
                          · skip
                            refine lv_iconst (v := nI 0) hx hb dX5_node_151 (by decide) ?_
                            refine lv_istore (lv' := [(5, .int (nI 0)), (4, .int (nI (mc9 + 0))), (0, .ref M), (1, .int (nI k)), (2, .int x), (3, .int (nI t)), (6, .int (nI n))]) hx hb dX5_node_152 hl (by decide) rfl (fun ls hl => ?_)
                            refine lv_iinc (v := nI (n + 1)) (lv' := [(6, .int (nI (n + 1))), (5, .int (nI 0)), (4, .int (nI (mc9 + 0))), (0, .ref M), (1, .int (nI k)), (2, .int x), (3, .int (nI t))]) hx hb dX5_node_154 hl (k := 6) rfl (z_inc _) (by decide) rfl (fun ls hl => ?_)
                            refine lv_goto (tgt := 90) hx hb dX5_node_157 (by decide) ?_
                            exact ih_lo (n + 1) (mc9 + 0) false (by omega) (by omega) (by omega) _ _ _ hP hD hS (lv_sub hl [3, 4, 5, 6, 2, 1, 0] rfl)
                          · skip
                            refine lv_iconst (v := nI 1) hx hb dX5_node_147 (by decide) ?_
                            refine lv_goto (tgt := 152) hx hb dX5_node_148 (by decide) ?_
                            refine lv_istore (lv' := [(5, .int (nI 1)), (4, .int (nI (mc9 + 0))), (0, .ref M), (1, .int (nI k)), (2, .int x), (3, .int (nI t)), (6, .int (nI n))]) hx hb dX5_node_152 hl (by decide) rfl (fun ls hl => ?_)
                            refine lv_iinc (v := nI (n + 1)) (lv' := [(6, .int (nI (n + 1))), (5, .int (nI 1)), (4, .int (nI (mc9 + 0))), (0, .ref M), (1, .int (nI k)), (2, .int x), (3, .int (nI t))]) hx hb dX5_node_154 hl (k := 6) rfl (z_inc _) (by decide) rfl (fun ls hl => ?_)
                            refine lv_goto (tgt := 90) hx hb dX5_node_157 (by decide) ?_
                            exact ih_lo (n + 1) (mc9 + 0) true (by omega) (by omega) (by omega) _ _ _ hP hD hS (lv_sub hl [3, 4, 5, 6, 2, 1, 0] rfl)
                    · skip
                      refine lv_iconst (v := nI 1) hx hb dX5_node_112 (by decide) ?_
                      refine lv_goto (tgt := 117) hx hb dX5_node_113 (by decide) ?_
                      refine lv_iadd hx hb dX5_node_117 ?_
                      refine z_top (y := nI (mc9 + 1)) (nI_add _ _) ?_
                      refine lv_istore (lv' := [(4, .int (nI (mc9 + 1))), (0, .ref M), (1, .int (nI k)), (2, .int x), (3, .int (nI t)), (5, .int (bI (A))), (6, .int (nI n))]) hx hb dX5_node_118 hl (by decide) rfl (fun ls hl => ?_)
                      refine lv_iload hx hb dX5_node_120 (lv_at hl 5 rfl) ?_
                      refine lv_if_ne (tgt := 147) hx hb dX5_node_122 (by decide) (fun cb14 => ?_) (fun cb14 => ?_)
                      · have cb14 : (A) = true := bI_f0 cb14
                        refine lv_iconst (v := nI 1) hx hb dX5_node_147 (by decide) ?_
                        refine lv_goto (tgt := 152) hx hb dX5_node_148 (by decide) ?_
                        refine lv_istore (lv' := [(5, .int (nI 1)), (4, .int (nI (mc9 + 1))), (0, .ref M), (1, .int (nI k)), (2, .int x), (3, .int (nI t)), (6, .int (nI n))]) hx hb dX5_node_152 hl (by decide) rfl (fun ls hl => ?_)
                        refine lv_iinc (v := nI (n + 1)) (lv' := [(6, .int (nI (n + 1))), (5, .int (nI 1)), (4, .int (nI (mc9 + 1))), (0, .ref M), (1, .int (nI k)), (2, .int x), (3, .int (nI t))]) hx hb dX5_node_154 hl (k := 6) rfl (z_inc _) (by decide) rfl (fun ls hl => ?_)
                        refine lv_goto (tgt := 90) hx hb dX5_node_157 (by decide) ?_
                        exact ih_lo (n + 1) (mc9 + 1) true (by omega) (by omega) (by omega) _ _ _ hP hD hS (lv_sub hl [3, 4, 5, 6, 2, 1, 0] rfl)
                      · have cb14 : (A) = false := bI_t0 cb14
                        refine lv_aload_n hx hb dX5_node_125 rfl (lv_at hl 1 rfl) ?_
                        refine va_get (D := D) (ci := 5) (v := .ref m6) (C := RX5) (T := TX5) (N := 20) hx hb hts in_wsX5_node_X5 hown hK.1 hP 0 rfl rfl 9 (by decide) (hts _ lk362_wsX5_node) (fun _ h9 => h9) rfl dX5_node_126 ?_
                        refine lv_iload hx hb dX5_node_129 (lv_at hl 6 rfl) ?_
                        refine z_iald (v := (ab n)) hx hb hK.1 hP 3 0 rfl rfl (k := n) (by omega) (by decide) rfl dX5_node_131 ?_
                        refine lv_iload_n hx hb dX5_node_132 rfl (lv_at hl 2 rfl) ?_
                        refine lv_icmp_ne (tgt := 151) hx hb dX5_node_133 (by decide) (fun cb15 => ?_) (fun cb15 => ?_)
                        · skip
                          refine lv_iconst (v := nI 0) hx hb dX5_node_151 (by decide) ?_
                          refine lv_istore (lv' := [(5, .int (nI 0)), (4, .int (nI (mc9 + 1))), (0, .ref M), (1, .int (nI k)), (2, .int x), (3, .int (nI t)), (6, .int (nI n))]) hx hb dX5_node_152 hl (by decide) rfl (fun ls hl => ?_)
                          refine lv_iinc (v := nI (n + 1)) (lv' := [(6, .int (nI (n + 1))), (5, .int (nI 0)), (4, .int (nI (mc9 + 1))), (0, .ref M), (1, .int (nI k)), (2, .int x), (3, .int (nI t))]) hx hb dX5_node_154 hl (k := 6) rfl (z_inc _) (by decide) rfl (fun ls hl => ?_)
                          refine lv_goto (tgt := 90) hx hb dX5_node_157 (by decide) ?_
                          exact ih_lo (n + 1) (mc9 + 1) false (by omega) (by omega) (by omega) _ _ _ hP hD hS (lv_sub hl [3, 4, 5, 6, 2, 1, 0] rfl)
                        · skip
                          refine lv_aload_n hx hb dX5_node_136 rfl (lv_at hl 1 rfl) ?_
                          refine va_get (D := D) (ci := 5) (v := .ref m7) (C := RX5) (T := TX5) (N := 20) hx hb hts in_wsX5_node_X5 hown hK.1 hP 0 rfl rfl 10 (by decide) (hts _ lk363_wsX5_node) (fun _ h9 => h9) rfl dX5_node_137 ?_
                          refine lv_iload hx hb dX5_node_140 (lv_at hl 6 rfl) ?_
                          refine z_iald (v := nI (sl n % 8)) hx hb hK.1 hP 4 0 rfl rfl (k := n) (by omega) (by decide) rfl dX5_node_142 ?_
                          refine lv_iload_n hx hb dX5_node_143 rfl (lv_at hl 3 rfl) ?_
                          refine lv_icmp_ne (tgt := 151) hx hb dX5_node_144 (by decide) (fun cb16 => ?_) (fun cb16 => ?_)
                          · skip
                            refine lv_iconst (v := nI 0) hx hb dX5_node_151 (by decide) ?_
                            refine lv_istore (lv' := [(5, .int (nI 0)), (4, .int (nI (mc9 + 1))), (0, .ref M), (1, .int (nI k)), (2, .int x), (3, .int (nI t)), (6, .int (nI n))]) hx hb dX5_node_152 hl (by decide) rfl (fun ls hl => ?_)
                            refine lv_iinc (v := nI (n + 1)) (lv' := [(6, .int (nI (n + 1))), (5, .int (nI 0)), (4, .int (nI (mc9 + 1))), (0, .ref M), (1, .int (nI k)), (2, .int x), (3, .int (nI t))]) hx hb dX5_node_154 hl (k := 6) rfl (z_inc _) (by decide) rfl (fun ls hl => ?_)
                            refine lv_goto (tgt := 90) hx hb dX5_node_157 (by decide) ?_
                            exact ih_lo (n + 1) (mc9 + 1) false (by omega) (by omega) (by omega) _ _ _ hP hD hS (lv_sub hl [3, 4, 5, 6, 2, 1, 0] rfl)
                          · skip
                            refine lv_iconst (v := nI 1) hx hb dX5_node_147 (by decide) ?_
                            refine lv_goto (tgt := 152) hx hb dX5_node_148 (by decide) ?_
                            refine lv_istore (lv' := [(5, .int (nI 1)), (4, .int (nI (mc9 + 1))), (0, .ref M), (1, .int (nI k)), (2, .int x), (3, .int (nI t)), (6, .int (nI n))]) hx hb dX5_node_152 hl (by decide) rfl (fun ls hl => ?_)
                            refine lv_iinc (v := nI (n + 1)) (lv' := [(6, .int (nI (n + 1))), (5, .int (nI 1)), (4, .int (nI (mc9 + 1))), (0, .ref M), (1, .int (nI k)), (2, .int x), (3, .int (nI t))]) hx hb dX5_node_154 hl (k := 6) rfl (z_inc _) (by decide) rfl (fun ls hl => ?_)
                            refine lv_goto (tgt := 90) hx hb dX5_node_157 (by decide) ?_
                            exact ih_lo (n + 1) (mc9 + 1) true (by omega) (by omega) (by omega) _ _ _ hP hD hS (lv_sub hl [3, 4, 5, 6, 2, 1, 0] rfl)
              exact lo (nn + 1) 0 0 false (by omega) (by omega) (by omega) _ _ _ hP hD hS (lv_sub hl [4, 5, 6, 3, 2, 1, 0] rfl)
            · have cb6 : (decide (inN (fc t) x)) = true := bI_f0 cb6
              exact absurd (of_decide_eq_true cb6) hbad
          · skip
            exact absurd cb5 (nI_m1 (by omega))
        · skip
          exact absurd cb4 (nI_m1 (by omega))
      · have cb3 : ¬ (0 ≤ 0) := zn_le_f (a := 0) (b := 0) (by omega) (by omega) cb3
        exact absurd cb3 (by decide)
set_option maxHeartbeats 4000000 in
set_option maxRecDepth 100000 in
theorem c_X5_node_badP {l : Launch} {D : va_G} {cy : zCy} {M m1 m2 m3 m4 m5 m6 m7 m8 m9 m10 m11 m12 m13 m14 m15 nn qt fl : Nat} {thr mam : Int32} {fc sl : Nat → Nat} {lm ab : Nat → Int32} (hn : nn ≤ 12) {k : Nat} (hk : k < nn) (hs32 : sl k < 32) (hlt : lm (sl k) = -1) {x : Int32} : zW (Unit) l yX5_node wsX5_node rmX5_node D cy [(M, .inr (5, [.int thr, .ref m1, .ref m2, .ref m3, .ref m4, .ref m5, .int (nI fl), .int (nI qt), .int (nI nn), .ref m6, .ref m7, .ref m8, .ref m9, .ref m10, .ref m11, .ref m12, .ref m13, .ref m14, .ref m15, .int mam])), (m1, .inl (cy.1, 4, .inl (fun z => nI (fc z)))), (m2, .inl (cy.1, 32, .inl lm)), (m6, .inl (cy.1, 12, .inl ab)), (m7, .inl (cy.1, 12, .inl (fun z => nI (sl z % 8)))), (m8, .inl (cy.1, 12, .inl (fun z => nI (sl z / 8))))] [.ref M, .int (nI k), .int x] (fun _ _ => True) (fun _ => [(M, .inr (5, [.int (nI 2), .ref m1, .ref m2, .ref m3, .ref m4, .ref m5, .int (nI fl), .int (nI qt), .int (nI nn), .ref m6, .ref m7, .ref m8, .ref m9, .ref m10, .ref m11, .ref m12, .ref m13, .ref m14, .ref m15, .int mam])), (m1, .inl (cy.1, 4, .inl (fun z => nI (fc z)))), (m2, .inl (cy.1, 32, .inl lm)), (m6, .inl (cy.1, 12, .inl ab)), (m7, .inl (cy.1, 12, .inl (fun z => nI (sl z % 8)))), (m8, .inl (cy.1, 12, .inl (fun z => nI (sl z / 8))))]) := by
  refine zW.of (cc := cX5_node) (maxL := 7) (ret := (some .int)) (by decide) rfl rfl ?_
  intro p e s m below meth c ls C hP hK hD hl
  obtain ⟨hx, hb, hr, hml, hts, hown, hlocks⟩ := C
  have hS : va_S (zIn [(M, .inr (5, [.int thr, .ref m1, .ref m2, .ref m3, .ref m4, .ref m5, .int (nI fl), .int (nI qt), .int (nI nn), .ref m6, .ref m7, .ref m8, .ref m9, .ref m10, .ref m11, .ref m12, .ref m13, .ref m14, .ref m15, .int mam])), (m1, .inl (cy.1, 4, .inl (fun z => nI (fc z)))), (m2, .inl (cy.1, 32, .inl lm)), (m6, .inl (cy.1, 12, .inl ab)), (m7, .inl (cy.1, 12, .inl (fun z => nI (sl z % 8)))), (m8, .inl (cy.1, 12, .inl (fun z => nI (sl z / 8))))]) s.heap s.heap [] := va_S.rf
  have hl : lv_has ls 7 [(0, .ref M), (1, .int (nI k)), (2, .int x)] := hl
  refine lv_aload_n hx hb dX5_node_0 rfl (lv_at hl 0 rfl) ?_
  refine lv_iload_n hx hb dX5_node_1 rfl (lv_at hl 1 rfl) ?_
  refine lv_iconst (v := (-1 : Int32)) hx hb dX5_node_2 (by decide) ?_
  refine lv_icmp_eq (tgt := 14) hx hb dX5_node_3 (by decide) (fun cb1 => ?_) (fun cb1 => ?_)
  · skip
    exact absurd cb1 (nI_m1 (by omega))
  · skip
    refine lv_aload_n hx hb dX5_node_6 rfl (lv_at hl 0 rfl) ?_
    refine lv_iload_n hx hb dX5_node_7 rfl (lv_at hl 1 rfl) ?_
    refine z_callV (b := M) (As := [.int (nI k)]) (rest := [.ref M]) ⟨hx, hb, hml, hown, hts⟩ hK hP hS (c_X5_isNode (i := 0) rfl hn (x := nI k)) (cwV 1 hts gX5_node_X5_isNode rfl rfl rfl k_yX5_isNode ⟨Nat.le_of_ble_eq_true rfl, Nat.le_of_ble_eq_true rfl⟩) 0 5 rfl rfl rfl rfl hl.1 rfl rfl dX5_node_8 ⟨Nat.le_of_ble_eq_true rfl, Nat.le_of_ble_eq_true rfl⟩ (fun H locs hP hS => ?_)
    refine z_top (y := nI 1) (bI_in (by omega) (by omega)) ?_
    refine lv_if_eq (tgt := 18) hx hb dX5_node_11 (by decide) (fun cb2 => ?_) (fun cb2 => ?_)
    · have cb2 : 1 = 0 := zn_eq_t (a := 1) (b := 0) (by omega) (by omega) cb2
      exact absurd cb2 (by decide)
    · have cb2 : ¬ (1 = 0) := zn_eq_f (a := 1) (b := 0) (by omega) (by omega) cb2
      refine lv_iconst (v := nI 0) hx hb dX5_node_14 (by decide) ?_
      refine lv_goto (tgt := 19) hx hb dX5_node_15 (by decide) ?_
      refine va_put (D := D) (ci := 5) (v := .int (nI 0)) (ty := .int) (C := RX5) (T := TX5) (N := 20) hx hb hts in_wsX5_node_X5 tyX5 tyX5_ok nmX5 hown hK.1 hP hD hS 0 rfl rfl 0 (by decide) (hts _ lk358_wsX5_node) (fun _ h9 => h9) rfl (by decide +kernel) rfl rfl (Nat.le_of_ble_eq_true rfl) dX5_node_19 (fun H locs hP hD hS => ?_)
      have hP : va_P D vwCl [(M, .inr (5, [.int (nI 0), .ref m1, .ref m2, .ref m3, .ref m4, .ref m5, .int (nI fl), .int (nI qt), .int (nI nn), .ref m6, .ref m7, .ref m8, .ref m9, .ref m10, .ref m11, .ref m12, .ref m13, .ref m14, .ref m15, .int mam])), (m1, .inl (cy.1, 4, .inl (fun z => nI (fc z)))), (m2, .inl (cy.1, 32, .inl lm)), (m6, .inl (cy.1, 12, .inl ab)), (m7, .inl (cy.1, 12, .inl (fun z => nI (sl z % 8)))), (m8, .inl (cy.1, 12, .inl (fun z => nI (sl z / 8))))] H := hP
      have hD : va_D (zIn [(M, .inr (5, [.int thr, .ref m1, .ref m2, .ref m3, .ref m4, .ref m5, .int (nI fl), .int (nI qt), .int (nI nn), .ref m6, .ref m7, .ref m8, .ref m9, .ref m10, .ref m11, .ref m12, .ref m13, .ref m14, .ref m15, .int mam])), (m1, .inl (cy.1, 4, .inl (fun z => nI (fc z)))), (m2, .inl (cy.1, 32, .inl lm)), (m6, .inl (cy.1, 12, .inl ab)), (m7, .inl (cy.1, 12, .inl (fun z => nI (sl z % 8)))), (m8, .inl (cy.1, 12, .inl (fun z => nI (sl z / 8))))]) [(M, .inr (5, [.int (nI 0), .ref m1, .ref m2, .ref m3, .ref m4, .ref m5, .int (nI fl), .int (nI qt), .int (nI nn), .ref m6, .ref m7, .ref m8, .ref m9, .ref m10, .ref m11, .ref m12, .ref m13, .ref m14, .ref m15, .int mam])), (m1, .inl (cy.1, 4, .inl (fun z => nI (fc z)))), (m2, .inl (cy.1, 32, .inl lm)), (m6, .inl (cy.1, 12, .inl ab)), (m7, .inl (cy.1, 12, .inl (fun z => nI (sl z % 8)))), (m8, .inl (cy.1, 12, .inl (fun z => nI (sl z / 8))))] := hD
      refine lv_aload_n hx hb dX5_node_22 rfl (lv_at hl 0 rfl) ?_
      refine va_get (D := D) (ci := 5) (v := .int (nI 0)) (C := RX5) (T := TX5) (N := 20) hx hb hts in_wsX5_node_X5 hown hK.1 hP 0 rfl rfl 0 (by decide) (hts _ lk358_wsX5_node) (fun _ h9 => h9) rfl dX5_node_23 ?_
      refine lv_if_le (tgt := 31) hx hb dX5_node_26 (by decide) (fun cb3 => ?_) (fun cb3 => ?_)
      · have cb3 : 0 ≤ 0 := zn_le_t (a := 0) (b := 0) (by omega) (by omega) cb3
        refine lv_iload_n hx hb dX5_node_31 rfl (lv_at hl 1 rfl) ?_
        refine lv_iconst (v := (-1 : Int32)) hx hb dX5_node_32 (by decide) ?_
        refine lv_icmp_ne (tgt := 43) hx hb dX5_node_33 (by decide) (fun cb4 => ?_) (fun cb4 => ?_)
        · skip
          refine lv_aload_n hx hb dX5_node_43 rfl (lv_at hl 0 rfl) ?_
          refine va_get (D := D) (ci := 5) (v := .ref m2) (C := RX5) (T := TX5) (N := 20) hx hb hts in_wsX5_node_X5 hown hK.1 hP 0 rfl rfl 2 (by decide) (hts _ lk365_wsX5_node) (fun _ h9 => h9) rfl dX5_node_44 ?_
          refine lv_aload_n hx hb dX5_node_47 rfl (lv_at hl 0 rfl) ?_
          refine lv_iload_n hx hb dX5_node_48 rfl (lv_at hl 1 rfl) ?_
          refine z_callV (b := M) (As := [.int (nI k)]) (rest := [.ref m2]) ⟨hx, hb, hml, hown, hts⟩ hK hP hS (c_X5_fieldOf (i := 0) (j1 := 5) (j2 := 4) rfl rfl rfl (k := k) (by omega)) (cwV 1 hts gX5_node_X5_fieldOf rfl rfl rfl k_yX5_fieldOf ⟨Nat.le_of_ble_eq_true rfl, Nat.le_of_ble_eq_true rfl⟩) 0 5 rfl rfl rfl rfl hl.1 rfl rfl dX5_node_49 ⟨Nat.le_of_ble_eq_true rfl, Nat.le_of_ble_eq_true rfl⟩ (fun H locs hP hS => ?_)
          refine z_iald (v := (-1 : Int32)) hx hb hK.1 hP 2 0 rfl rfl (k := sl k) (by omega) (by decide) hlt dX5_node_52 ?_
          refine lv_istore_n (lv' := [(3, .int ((-1 : Int32))), (0, .ref M), (1, .int (nI k)), (2, .int x)]) hx hb dX5_node_53 rfl hl (by decide) rfl (fun ls hl => ?_)
          refine lv_aload_n hx hb dX5_node_54 rfl (lv_at hl 1 rfl) ?_
          refine lv_iload_n hx hb dX5_node_55 rfl (lv_at hl 0 rfl) ?_
          refine lv_iconst (v := (-1 : Int32)) hx hb dX5_node_56 (by decide) ?_
          refine lv_icmp_ne (tgt := 64) hx hb dX5_node_57 (by decide) (fun cb5 => ?_) (fun cb5 => ?_)
          · skip
            exact absurd rfl cb5
          · skip
            refine lv_iconst (v := nI 2) hx hb dX5_node_60 (by decide) ?_
            refine lv_goto (tgt := 78) hx hb dX5_node_61 (by decide) ?_
            refine va_put (D := D) (ci := 5) (v := .int (nI 2)) (ty := .int) (C := RX5) (T := TX5) (N := 20) hx hb hts in_wsX5_node_X5 tyX5 tyX5_ok nmX5 hown hK.1 hP hD hS 0 rfl rfl 0 (by decide) (hts _ lk358_wsX5_node) (fun _ h9 => h9) rfl (by decide +kernel) rfl rfl (Nat.le_of_ble_eq_true rfl) dX5_node_78 (fun H locs hP hD hS => ?_)
            have hP : va_P D vwCl [(M, .inr (5, [.int (nI 2), .ref m1, .ref m2, .ref m3, .ref m4, .ref m5, .int (nI fl), .int (nI qt), .int (nI nn), .ref m6, .ref m7, .ref m8, .ref m9, .ref m10, .ref m11, .ref m12, .ref m13, .ref m14, .ref m15, .int mam])), (m1, .inl (cy.1, 4, .inl (fun z => nI (fc z)))), (m2, .inl (cy.1, 32, .inl lm)), (m6, .inl (cy.1, 12, .inl ab)), (m7, .inl (cy.1, 12, .inl (fun z => nI (sl z % 8)))), (m8, .inl (cy.1, 12, .inl (fun z => nI (sl z / 8))))] H := hP
            have hD : va_D (zIn [(M, .inr (5, [.int thr, .ref m1, .ref m2, .ref m3, .ref m4, .ref m5, .int (nI fl), .int (nI qt), .int (nI nn), .ref m6, .ref m7, .ref m8, .ref m9, .ref m10, .ref m11, .ref m12, .ref m13, .ref m14, .ref m15, .int mam])), (m1, .inl (cy.1, 4, .inl (fun z => nI (fc z)))), (m2, .inl (cy.1, 32, .inl lm)), (m6, .inl (cy.1, 12, .inl ab)), (m7, .inl (cy.1, 12, .inl (fun z => nI (sl z % 8)))), (m8, .inl (cy.1, 12, .inl (fun z => nI (sl z / 8))))]) [(M, .inr (5, [.int (nI 2), .ref m1, .ref m2, .ref m3, .ref m4, .ref m5, .int (nI fl), .int (nI qt), .int (nI nn), .ref m6, .ref m7, .ref m8, .ref m9, .ref m10, .ref m11, .ref m12, .ref m13, .ref m14, .ref m15, .int mam])), (m1, .inl (cy.1, 4, .inl (fun z => nI (fc z)))), (m2, .inl (cy.1, 32, .inl lm)), (m6, .inl (cy.1, 12, .inl ab)), (m7, .inl (cy.1, 12, .inl (fun z => nI (sl z % 8)))), (m8, .inl (cy.1, 12, .inl (fun z => nI (sl z / 8))))] := hD
            refine lv_iconst (v := nI 0) hx hb dX5_node_81 (by decide) ?_
            refine lv_istore (lv' := [(4, .int (nI 0)), (3, .int ((-1 : Int32))), (0, .ref M), (1, .int (nI k)), (2, .int x)]) hx hb dX5_node_82 hl (by decide) rfl (fun ls hl => ?_)
            refine lv_iconst (v := nI 0) hx hb dX5_node_84 (by decide) ?_
            refine lv_istore (lv' := [(5, .int (nI 0)), (4, .int (nI 0)), (3, .int ((-1 : Int32))), (0, .ref M), (1, .int (nI k)), (2, .int x)]) hx hb dX5_node_85 hl (by decide) rfl (fun ls hl => ?_)
            refine lv_iconst (v := nI 0) hx hb dX5_node_87 (by decide) ?_
            refine lv_istore (lv' := [(6, .int (nI 0)), (5, .int (nI 0)), (4, .int (nI 0)), (3, .int ((-1 : Int32))), (0, .ref M), (1, .int (nI k)), (2, .int x)]) hx hb dX5_node_88 hl (by decide) rfl (fun ls hl => ?_)
            have lo : ∀ (fuel : Nat) (n mc9 : Nat) (A : Bool), nn + 1 ≤ n + fuel → n ≤ nn → mc9 ≤ n → ∀ (H : Heap) (locs : List Loc) (ls : Array Slot), va_P D vwCl [(M, .inr (5, [.int (nI 2), .ref m1, .ref m2, .ref m3, .ref m4, .ref m5, .int (nI fl), .int (nI qt), .int (nI nn), .ref m6, .ref m7, .ref m8, .ref m9, .ref m10, .ref m11, .ref m12, .ref m13, .ref m14, .ref m15, .int mam])), (m1, .inl (cy.1, 4, .inl (fun z => nI (fc z)))), (m2, .inl (cy.1, 32, .inl lm)), (m6, .inl (cy.1, 12, .inl ab)), (m7, .inl (cy.1, 12, .inl (fun z => nI (sl z % 8)))), (m8, .inl (cy.1, 12, .inl (fun z => nI (sl z / 8))))] H → va_D (zIn [(M, .inr (5, [.int thr, .ref m1, .ref m2, .ref m3, .ref m4, .ref m5, .int (nI fl), .int (nI qt), .int (nI nn), .ref m6, .ref m7, .ref m8, .ref m9, .ref m10, .ref m11, .ref m12, .ref m13, .ref m14, .ref m15, .int mam])), (m1, .inl (cy.1, 4, .inl (fun z => nI (fc z)))), (m2, .inl (cy.1, 32, .inl lm)), (m6, .inl (cy.1, 12, .inl ab)), (m7, .inl (cy.1, 12, .inl (fun z => nI (sl z % 8)))), (m8, .inl (cy.1, 12, .inl (fun z => nI (sl z / 8))))]) [(M, .inr (5, [.int (nI 2), .ref m1, .ref m2, .ref m3, .ref m4, .ref m5, .int (nI fl), .int (nI qt), .int (nI nn), .ref m6, .ref m7, .ref m8, .ref m9, .ref m10, .ref m11, .ref m12, .ref m13, .ref m14, .ref m15, .int mam])), (m1, .inl (cy.1, 4, .inl (fun z => nI (fc z)))), (m2, .inl (cy.1, 32, .inl lm)), (m6, .inl (cy.1, 12, .inl ab)), (m7, .inl (cy.1, 12, .inl (fun z => nI (sl z % 8)))), (m8, .inl (cy.1, 12, .inl (fun z => nI (sl z / 8))))] → va_S (zIn [(M, .inr (5, [.int thr, .ref m1, .ref m2, .ref m3, .ref m4, .ref m5, .int (nI fl), .int (nI qt), .int (nI nn), .ref m6, .ref m7, .ref m8, .ref m9, .ref m10, .ref m11, .ref m12, .ref m13, .ref m14, .ref m15, .int mam])), (m1, .inl (cy.1, 4, .inl (fun z => nI (fc z)))), (m2, .inl (cy.1, 32, .inl lm)), (m6, .inl (cy.1, 12, .inl ab)), (m7, .inl (cy.1, 12, .inl (fun z => nI (sl z % 8)))), (m8, .inl (cy.1, 12, .inl (fun z => nI (sl z / 8))))]) s.heap H locs → lv_has ls 7 [(0, .ref M), (1, .int (nI k)), (2, .int x), (3, .int ((-1 : Int32))), (4, .int (nI mc9)), (5, .int (bI (A))), (6, .int (nI n))] → W p l e rmX5_node s m [.ref M, .int (nI k), .int x].toArray below meth c H locs 0 0 (zWQ (Unit) D below [.ref M, .int (nI k), .int x].toArray s [(M, .inr (5, [.int thr, .ref m1, .ref m2, .ref m3, .ref m4, .ref m5, .int (nI fl), .int (nI qt), .int (nI nn), .ref m6, .ref m7, .ref m8, .ref m9, .ref m10, .ref m11, .ref m12, .ref m13, .ref m14, .ref m15, .int mam])), (m1, .inl (cy.1, 4, .inl (fun z => nI (fc z)))), (m2, .inl (cy.1, 32, .inl lm)), (m6, .inl (cy.1, 12, .inl ab)), (m7, .inl (cy.1, 12, .inl (fun z => nI (sl z % 8)))), (m8, .inl (cy.1, 12, .inl (fun z => nI (sl z / 8))))] (fun _ _ => True) (fun _ => [(M, .inr (5, [.int (nI 2), .ref m1, .ref m2, .ref m3, .ref m4, .ref m5, .int (nI fl), .int (nI qt), .int (nI nn), .ref m6, .ref m7, .ref m8, .ref m9, .ref m10, .ref m11, .ref m12, .ref m13, .ref m14, .ref m15, .int mam])), (m1, .inl (cy.1, 4, .inl (fun z => nI (fc z)))), (m2, .inl (cy.1, 32, .inl lm)), (m6, .inl (cy.1, 12, .inl ab)), (m7, .inl (cy.1, 12, .inl (fun z => nI (sl z % 8)))), (m8, .inl (cy.1, 12, .inl (fun z => nI (sl z / 8))))])) (F0 m 90 ls []) := by
              intro fuel
              induction fuel with
              | zero => intro n mc9 A hfu hi hm; exact absurd hfu (by omega)
              | succ fuel ih_lo =>
                intro n mc9 A hfu hi hm H locs ls hP hD hS hl
                refine lv_iload hx hb dX5_node_90 (lv_at hl 6 rfl) ?_
                refine lv_aload_n hx hb dX5_node_92 rfl (lv_at hl 0 rfl) ?_
                refine va_get (D := D) (ci := 5) (v := .int (nI nn)) (C := RX5) (T := TX5) (N := 20) hx hb hts in_wsX5_node_X5 hown hK.1 hP 0 rfl rfl 8 (by decide) (hts _ lk361_wsX5_node) (fun _ h9 => h9) rfl dX5_node_93 ?_
                refine lv_icmp_ge (tgt := 160) hx hb dX5_node_96 (by decide) (fun cb6 => ?_) (fun cb6 => ?_)
                · have cb6 : nn ≤ n := zn_ge_t (a := n) (b := nn) (by omega) (by omega) cb6
                  refine lv_aload_n hx hb dX5_node_160 rfl (lv_at hl 0 rfl) ?_
                  refine va_get (D := D) (ci := 5) (v := .int (nI 2)) (C := RX5) (T := TX5) (N := 20) hx hb hts in_wsX5_node_X5 hown hK.1 hP 0 rfl rfl 0 (by decide) (hts _ lk358_wsX5_node) (fun _ h9 => h9) rfl dX5_node_161 ?_
                  refine lv_if_ne (tgt := 192) hx hb dX5_node_164 (by decide) (fun cb7 => ?_) (fun cb7 => ?_)
                  · have cb7 : ¬ (2 = 0) := zn_ne_f (a := 2) (b := 0) (by omega) (by omega) cb7
                    refine lv_aload_n hx hb dX5_node_192 rfl (lv_at hl 0 rfl) ?_
                    refine va_get (D := D) (ci := 5) (v := .int (nI 2)) (C := RX5) (T := TX5) (N := 20) hx hb hts in_wsX5_node_X5 hown hK.1 hP 0 rfl rfl 0 (by decide) (hts _ lk358_wsX5_node) (fun _ h9 => h9) rfl dX5_node_193 ?_
                    refine lv_if_le (tgt := 201) hx hb dX5_node_196 (by decide) (fun cb8 => ?_) (fun cb8 => ?_)
                    · have cb8 : 2 ≤ 0 := zn_le_t (a := 2) (b := 0) (by omega) (by omega) cb8
                      exact absurd cb8 (by decide)
                    · have cb8 : ¬ (2 ≤ 0) := zn_le_f (a := 2) (b := 0) (by omega) (by omega) cb8
                      refine lv_iconst (v := nI 0) hx hb dX5_node_199 (by decide) ?_
                      exact z_iretW () hx hb hr hlocks hS dX5_node_200 hP trivial
                  · have cb7 : 2 = 0 := zn_ne_t (a := 2) (b := 0) (by omega) (by omega) cb7
                    exact absurd cb7 (by decide)
                · have cb6 : ¬ (nn ≤ n) := zn_ge_f (a := n) (b := nn) (by omega) (by omega) cb6
                  refine lv_iload hx hb dX5_node_99 (lv_at hl 4 rfl) ?_
                  refine lv_aload_n hx hb dX5_node_101 rfl (lv_at hl 0 rfl) ?_
                  refine va_get (D := D) (ci := 5) (v := .ref m6) (C := RX5) (T := TX5) (N := 20) hx hb hts in_wsX5_node_X5 hown hK.1 hP 0 rfl rfl 9 (by decide) (hts _ lk362_wsX5_node) (fun _ h9 => h9) rfl dX5_node_102 ?_
                  refine lv_iload hx hb dX5_node_105 (lv_at hl 6 rfl) ?_
                  refine z_iald (v := (ab n)) hx hb hK.1 hP 3 0 rfl rfl (k := n) (by omega) (by decide) rfl dX5_node_107 ?_
                  refine lv_iload_n hx hb dX5_node_108 rfl (lv_at hl 1 rfl) ?_
                  refine lv_icmp_ne (tgt := 116) hx hb dX5_node_109 (by decide) (fun cb9 => ?_) (fun cb9 => ?_)
                  · skip
                    refine lv_iconst (v := nI 0) hx hb dX5_node_116 (by decide) ?_
                    refine lv_iadd hx hb dX5_node_117 ?_
                    refine z_top (y := nI (mc9 + 0)) (nI_add _ _) ?_
                    refine lv_istore (lv' := [(4, .int (nI (mc9 + 0))), (0, .ref M), (1, .int (nI k)), (2, .int x), (3, .int ((-1 : Int32))), (5, .int (bI (A))), (6, .int (nI n))]) hx hb dX5_node_118 hl (by decide) rfl (fun ls hl => ?_)
                    refine lv_iload hx hb dX5_node_120 (lv_at hl 5 rfl) ?_
                    refine lv_if_ne (tgt := 147) hx hb dX5_node_122 (by decide) (fun cb10 => ?_) (fun cb10 => ?_)
                    · have cb10 : (A) = true := bI_f0 cb10
                      refine lv_iconst (v := nI 1) hx hb dX5_node_147 (by decide) ?_
                      refine lv_goto (tgt := 152) hx hb dX5_node_148 (by decide) ?_
                      refine lv_istore (lv' := [(5, .int (nI 1)), (4, .int (nI (mc9 + 0))), (0, .ref M), (1, .int (nI k)), (2, .int x), (3, .int ((-1 : Int32))), (6, .int (nI n))]) hx hb dX5_node_152 hl (by decide) rfl (fun ls hl => ?_)
                      refine lv_iinc (v := nI (n + 1)) (lv' := [(6, .int (nI (n + 1))), (5, .int (nI 1)), (4, .int (nI (mc9 + 0))), (0, .ref M), (1, .int (nI k)), (2, .int x), (3, .int ((-1 : Int32)))]) hx hb dX5_node_154 hl (k := 6) rfl (z_inc _) (by decide) rfl (fun ls hl => ?_)
                      refine lv_goto (tgt := 90) hx hb dX5_node_157 (by decide) ?_
                      exact ih_lo (n + 1) (mc9 + 0) true (by omega) (by omega) (by omega) _ _ _ hP hD hS (lv_sub hl [3, 4, 5, 6, 2, 1, 0] rfl)
                    · have cb10 : (A) = false := bI_t0 cb10
                      refine lv_aload_n hx hb dX5_node_125 rfl (lv_at hl 1 rfl) ?_
                      refine va_get (D := D) (ci := 5) (v := .ref m6) (C := RX5) (T := TX5) (N := 20) hx hb hts in_wsX5_node_X5 hown hK.1 hP 0 rfl rfl 9 (by decide) (hts _ lk362_wsX5_node) (fun _ h9 => h9) rfl dX5_node_126 ?_
                      refine lv_iload hx hb dX5_node_129 (lv_at hl 6 rfl) ?_
                      refine z_iald (v := (ab n)) hx hb hK.1 hP 3 0 rfl rfl (k := n) (by omega) (by decide) rfl dX5_node_131 ?_
                      refine lv_iload_n hx hb dX5_node_132 rfl (lv_at hl 2 rfl) ?_
                      refine lv_icmp_ne (tgt := 151) hx hb dX5_node_133 (by decide) (fun cb11 => ?_) (fun cb11 => ?_)
                      · skip
                        refine lv_iconst (v := nI 0) hx hb dX5_node_151 (by decide) ?_
                        refine lv_istore (lv' := [(5, .int (nI 0)), (4, .int (nI (mc9 + 0))), (0, .ref M), (1, .int (nI k)), (2, .int x), (3, .int ((-1 : Int32))), (6, .int (nI n))]) hx hb dX5_node_152 hl (by decide) rfl (fun ls hl => ?_)
                        refine lv_iinc (v := nI (n + 1)) (lv' := [(6, .int (nI (n + 1))), (5, .int (nI 0)), (4, .int (nI (mc9 + 0))), (0, .ref M), (1, .int (nI k)), (2, .int x), (3, .int ((-1 : Int32)))]) hx hb dX5_node_154 hl (k := 6) rfl (z_inc _) (by decide) rfl (fun ls hl => ?_)
                        refine lv_goto (tgt := 90) hx hb dX5_node_157 (by decide) ?_
                        exact ih_lo (n + 1) (mc9 + 0) false (by omega) (by omega) (by omega) _ _ _ hP hD hS (lv_sub hl [3, 4, 5, 6, 2, 1, 0] rfl)
                      · skip
                        refine lv_aload_n hx hb dX5_node_136 rfl (lv_at hl 1 rfl) ?_
                        refine va_get (D := D) (ci := 5) (v := .ref m7) (C := RX5) (T := TX5) (N := 20) hx hb hts in_wsX5_node_X5 hown hK.1 hP 0 rfl rfl 10 (by decide) (hts _ lk363_wsX5_node) (fun _ h9 => h9) rfl dX5_node_137 ?_
                        refine lv_iload hx hb dX5_node_140 (lv_at hl 6 rfl) ?_
                        refine z_iald (v := nI (sl n % 8)) hx hb hK.1 hP 4 0 rfl rfl (k := n) (by omega) (by decide) rfl dX5_node_142 ?_
                        refine lv_iload_n hx hb dX5_node_143 rfl (lv_at hl 3 rfl) ?_
                        refine lv_icmp_ne (tgt := 151) hx hb dX5_node_144 (by decide) (fun cb12 => ?_) (fun cb12 => ?_)
                        · skip
                          refine lv_iconst (v := nI 0) hx hb dX5_node_151 (by decide) ?_
                          refine lv_istore (lv' := [(5, .int (nI 0)), (4, .int (nI (mc9 + 0))), (0, .ref M), (1, .int (nI k)), (2, .int x), (3, .int ((-1 : Int32))), (6, .int (nI n))]) hx hb dX5_node_152 hl (by decide) rfl (fun ls hl => ?_)
                          refine lv_iinc (v := nI (n + 1)) (lv' := [(6, .int (nI (n + 1))), (5, .int (nI 0)), (4, .int (nI (mc9 + 0))), (0, .ref M), (1, .int (nI k)), (2, .int x), (3, .int ((-1 : Int32)))]) hx hb dX5_node_154 hl (k := 6) rfl (z_inc _) (by decide) rfl (fun ls hl => ?_)
                          refine lv_goto (tgt := 90) hx hb dX5_node_157 (by decide) ?_
                          exact ih_lo (n + 1) (mc9 + 0) false (by omega) (by omega) (by omega) _ _ _ hP hD hS (lv_sub hl [3, 4, 5, 6, 2, 1, 0] rfl)
                        · skip
                          refine lv_iconst (v := nI 1) hx hb dX5_node_147 (by decide) ?_
                          refine lv_goto (tgt := 152) hx hb dX5_node_148 (by decide) ?_
                          refine lv_istore (lv' := [(5, .int (nI 1)), (4, .int (nI (mc9 + 0))), (0, .ref M), (1, .int (nI k)), (2, .int x), (3, .int ((-1 : Int32))), (6, .int (nI n))]) hx hb dX5_node_152 hl (by decide) rfl (fun ls hl => ?_)
                          refine lv_iinc (v := nI (n + 1)) (lv' := [(6, .int (nI (n + 1))), (5, .int (nI 1)), (4, .int (nI (mc9 + 0))), (0, .ref M), (1, .int (nI k)), (2, .int x), (3, .int ((-1 : Int32)))]) hx hb dX5_node_154 hl (k := 6) rfl (z_inc _) (by decide) rfl (fun ls hl => ?_)
                          refine lv_goto (tgt := 90) hx hb dX5_node_157 (by decide) ?_
                          exact ih_lo (n + 1) (mc9 + 0) true (by omega) (by omega) (by omega) _ _ _ hP hD hS (lv_sub hl [3, 4, 5, 6, 2, 1, 0] rfl)
                  · skip
                    refine lv_iconst (v := nI 1) hx hb dX5_node_112 (by decide) ?_
                    refine lv_goto (tgt := 117) hx hb dX5_node_113 (by decide) ?_
                    refine lv_iadd hx hb dX5_node_117 ?_
                    refine z_top (y := nI (mc9 + 1)) (nI_add _ _) ?_
                    refine lv_istore (lv' := [(4, .int (nI (mc9 + 1))), (0, .ref M), (1, .int (nI k)), (2, .int x), (3, .int ((-1 : Int32))), (5, .int (bI (A))), (6, .int (nI n))]) hx hb dX5_node_118 hl (by decide) rfl (fun ls hl => ?_)
                    refine lv_iload hx hb dX5_node_120 (lv_at hl 5 rfl) ?_
                    refine lv_if_ne (tgt := 147) hx hb dX5_node_122 (by decide) (fun cb13 => ?_) (fun cb13 => ?_)
                    · have cb13 : (A) = true := bI_f0 cb13
                      refine lv_iconst (v := nI 1) hx hb dX5_node_147 (by decide) ?_
                      refine lv_goto (tgt := 152) hx hb dX5_node_148 (by decide) ?_
                      refine lv_istore (lv' := [(5, .int (nI 1)), (4, .int (nI (mc9 + 1))), (0, .ref M), (1, .int (nI k)), (2, .int x), (3, .int ((-1 : Int32))), (6, .int (nI n))]) hx hb dX5_node_152 hl (by decide) rfl (fun ls hl => ?_)
                      refine lv_iinc (v := nI (n + 1)) (lv' := [(6, .int (nI (n + 1))), (5, .int (nI 1)), (4, .int (nI (mc9 + 1))), (0, .ref M), (1, .int (nI k)), (2, .int x), (3, .int ((-1 : Int32)))]) hx hb dX5_node_154 hl (k := 6) rfl (z_inc _) (by decide) rfl (fun ls hl => ?_)
                      refine lv_goto (tgt := 90) hx hb dX5_node_157 (by decide) ?_
                      exact ih_lo (n + 1) (mc9 + 1) true (by omega) (by omega) (by omega) _ _ _ hP hD hS (lv_sub hl [3, 4, 5, 6, 2, 1, 0] rfl)
                    · have cb13 : (A) = false := bI_t0 cb13
                      refine lv_aload_n hx hb dX5_node_125 rfl (lv_at hl 1 rfl) ?_
                      refine va_get (D := D) (ci := 5) (v := .ref m6) (C := RX5) (T := TX5) (N := 20) hx hb hts in_wsX5_node_X5 hown hK.1 hP 0 rfl rfl 9 (by decide) (hts _ lk362_wsX5_node) (fun _ h9 => h9) rfl dX5_node_126 ?_
                      refine lv_iload hx hb dX5_node_129 (lv_at hl 6 rfl) ?_
                      refine z_iald (v := (ab n)) hx hb hK.1 hP 3 0 rfl rfl (k := n) (by omega) (by decide) rfl dX5_node_131 ?_
                      refine lv_iload_n hx hb dX5_node_132 rfl (lv_at hl 2 rfl) ?_
                      refine lv_icmp_ne (tgt := 151) hx hb dX5_node_133 (by decide) (fun cb14 => ?_) (fun cb14 => ?_)
                      · skip
                        refine lv_iconst (v := nI 0) hx hb dX5_node_151 (by decide) ?_
                        refine lv_istore (lv' := [(5, .int (nI 0)), (4, .int (nI (mc9 + 1))), (0, .ref M), (1, .int (nI k)), (2, .int x), (3, .int ((-1 : Int32))), (6, .int (nI n))]) hx hb dX5_node_152 hl (by decide) rfl (fun ls hl => ?_)
                        refine lv_iinc (v := nI (n + 1)) (lv' := [(6, .int (nI (n + 1))), (5, .int (nI 0)), (4, .int (nI (mc9 + 1))), (0, .ref M), (1, .int (nI k)), (2, .int x), (3, .int ((-1 : Int32)))]) hx hb dX5_node_154 hl (k := 6) rfl (z_inc _) (by decide) rfl (fun ls hl => ?_)
                        refine lv_goto (tgt := 90) hx hb dX5_node_157 (by decide) ?_
                        exact ih_lo (n + 1) (mc9 + 1) false (by omega) (by omega) (by omega) _ _ _ hP hD hS (lv_sub hl [3, 4, 5, 6, 2, 1, 0] rfl)
                      · skip
                        refine lv_aload_n hx hb dX5_node_136 rfl (lv_at hl 1 rfl) ?_
                        refine va_get (D := D) (ci := 5) (v := .ref m7) (C := RX5) (T := TX5) (N := 20) hx hb hts in_wsX5_node_X5 hown hK.1 hP 0 rfl rfl 10 (by decide) (hts _ lk363_wsX5_node) (fun _ h9 => h9) rfl dX5_node_137 ?_
                        refine lv_iload hx hb dX5_node_140 (lv_at hl 6 rfl) ?_
                        refine z_iald (v := nI (sl n % 8)) hx hb hK.1 hP 4 0 rfl rfl (k := n) (by omega) (by decide) rfl dX5_node_142 ?_
                        refine lv_iload_n hx hb dX5_node_143 rfl (lv_at hl 3 rfl) ?_
                        refine lv_icmp_ne (tgt := 151) hx hb dX5_node_144 (by decide) (fun cb15 => ?_) (fun cb15 => ?_)
                        · skip
                          refine lv_iconst (v := nI 0) hx hb dX5_node_151 (by decide) ?_
                          refine lv_istore (lv' := [(5, .int (nI 0)), (4, .int (nI (mc9 + 1))), (0, .ref M), (1, .int (nI k)), (2, .int x), (3, .int ((-1 : Int32))), (6, .int (nI n))]) hx hb dX5_node_152 hl (by decide) rfl (fun ls hl => ?_)
                          refine lv_iinc (v := nI (n + 1)) (lv' := [(6, .int (nI (n + 1))), (5, .int (nI 0)), (4, .int (nI (mc9 + 1))), (0, .ref M), (1, .int (nI k)), (2, .int x), (3, .int ((-1 : Int32)))]) hx hb dX5_node_154 hl (k := 6) rfl (z_inc _) (by decide) rfl (fun ls hl => ?_)
                          refine lv_goto (tgt := 90) hx hb dX5_node_157 (by decide) ?_
                          exact ih_lo (n + 1) (mc9 + 1) false (by omega) (by omega) (by omega) _ _ _ hP hD hS (lv_sub hl [3, 4, 5, 6, 2, 1, 0] rfl)
                        · skip
                          refine lv_iconst (v := nI 1) hx hb dX5_node_147 (by decide) ?_
                          refine lv_goto (tgt := 152) hx hb dX5_node_148 (by decide) ?_
                          refine lv_istore (lv' := [(5, .int (nI 1)), (4, .int (nI (mc9 + 1))), (0, .ref M), (1, .int (nI k)), (2, .int x), (3, .int ((-1 : Int32))), (6, .int (nI n))]) hx hb dX5_node_152 hl (by decide) rfl (fun ls hl => ?_)
                          refine lv_iinc (v := nI (n + 1)) (lv' := [(6, .int (nI (n + 1))), (5, .int (nI 1)), (4, .int (nI (mc9 + 1))), (0, .ref M), (1, .int (nI k)), (2, .int x), (3, .int ((-1 : Int32)))]) hx hb dX5_node_154 hl (k := 6) rfl (z_inc _) (by decide) rfl (fun ls hl => ?_)
                          refine lv_goto (tgt := 90) hx hb dX5_node_157 (by decide) ?_
                          exact ih_lo (n + 1) (mc9 + 1) true (by omega) (by omega) (by omega) _ _ _ hP hD hS (lv_sub hl [3, 4, 5, 6, 2, 1, 0] rfl)
            exact lo (nn + 1) 0 0 false (by omega) (by omega) (by omega) _ _ _ hP hD hS (lv_sub hl [4, 5, 6, 3, 2, 1, 0] rfl)
        · skip
          exact absurd cb4 (nI_m1 (by omega))
      · have cb3 : ¬ (0 ≤ 0) := zn_le_f (a := 0) (b := 0) (by omega) (by omega) cb3
        exact absurd cb3 (by decide)
set_option maxHeartbeats 4000000 in
set_option maxRecDepth 100000 in
theorem c_X5_node_badN {l : Launch} {D : va_G} {cy : zCy} {M m1 m2 m3 m4 m5 m6 m7 m8 m9 m10 m11 m12 m13 m14 m15 nn qt fl : Nat} {thr mam : Int32} {fc sl : Nat → Nat} {lm ab : Nat → Int32} (hn : nn ≤ 12) {x y : Int32} (hx9 : ¬ x = -1) (hbad : ¬ inN nn x) : zW (Unit) l yX5_node wsX5_node rmX5_node D cy [(M, .inr (5, [.int thr, .ref m1, .ref m2, .ref m3, .ref m4, .ref m5, .int (nI fl), .int (nI qt), .int (nI nn), .ref m6, .ref m7, .ref m8, .ref m9, .ref m10, .ref m11, .ref m12, .ref m13, .ref m14, .ref m15, .int mam])), (m1, .inl (cy.1, 4, .inl (fun z => nI (fc z)))), (m2, .inl (cy.1, 32, .inl lm)), (m6, .inl (cy.1, 12, .inl ab)), (m7, .inl (cy.1, 12, .inl (fun z => nI (sl z % 8)))), (m8, .inl (cy.1, 12, .inl (fun z => nI (sl z / 8))))] [.ref M, .int x, .int y] (fun _ _ => True) (fun _ => [(M, .inr (5, [.int (nI 1), .ref m1, .ref m2, .ref m3, .ref m4, .ref m5, .int (nI fl), .int (nI qt), .int (nI nn), .ref m6, .ref m7, .ref m8, .ref m9, .ref m10, .ref m11, .ref m12, .ref m13, .ref m14, .ref m15, .int mam])), (m1, .inl (cy.1, 4, .inl (fun z => nI (fc z)))), (m2, .inl (cy.1, 32, .inl lm)), (m6, .inl (cy.1, 12, .inl ab)), (m7, .inl (cy.1, 12, .inl (fun z => nI (sl z % 8)))), (m8, .inl (cy.1, 12, .inl (fun z => nI (sl z / 8))))]) := by
  refine zW.of (cc := cX5_node) (maxL := 7) (ret := (some .int)) (by decide) rfl rfl ?_
  intro p e s m below meth c ls C hP hK hD hl
  obtain ⟨hx, hb, hr, hml, hts, hown, hlocks⟩ := C
  have hS : va_S (zIn [(M, .inr (5, [.int thr, .ref m1, .ref m2, .ref m3, .ref m4, .ref m5, .int (nI fl), .int (nI qt), .int (nI nn), .ref m6, .ref m7, .ref m8, .ref m9, .ref m10, .ref m11, .ref m12, .ref m13, .ref m14, .ref m15, .int mam])), (m1, .inl (cy.1, 4, .inl (fun z => nI (fc z)))), (m2, .inl (cy.1, 32, .inl lm)), (m6, .inl (cy.1, 12, .inl ab)), (m7, .inl (cy.1, 12, .inl (fun z => nI (sl z % 8)))), (m8, .inl (cy.1, 12, .inl (fun z => nI (sl z / 8))))]) s.heap s.heap [] := va_S.rf
  have hl : lv_has ls 7 [(0, .ref M), (1, .int x), (2, .int y)] := hl
  refine lv_aload_n hx hb dX5_node_0 rfl (lv_at hl 0 rfl) ?_
  refine lv_iload_n hx hb dX5_node_1 rfl (lv_at hl 1 rfl) ?_
  refine lv_iconst (v := (-1 : Int32)) hx hb dX5_node_2 (by decide) ?_
  refine lv_icmp_eq (tgt := 14) hx hb dX5_node_3 (by decide) (fun cb1 => ?_) (fun cb1 => ?_)
  · skip
    exact absurd cb1 hx9
  · skip
    refine lv_aload_n hx hb dX5_node_6 rfl (lv_at hl 0 rfl) ?_
    refine lv_iload_n hx hb dX5_node_7 rfl (lv_at hl 1 rfl) ?_
    refine z_callV (b := M) (As := [.int x]) (rest := [.ref M]) ⟨hx, hb, hml, hown, hts⟩ hK hP hS (c_X5_isNode (i := 0) rfl hn (x := x)) (cwV 1 hts gX5_node_X5_isNode rfl rfl rfl k_yX5_isNode ⟨Nat.le_of_ble_eq_true rfl, Nat.le_of_ble_eq_true rfl⟩) 0 5 rfl rfl rfl rfl hl.1 rfl rfl dX5_node_8 ⟨Nat.le_of_ble_eq_true rfl, Nat.le_of_ble_eq_true rfl⟩ (fun H locs hP hS => ?_)
    refine lv_if_eq (tgt := 18) hx hb dX5_node_11 (by decide) (fun cb2 => ?_) (fun cb2 => ?_)
    · have cb2 : (decide (inN nn x)) = false := bI_t0 cb2
      refine lv_iconst (v := nI 1) hx hb dX5_node_18 (by decide) ?_
      refine va_put (D := D) (ci := 5) (v := .int (nI 1)) (ty := .int) (C := RX5) (T := TX5) (N := 20) hx hb hts in_wsX5_node_X5 tyX5 tyX5_ok nmX5 hown hK.1 hP hD hS 0 rfl rfl 0 (by decide) (hts _ lk358_wsX5_node) (fun _ h9 => h9) rfl (by decide +kernel) rfl rfl (Nat.le_of_ble_eq_true rfl) dX5_node_19 (fun H locs hP hD hS => ?_)
      have hP : va_P D vwCl [(M, .inr (5, [.int (nI 1), .ref m1, .ref m2, .ref m3, .ref m4, .ref m5, .int (nI fl), .int (nI qt), .int (nI nn), .ref m6, .ref m7, .ref m8, .ref m9, .ref m10, .ref m11, .ref m12, .ref m13, .ref m14, .ref m15, .int mam])), (m1, .inl (cy.1, 4, .inl (fun z => nI (fc z)))), (m2, .inl (cy.1, 32, .inl lm)), (m6, .inl (cy.1, 12, .inl ab)), (m7, .inl (cy.1, 12, .inl (fun z => nI (sl z % 8)))), (m8, .inl (cy.1, 12, .inl (fun z => nI (sl z / 8))))] H := hP
      have hD : va_D (zIn [(M, .inr (5, [.int thr, .ref m1, .ref m2, .ref m3, .ref m4, .ref m5, .int (nI fl), .int (nI qt), .int (nI nn), .ref m6, .ref m7, .ref m8, .ref m9, .ref m10, .ref m11, .ref m12, .ref m13, .ref m14, .ref m15, .int mam])), (m1, .inl (cy.1, 4, .inl (fun z => nI (fc z)))), (m2, .inl (cy.1, 32, .inl lm)), (m6, .inl (cy.1, 12, .inl ab)), (m7, .inl (cy.1, 12, .inl (fun z => nI (sl z % 8)))), (m8, .inl (cy.1, 12, .inl (fun z => nI (sl z / 8))))]) [(M, .inr (5, [.int (nI 1), .ref m1, .ref m2, .ref m3, .ref m4, .ref m5, .int (nI fl), .int (nI qt), .int (nI nn), .ref m6, .ref m7, .ref m8, .ref m9, .ref m10, .ref m11, .ref m12, .ref m13, .ref m14, .ref m15, .int mam])), (m1, .inl (cy.1, 4, .inl (fun z => nI (fc z)))), (m2, .inl (cy.1, 32, .inl lm)), (m6, .inl (cy.1, 12, .inl ab)), (m7, .inl (cy.1, 12, .inl (fun z => nI (sl z % 8)))), (m8, .inl (cy.1, 12, .inl (fun z => nI (sl z / 8))))] := hD
      refine lv_aload_n hx hb dX5_node_22 rfl (lv_at hl 0 rfl) ?_
      refine va_get (D := D) (ci := 5) (v := .int (nI 1)) (C := RX5) (T := TX5) (N := 20) hx hb hts in_wsX5_node_X5 hown hK.1 hP 0 rfl rfl 0 (by decide) (hts _ lk358_wsX5_node) (fun _ h9 => h9) rfl dX5_node_23 ?_
      refine lv_if_le (tgt := 31) hx hb dX5_node_26 (by decide) (fun cb3 => ?_) (fun cb3 => ?_)
      · have cb3 : 1 ≤ 0 := zn_le_t (a := 1) (b := 0) (by omega) (by omega) cb3
        exact absurd cb3 (by decide)
      · have cb3 : ¬ (1 ≤ 0) := zn_le_f (a := 1) (b := 0) (by omega) (by omega) cb3
        refine lv_iconst (v := nI 0) hx hb dX5_node_29 (by decide) ?_
        exact z_iretW () hx hb hr hlocks hS dX5_node_30 hP trivial
    · have cb2 : (decide (inN nn x)) = true := bI_f0 cb2
      exact absurd (of_decide_eq_true cb2) hbad
