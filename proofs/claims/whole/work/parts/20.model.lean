/-! THE MODEL -/
theorem zin0 {x : Int32} {n : Nat} (hn : n < 2 ^ 31) : ((nI 0).toInt ≤ x.toInt ∧ x.toInt ≤ (nI n).toInt) ↔ inN (n + 1) x := by
  unfold inN; rw [nI_toInt (show 0 < 2 ^ 31 by decide), nI_toInt hn]; omega
theorem z_pm1 {c : Nat} (hc : c < 2 ^ 31) : (nI c - 1).toInt = (c : Int) - 1 := by
  cases c with
  | zero => decide
  | succ k => rw [nI_pred, nI_toInt (by omega)]; omega
theorem zin1 {x : Int32} {n : Nat} (hn : n < 2 ^ 31) : ((nI 0).toInt ≤ x.toInt ∧ x.toInt ≤ (nI n - 1).toInt) ↔ inN n x := by
  unfold inN; rw [nI_toInt (show 0 < 2 ^ 31 by decide), z_pm1 hn]; omega
theorem zin2 {x : Int32} {n : Nat} (hn : n < 2 ^ 31) : ((-1 : Int32).toInt ≤ x.toInt ∧ x.toInt ≤ (nI n).toInt) ↔ (x = -1 ∨ inN (n + 1) x) := by
  unfold inN; rw [nI_toInt hn, show (-1 : Int32).toInt = -1 by decide]
  constructor
  · intro z
    by_cases e : x.toInt = -1
    · exact Or.inl (Int32.toInt_inj.mp (e.trans (by decide)))
    · exact Or.inr (by omega)
  · rintro (rfl | z)
    · rw [show (-1 : Int32).toInt = -1 by decide]; omega
    · omega
theorem bI_in {n k : Nat} (h : k < n) (hk : k < 2 ^ 31) : bI (decide (inN n (nI k))) = nI 1 := by rw [decide_eq_true ((inN_nI hk).mpr h)]; rfl
theorem bI_im1 {n : Nat} : bI (decide (inN n (-1))) = nI 0 := by rw [decide_eq_false inN_m1]; rfl
set_option maxRecDepth 20000 in
theorem lk280_wsX5_thrown : Cond.fieldLink RX5 56 "QueryGatewayModel" "thrown" "I" ∈ wsX5_thrown := by decide +kernel
set_option maxRecDepth 20000 in
theorem in_wsX5_thrown_X5 : ∀ w ∈ wsX50, w ∈ wsX5_thrown := by decide +kernel
abbrev rmX5_thrown : Room := { frames := 0, cells := 0, slots := 0, locals := 0 }
set_option maxHeartbeats 4000000 in
set_option maxRecDepth 100000 in
theorem c_X5_thrown {l : Launch} {D : va_G} {cy : zCy} {w : va_W} {i M m1 m2 m3 m4 m5 m6 m7 m8 m9 m10 m11 m12 m13 m14 m15 nn : Nat} {thr fa qt mam : Int32} (h : w[i]? = some (M, .inr (5, [.int thr, .ref m1, .ref m2, .ref m3, .ref m4, .ref m5, .int fa, .int qt, .int (nI nn), .ref m6, .ref m7, .ref m8, .ref m9, .ref m10, .ref m11, .ref m12, .ref m13, .ref m14, .ref m15, .int mam]))) : zR l yX5_thrown wsX5_thrown rmX5_thrown D cy w [.ref M] (thr) := by
  refine zR.of (cc := cX5_thrown) (maxL := 1) (ret := (some .int)) (by decide) rfl rfl ?_
  intro p e s m below meth c ls C hP hK hl
  obtain ⟨hx, hb, hr, hml, hts, hown, hlocks⟩ := C
  have hS : va_S zF s.heap s.heap [] := va_S.rf
  have hl : lv_has ls 1 [(0, .ref M)] := hl
  refine lv_aload_n hx hb dX5_thrown_0 rfl (lv_at hl 0 rfl) ?_
  refine va_get (D := D) (ci := 5) (v := .int thr) (C := RX5) (T := TX5) (N := 20) hx hb hts in_wsX5_thrown_X5 hown hK.1 hP i h rfl 0 (by decide) (hts _ lk280_wsX5_thrown) (fun _ h9 => h9) rfl dX5_thrown_1 ?_
  exact z_iret hx hb hr hlocks hS dX5_thrown_4 rfl
abbrev rmX5_in : Room := { frames := 0, cells := 0, slots := 0, locals := 0 }
set_option maxHeartbeats 4000000 in
set_option maxRecDepth 100000 in
theorem c_X5_in {l : Launch} {D : va_G} {cy : zCy} {w : va_W} {v lo hi : Int32} : zR l yX5_in wsX5_in rmX5_in D cy w [.int v, .int lo, .int hi] (bI (decide (lo.toInt ≤ v.toInt ∧ v.toInt ≤ hi.toInt))) := by
  refine zR.of (cc := cX5_in) (maxL := 3) (ret := (some .boolean)) (by decide) rfl rfl ?_
  intro p e s m below meth c ls C hP hK hl
  obtain ⟨hx, hb, hr, hml, hts, hown, hlocks⟩ := C
  have hS : va_S zF s.heap s.heap [] := va_S.rf
  have hl : lv_has ls 3 [(0, .int v), (1, .int lo), (2, .int hi)] := hl
  refine lv_iload_n hx hb dX5_in_0 rfl (lv_at hl 0 rfl) ?_
  refine lv_iload_n hx hb dX5_in_1 rfl (lv_at hl 1 rfl) ?_
  refine lv_icmp_lt (tgt := 14) hx hb dX5_in_2 (by decide) (fun cb1 => ?_) (fun cb1 => ?_)
  · have cb1 : (v).toInt < (lo).toInt := ziII_lt_t cb1
    refine lv_iconst (v := nI 0) hx hb dX5_in_14 (by decide) ?_
    exact z_zret hx hb hr hlocks hS dX5_in_15 (bI_no (by omega)) (by decide)
  · have cb1 : ¬ ((v).toInt < (lo).toInt) := ziII_lt_f cb1
    refine lv_iload_n hx hb dX5_in_5 rfl (lv_at hl 0 rfl) ?_
    refine lv_iload_n hx hb dX5_in_6 rfl (lv_at hl 2 rfl) ?_
    refine lv_icmp_gt (tgt := 14) hx hb dX5_in_7 (by decide) (fun cb2 => ?_) (fun cb2 => ?_)
    · have cb2 : (hi).toInt < (v).toInt := ziII_lt_t cb2
      refine lv_iconst (v := nI 0) hx hb dX5_in_14 (by decide) ?_
      exact z_zret hx hb hr hlocks hS dX5_in_15 (bI_no (by omega)) (by decide)
    · have cb2 : ¬ ((hi).toInt < (v).toInt) := ziII_lt_f cb2
      refine lv_iconst (v := nI 1) hx hb dX5_in_10 (by decide) ?_
      refine lv_goto (tgt := 15) hx hb dX5_in_11 (by decide) ?_
      exact z_zret hx hb hr hlocks hS dX5_in_15 (bI_yes (by omega)) (by decide)
theorem k_yX5_in : yX5_in.cls ≠ "java/lang/invoke/MethodHandle" ∧ yX5_in.cls ≠ "java/lang/invoke/VarHandle" ∧ (parseMethodDescriptor yX5_in.desc).map (fun d => d.parameters.length) = some 3 := by decide +kernel
abbrev rmX5_isType : Room := { frames := 1, cells := 0, slots := 0, locals := 22 }
set_option maxHeartbeats 4000000 in
set_option maxRecDepth 100000 in
theorem c_X5_isType {l : Launch} {D : va_G} {cy : zCy} {w : va_W} {x : Int32} : zR l yX5_isType wsX5_isType rmX5_isType D cy w [.int x] (bI (decide (inN 4 x))) := by
  refine zR.of (cc := cX5_isType) (maxL := 1) (ret := (some .boolean)) (by decide) rfl rfl ?_
  intro p e s m below meth c ls C hP hK hl
  obtain ⟨hx, hb, hr, hml, hts, hown, hlocks⟩ := C
  have hS : va_S zF s.heap s.heap [] := va_S.rf
  have hl : lv_has ls 1 [(0, .int x)] := hl
  refine lv_iload_n hx hb dX5_isType_0 rfl (lv_at hl 0 rfl) ?_
  refine lv_iconst (v := nI 0) hx hb dX5_isType_1 (by decide) ?_
  refine lv_iconst (v := nI 3) hx hb dX5_isType_2 (by decide) ?_
  refine z_callS (As := [.int x, .int (nI 0), .int (nI 3)]) (rest := []) ⟨hx, hb, hml, hown, hts⟩ hK hP hS (c_X5_in (v := x) (lo := (nI 0)) (hi := (nI 3))) (va_cwS 3 hts gX5_isType_X5_in rfl rfl rfl k_yX5_in ⟨Nat.le_of_ble_eq_true rfl, Nat.le_of_ble_eq_true rfl⟩) rfl hl.1 rfl rfl dX5_isType_3 ⟨Nat.le_of_ble_eq_true rfl, Nat.le_of_ble_eq_true rfl⟩ (fun H locs hP hS => ?_)
  refine z_top (y := bI (decide (inN 4 x))) (congrArg bI (decide_eq_decide.mpr (zin0 (by decide)))) ?_
  exact z_zret hx hb hr hlocks hS dX5_isType_6 rfl (bI01 _)
abbrev rmX5_isService : Room := { frames := 1, cells := 0, slots := 0, locals := 22 }
set_option maxHeartbeats 4000000 in
set_option maxRecDepth 100000 in
theorem c_X5_isService {l : Launch} {D : va_G} {cy : zCy} {w : va_W} {x : Int32} : zR l yX5_isService wsX5_isService rmX5_isService D cy w [.int x] (bI (decide (inN 4 x))) := by
  refine zR.of (cc := cX5_isService) (maxL := 1) (ret := (some .boolean)) (by decide) rfl rfl ?_
  intro p e s m below meth c ls C hP hK hl
  obtain ⟨hx, hb, hr, hml, hts, hown, hlocks⟩ := C
  have hS : va_S zF s.heap s.heap [] := va_S.rf
  have hl : lv_has ls 1 [(0, .int x)] := hl
  refine lv_iload_n hx hb dX5_isService_0 rfl (lv_at hl 0 rfl) ?_
  refine lv_iconst (v := nI 0) hx hb dX5_isService_1 (by decide) ?_
  refine lv_iconst (v := nI 3) hx hb dX5_isService_2 (by decide) ?_
  refine z_callS (As := [.int x, .int (nI 0), .int (nI 3)]) (rest := []) ⟨hx, hb, hml, hown, hts⟩ hK hP hS (c_X5_in (v := x) (lo := (nI 0)) (hi := (nI 3))) (va_cwS 3 hts gX5_isService_X5_in rfl rfl rfl k_yX5_in ⟨Nat.le_of_ble_eq_true rfl, Nat.le_of_ble_eq_true rfl⟩) rfl hl.1 rfl rfl dX5_isService_3 ⟨Nat.le_of_ble_eq_true rfl, Nat.le_of_ble_eq_true rfl⟩ (fun H locs hP hS => ?_)
  refine z_top (y := bI (decide (inN 4 x))) (congrArg bI (decide_eq_decide.mpr (zin0 (by decide)))) ?_
  exact z_zret hx hb hr hlocks hS dX5_isService_6 rfl (bI01 _)
abbrev rmX5_isKey : Room := { frames := 1, cells := 0, slots := 0, locals := 22 }
set_option maxHeartbeats 4000000 in
set_option maxRecDepth 100000 in
theorem c_X5_isKey {l : Launch} {D : va_G} {cy : zCy} {w : va_W} {x : Int32} : zR l yX5_isKey wsX5_isKey rmX5_isKey D cy w [.int x] (bI (decide (inN 20 x))) := by
  refine zR.of (cc := cX5_isKey) (maxL := 1) (ret := (some .boolean)) (by decide) rfl rfl ?_
  intro p e s m below meth c ls C hP hK hl
  obtain ⟨hx, hb, hr, hml, hts, hown, hlocks⟩ := C
  have hS : va_S zF s.heap s.heap [] := va_S.rf
  have hl : lv_has ls 1 [(0, .int x)] := hl
  refine lv_iload_n hx hb dX5_isKey_0 rfl (lv_at hl 0 rfl) ?_
  refine lv_iconst (v := nI 0) hx hb dX5_isKey_1 (by decide) ?_
  refine lv_bipush (v := nI 19) hx hb dX5_isKey_2 (by decide) ?_
  refine z_callS (As := [.int x, .int (nI 0), .int (nI 19)]) (rest := []) ⟨hx, hb, hml, hown, hts⟩ hK hP hS (c_X5_in (v := x) (lo := (nI 0)) (hi := (nI 19))) (va_cwS 3 hts gX5_isKey_X5_in rfl rfl rfl k_yX5_in ⟨Nat.le_of_ble_eq_true rfl, Nat.le_of_ble_eq_true rfl⟩) rfl hl.1 rfl rfl dX5_isKey_4 ⟨Nat.le_of_ble_eq_true rfl, Nat.le_of_ble_eq_true rfl⟩ (fun H locs hP hS => ?_)
  refine z_top (y := bI (decide (inN 20 x))) (congrArg bI (decide_eq_decide.mpr (zin0 (by decide)))) ?_
  exact z_zret hx hb hr hlocks hS dX5_isKey_7 rfl (bI01 _)
set_option maxRecDepth 20000 in
theorem lk283_wsX5_isField : Cond.fieldLink RX5 7 "QueryGatewayModel" "fields" "[I" ∈ wsX5_isField := by decide +kernel
set_option maxRecDepth 20000 in
theorem in_wsX5_isField_X5 : ∀ w ∈ wsX50, w ∈ wsX5_isField := by decide +kernel
abbrev rmX5_isField : Room := { frames := 1, cells := 0, slots := 0, locals := 22 }
set_option maxHeartbeats 4000000 in
set_option maxRecDepth 100000 in
theorem c_X5_isField {l : Launch} {D : va_G} {cy : zCy} {w : va_W} {i M m1 m2 m3 m4 m5 m6 m7 m8 m9 m10 m11 m12 m13 m14 m15 nn : Nat} {thr fa qt mam : Int32} (h : w[i]? = some (M, .inr (5, [.int thr, .ref m1, .ref m2, .ref m3, .ref m4, .ref m5, .int fa, .int qt, .int (nI nn), .ref m6, .ref m7, .ref m8, .ref m9, .ref m10, .ref m11, .ref m12, .ref m13, .ref m14, .ref m15, .int mam]))) {j1 : Nat} {fc : Nat → Nat} (k1 : w[j1]? = some (m1, .inl (cy.1, 4, .inl (fun z => nI (fc z))))) {t : Nat} (ht : t < 4) (hf8 : fc t ≤ 8) {x : Int32} : zR l yX5_isField wsX5_isField rmX5_isField D cy w [.ref M, .int (nI t), .int x] (bI (decide (inN (fc t) x))) := by
  refine zR.of (cc := cX5_isField) (maxL := 3) (ret := (some .boolean)) (by decide) rfl rfl ?_
  intro p e s m below meth c ls C hP hK hl
  obtain ⟨hx, hb, hr, hml, hts, hown, hlocks⟩ := C
  have hS : va_S zF s.heap s.heap [] := va_S.rf
  have hl : lv_has ls 3 [(0, .ref M), (1, .int (nI t)), (2, .int x)] := hl
  refine lv_iload_n hx hb dX5_isField_0 rfl (lv_at hl 2 rfl) ?_
  refine lv_iconst (v := nI 0) hx hb dX5_isField_1 (by decide) ?_
  refine lv_aload_n hx hb dX5_isField_2 rfl (lv_at hl 0 rfl) ?_
  refine va_get (D := D) (ci := 5) (v := .ref m1) (C := RX5) (T := TX5) (N := 20) hx hb hts in_wsX5_isField_X5 hown hK.1 hP i h rfl 1 (by decide) (hts _ lk283_wsX5_isField) (fun _ h9 => h9) rfl dX5_isField_3 ?_
  refine lv_iload_n hx hb dX5_isField_6 rfl (lv_at hl 1 rfl) ?_
  refine z_iald (v := nI (fc t)) hx hb hK.1 hP j1 0 k1 rfl (k := t) (by omega) (by decide) rfl dX5_isField_7 ?_
  refine lv_iconst (v := nI 1) hx hb dX5_isField_8 (by decide) ?_
  refine lv_isub hx hb dX5_isField_9 ?_
  refine z_top (y := (nI (fc t) - 1)) rfl ?_
  refine z_callS (As := [.int x, .int (nI 0), .int ((nI (fc t) - 1))]) (rest := []) ⟨hx, hb, hml, hown, hts⟩ hK hP hS (c_X5_in (v := x) (lo := (nI 0)) (hi := ((nI (fc t) - 1)))) (va_cwS 3 hts gX5_isField_X5_in rfl rfl rfl k_yX5_in ⟨Nat.le_of_ble_eq_true rfl, Nat.le_of_ble_eq_true rfl⟩) rfl hl.1 rfl rfl dX5_isField_10 ⟨Nat.le_of_ble_eq_true rfl, Nat.le_of_ble_eq_true rfl⟩ (fun H locs hP hS => ?_)
  refine z_top (y := bI (decide (inN (fc t) x))) (congrArg bI (decide_eq_decide.mpr (zin1 (by omega)))) ?_
  exact z_zret hx hb hr hlocks hS dX5_isField_13 rfl (bI01 _)
set_option maxRecDepth 20000 in
theorem lk285_wsX5_isNode : Cond.fieldLink RX5 81 "QueryGatewayModel" "nodes" "I" ∈ wsX5_isNode := by decide +kernel
set_option maxRecDepth 20000 in
theorem in_wsX5_isNode_X5 : ∀ w ∈ wsX50, w ∈ wsX5_isNode := by decide +kernel
abbrev rmX5_isNode : Room := { frames := 1, cells := 0, slots := 0, locals := 22 }
set_option maxHeartbeats 4000000 in
set_option maxRecDepth 100000 in
theorem c_X5_isNode {l : Launch} {D : va_G} {cy : zCy} {w : va_W} {i M m1 m2 m3 m4 m5 m6 m7 m8 m9 m10 m11 m12 m13 m14 m15 nn : Nat} {thr fa qt mam : Int32} (h : w[i]? = some (M, .inr (5, [.int thr, .ref m1, .ref m2, .ref m3, .ref m4, .ref m5, .int fa, .int qt, .int (nI nn), .ref m6, .ref m7, .ref m8, .ref m9, .ref m10, .ref m11, .ref m12, .ref m13, .ref m14, .ref m15, .int mam]))) (hn : nn ≤ 12) {x : Int32} : zR l yX5_isNode wsX5_isNode rmX5_isNode D cy w [.ref M, .int x] (bI (decide (inN nn x))) := by
  refine zR.of (cc := cX5_isNode) (maxL := 2) (ret := (some .boolean)) (by decide) rfl rfl ?_
  intro p e s m below meth c ls C hP hK hl
  obtain ⟨hx, hb, hr, hml, hts, hown, hlocks⟩ := C
  have hS : va_S zF s.heap s.heap [] := va_S.rf
  have hl : lv_has ls 2 [(0, .ref M), (1, .int x)] := hl
  refine lv_iload_n hx hb dX5_isNode_0 rfl (lv_at hl 1 rfl) ?_
  refine lv_iconst (v := nI 0) hx hb dX5_isNode_1 (by decide) ?_
  refine lv_aload_n hx hb dX5_isNode_2 rfl (lv_at hl 0 rfl) ?_
  refine va_get (D := D) (ci := 5) (v := .int (nI nn)) (C := RX5) (T := TX5) (N := 20) hx hb hts in_wsX5_isNode_X5 hown hK.1 hP i h rfl 8 (by decide) (hts _ lk285_wsX5_isNode) (fun _ h9 => h9) rfl dX5_isNode_3 ?_
  refine lv_iconst (v := nI 1) hx hb dX5_isNode_6 (by decide) ?_
  refine lv_isub hx hb dX5_isNode_7 ?_
  refine z_top (y := (nI nn - 1)) rfl ?_
  refine z_callS (As := [.int x, .int (nI 0), .int ((nI nn - 1))]) (rest := []) ⟨hx, hb, hml, hown, hts⟩ hK hP hS (c_X5_in (v := x) (lo := (nI 0)) (hi := ((nI nn - 1)))) (va_cwS 3 hts gX5_isNode_X5_in rfl rfl rfl k_yX5_in ⟨Nat.le_of_ble_eq_true rfl, Nat.le_of_ble_eq_true rfl⟩) rfl hl.1 rfl rfl dX5_isNode_8 ⟨Nat.le_of_ble_eq_true rfl, Nat.le_of_ble_eq_true rfl⟩ (fun H locs hP hS => ?_)
  refine z_top (y := bI (decide (inN nn x))) (congrArg bI (decide_eq_decide.mpr (zin1 (by omega)))) ?_
  exact z_zret hx hb hr hlocks hS dX5_isNode_11 rfl (bI01 _)
set_option maxRecDepth 20000 in
theorem lk287_wsX5_fieldOf : Cond.fieldLink RX5 32 "QueryGatewayModel" "type" "[I" ∈ wsX5_fieldOf := by decide +kernel
set_option maxRecDepth 20000 in
theorem in_wsX5_fieldOf_X5 : ∀ w ∈ wsX50, w ∈ wsX5_fieldOf := by decide +kernel
set_option maxRecDepth 20000 in
theorem lk289_wsX5_fieldOf : Cond.fieldLink RX5 29 "QueryGatewayModel" "field" "[I" ∈ wsX5_fieldOf := by decide +kernel
abbrev rmX5_fieldOf : Room := { frames := 0, cells := 0, slots := 0, locals := 0 }
set_option maxHeartbeats 4000000 in
set_option maxRecDepth 100000 in
theorem c_X5_fieldOf {l : Launch} {D : va_G} {cy : zCy} {w : va_W} {i M m1 m2 m3 m4 m5 m6 m7 m8 m9 m10 m11 m12 m13 m14 m15 nn : Nat} {thr fa qt mam : Int32} (h : w[i]? = some (M, .inr (5, [.int thr, .ref m1, .ref m2, .ref m3, .ref m4, .ref m5, .int fa, .int qt, .int (nI nn), .ref m6, .ref m7, .ref m8, .ref m9, .ref m10, .ref m11, .ref m12, .ref m13, .ref m14, .ref m15, .int mam]))) {j1 : Nat} {sl : Nat → Nat} (k1 : w[j1]? = some (m8, .inl (cy.1, 12, .inl (fun z => nI (sl z / 8))))) {j2 : Nat} (k2 : w[j2]? = some (m7, .inl (cy.1, 12, .inl (fun z => nI (sl z % 8))))) {k : Nat} (hk : k < 12) : zR l yX5_fieldOf wsX5_fieldOf rmX5_fieldOf D cy w [.ref M, .int (nI k)] (nI (sl k)) := by
  refine zR.of (cc := cX5_fieldOf) (maxL := 2) (ret := (some .int)) (by decide) rfl rfl ?_
  intro p e s m below meth c ls C hP hK hl
  obtain ⟨hx, hb, hr, hml, hts, hown, hlocks⟩ := C
  have hS : va_S zF s.heap s.heap [] := va_S.rf
  have hl : lv_has ls 2 [(0, .ref M), (1, .int (nI k))] := hl
  refine lv_bipush (v := nI 8) hx hb dX5_fieldOf_0 (by decide) ?_
  refine lv_aload_n hx hb dX5_fieldOf_2 rfl (lv_at hl 0 rfl) ?_
  refine va_get (D := D) (ci := 5) (v := .ref m8) (C := RX5) (T := TX5) (N := 20) hx hb hts in_wsX5_fieldOf_X5 hown hK.1 hP i h rfl 11 (by decide) (hts _ lk287_wsX5_fieldOf) (fun _ h9 => h9) rfl dX5_fieldOf_3 ?_
  refine lv_iload_n hx hb dX5_fieldOf_6 rfl (lv_at hl 1 rfl) ?_
  refine z_iald (v := nI (sl k / 8)) hx hb hK.1 hP j1 0 k1 rfl (k := k) (by omega) (by decide) rfl dX5_fieldOf_7 ?_
  refine lv_imul hx hb dX5_fieldOf_8 ?_
  refine z_top (y := nI (8 * (sl k / 8))) (pk_mul _ _) ?_
  refine lv_aload_n hx hb dX5_fieldOf_9 rfl (lv_at hl 0 rfl) ?_
  refine va_get (D := D) (ci := 5) (v := .ref m7) (C := RX5) (T := TX5) (N := 20) hx hb hts in_wsX5_fieldOf_X5 hown hK.1 hP i h rfl 10 (by decide) (hts _ lk289_wsX5_fieldOf) (fun _ h9 => h9) rfl dX5_fieldOf_10 ?_
  refine lv_iload_n hx hb dX5_fieldOf_13 rfl (lv_at hl 1 rfl) ?_
  refine z_iald (v := nI (sl k % 8)) hx hb hK.1 hP j2 0 k2 rfl (k := k) (by omega) (by decide) rfl dX5_fieldOf_14 ?_
  refine lv_iadd hx hb dX5_fieldOf_15 ?_
  refine z_top (y := nI (sl k)) ((nI_add _ _).trans (congrArg nI (by omega))) ?_
  exact z_iret hx hb hr hlocks hS dX5_fieldOf_16 rfl
theorem z_mo : ∀ S, S < 16 → nI 0 + ((nI S >>> (nI 0 &&& 31)) &&& nI 1) + ((nI S >>> (nI 1 &&& 31)) &&& nI 1) + ((nI S >>> (nI 2 &&& 31)) &&& nI 1) + ((nI S >>> (nI 3 &&& 31)) &&& nI 1) = nI (zpop S) := by decide +kernel
theorem z_clr : ∀ S, S < 16 → ∀ s, s < 4 → nI S &&& (((nI 1) <<< (nI s &&& 31)) ^^^ (-1 : Int32)) = nI (zset false S s) := by decide +kernel
theorem z_shl1 : ∀ s, s < 31 → (nI 1) <<< (nI s &&& 31) = nI (2 ^ s) := by decide +kernel
abbrev rmX5_manyOf : Room := { frames := 0, cells := 0, slots := 0, locals := 0 }
set_option maxHeartbeats 4000000 in
set_option maxRecDepth 100000 in
theorem c_X5_manyOf {l : Launch} {D : va_G} {cy : zCy} {w : va_W} {S : Nat} (hS16 : S < 16) : zR l yX5_manyOf wsX5_manyOf rmX5_manyOf D cy w [.int (nI S)] (nI (zpop S)) := by
  refine zR.of (cc := cX5_manyOf) (maxL := 3) (ret := (some .int)) (by decide) rfl rfl ?_
  intro p e s m below meth c ls C hP hK hl
  obtain ⟨hx, hb, hr, hml, hts, hown, hlocks⟩ := C
  have hS : va_S zF s.heap s.heap [] := va_S.rf
  have hl : lv_has ls 3 [(0, .int (nI S))] := hl
  refine lv_iconst (v := nI 0) hx hb dX5_manyOf_0 (by decide) ?_
  refine lv_istore_n (lv' := [(1, .int (nI 0)), (0, .int (nI S))]) hx hb dX5_manyOf_1 rfl hl (by decide) rfl (fun ls hl => ?_)
  refine lv_iconst (v := nI 0) hx hb dX5_manyOf_2 (by decide) ?_
  refine lv_istore_n (lv' := [(2, .int (nI 0)), (1, .int (nI 0)), (0, .int (nI S))]) hx hb dX5_manyOf_3 rfl hl (by decide) rfl (fun ls hl => ?_)
  refine lv_iload_n hx hb dX5_manyOf_4 rfl (lv_at hl 0 rfl) ?_
  refine lv_iconst (v := nI 4) hx hb dX5_manyOf_5 (by decide) ?_
  refine lv_icmp_ge (tgt := 23) hx hb dX5_manyOf_6 (by decide) (fun cb1 => ?_) (fun cb1 => ?_)
  · have cb1 : 4 ≤ 0 := zn_ge_t (a := 0) (b := 4) (by omega) (by omega) cb1
    exact absurd cb1 (by decide)
  · have cb1 : ¬ (4 ≤ 0) := zn_ge_f (a := 0) (b := 4) (by omega) (by omega) cb1
    refine lv_iload_n hx hb dX5_manyOf_9 rfl (lv_at hl 1 rfl) ?_
    refine lv_iload_n hx hb dX5_manyOf_10 rfl (lv_at hl 2 rfl) ?_
    refine lv_iload_n hx hb dX5_manyOf_11 rfl (lv_at hl 0 rfl) ?_
    refine lv_ishr hx hb dX5_manyOf_12 ?_
    refine lv_topi (fun vx2 evx2 => ?_)
    refine lv_iconst (v := nI 1) hx hb dX5_manyOf_13 (by decide) ?_
    refine lv_iand hx hb dX5_manyOf_14 ?_
    refine lv_topi (fun vx3 evx3 => ?_)
    refine lv_iadd hx hb dX5_manyOf_15 ?_
    refine lv_topi (fun vx4 evx4 => ?_)
    refine lv_istore_n (lv' := [(1, .int vx4), (2, .int (nI 0)), (0, .int (nI S))]) hx hb dX5_manyOf_16 rfl hl (by decide) rfl (fun ls hl => ?_)
    refine lv_iinc (v := nI 1) (lv' := [(2, .int (nI 1)), (1, .int vx4), (0, .int (nI S))]) hx hb dX5_manyOf_17 hl (k := 1) rfl (z_inc _) (by decide) rfl (fun ls hl => ?_)
    refine lv_goto (tgt := 4) hx hb dX5_manyOf_20 (by decide) ?_
    refine lv_iload_n hx hb dX5_manyOf_4 rfl (lv_at hl 0 rfl) ?_
    refine lv_iconst (v := nI 4) hx hb dX5_manyOf_5 (by decide) ?_
    refine lv_icmp_ge (tgt := 23) hx hb dX5_manyOf_6 (by decide) (fun cb5 => ?_) (fun cb5 => ?_)
    · have cb5 : 4 ≤ 1 := zn_ge_t (a := 1) (b := 4) (by omega) (by omega) cb5
      exact absurd cb5 (by decide)
    · have cb5 : ¬ (4 ≤ 1) := zn_ge_f (a := 1) (b := 4) (by omega) (by omega) cb5
      refine lv_iload_n hx hb dX5_manyOf_9 rfl (lv_at hl 1 rfl) ?_
      refine lv_iload_n hx hb dX5_manyOf_10 rfl (lv_at hl 2 rfl) ?_
      refine lv_iload_n hx hb dX5_manyOf_11 rfl (lv_at hl 0 rfl) ?_
      refine lv_ishr hx hb dX5_manyOf_12 ?_
      refine lv_topi (fun vx6 evx6 => ?_)
      refine lv_iconst (v := nI 1) hx hb dX5_manyOf_13 (by decide) ?_
      refine lv_iand hx hb dX5_manyOf_14 ?_
      refine lv_topi (fun vx7 evx7 => ?_)
      refine lv_iadd hx hb dX5_manyOf_15 ?_
      refine lv_topi (fun vx8 evx8 => ?_)
      refine lv_istore_n (lv' := [(1, .int vx8), (2, .int (nI 1)), (0, .int (nI S))]) hx hb dX5_manyOf_16 rfl hl (by decide) rfl (fun ls hl => ?_)
      refine lv_iinc (v := nI 2) (lv' := [(2, .int (nI 2)), (1, .int vx8), (0, .int (nI S))]) hx hb dX5_manyOf_17 hl (k := 1) rfl (z_inc _) (by decide) rfl (fun ls hl => ?_)
      refine lv_goto (tgt := 4) hx hb dX5_manyOf_20 (by decide) ?_
      refine lv_iload_n hx hb dX5_manyOf_4 rfl (lv_at hl 0 rfl) ?_
      refine lv_iconst (v := nI 4) hx hb dX5_manyOf_5 (by decide) ?_
      refine lv_icmp_ge (tgt := 23) hx hb dX5_manyOf_6 (by decide) (fun cb9 => ?_) (fun cb9 => ?_)
      · have cb9 : 4 ≤ 2 := zn_ge_t (a := 2) (b := 4) (by omega) (by omega) cb9
        exact absurd cb9 (by decide)
      · have cb9 : ¬ (4 ≤ 2) := zn_ge_f (a := 2) (b := 4) (by omega) (by omega) cb9
        refine lv_iload_n hx hb dX5_manyOf_9 rfl (lv_at hl 1 rfl) ?_
        refine lv_iload_n hx hb dX5_manyOf_10 rfl (lv_at hl 2 rfl) ?_
        refine lv_iload_n hx hb dX5_manyOf_11 rfl (lv_at hl 0 rfl) ?_
        refine lv_ishr hx hb dX5_manyOf_12 ?_
        refine lv_topi (fun vx10 evx10 => ?_)
        refine lv_iconst (v := nI 1) hx hb dX5_manyOf_13 (by decide) ?_
        refine lv_iand hx hb dX5_manyOf_14 ?_
        refine lv_topi (fun vx11 evx11 => ?_)
        refine lv_iadd hx hb dX5_manyOf_15 ?_
        refine lv_topi (fun vx12 evx12 => ?_)
        refine lv_istore_n (lv' := [(1, .int vx12), (2, .int (nI 2)), (0, .int (nI S))]) hx hb dX5_manyOf_16 rfl hl (by decide) rfl (fun ls hl => ?_)
        refine lv_iinc (v := nI 3) (lv' := [(2, .int (nI 3)), (1, .int vx12), (0, .int (nI S))]) hx hb dX5_manyOf_17 hl (k := 1) rfl (z_inc _) (by decide) rfl (fun ls hl => ?_)
        refine lv_goto (tgt := 4) hx hb dX5_manyOf_20 (by decide) ?_
        refine lv_iload_n hx hb dX5_manyOf_4 rfl (lv_at hl 0 rfl) ?_
        refine lv_iconst (v := nI 4) hx hb dX5_manyOf_5 (by decide) ?_
        refine lv_icmp_ge (tgt := 23) hx hb dX5_manyOf_6 (by decide) (fun cb13 => ?_) (fun cb13 => ?_)
        · have cb13 : 4 ≤ 3 := zn_ge_t (a := 3) (b := 4) (by omega) (by omega) cb13
          exact absurd cb13 (by decide)
        · have cb13 : ¬ (4 ≤ 3) := zn_ge_f (a := 3) (b := 4) (by omega) (by omega) cb13
          refine lv_iload_n hx hb dX5_manyOf_9 rfl (lv_at hl 1 rfl) ?_
          refine lv_iload_n hx hb dX5_manyOf_10 rfl (lv_at hl 2 rfl) ?_
          refine lv_iload_n hx hb dX5_manyOf_11 rfl (lv_at hl 0 rfl) ?_
          refine lv_ishr hx hb dX5_manyOf_12 ?_
          refine lv_topi (fun vx14 evx14 => ?_)
          refine lv_iconst (v := nI 1) hx hb dX5_manyOf_13 (by decide) ?_
          refine lv_iand hx hb dX5_manyOf_14 ?_
          refine lv_topi (fun vx15 evx15 => ?_)
          refine lv_iadd hx hb dX5_manyOf_15 ?_
          refine lv_topi (fun vx16 evx16 => ?_)
          refine lv_istore_n (lv' := [(1, .int vx16), (2, .int (nI 3)), (0, .int (nI S))]) hx hb dX5_manyOf_16 rfl hl (by decide) rfl (fun ls hl => ?_)
          refine lv_iinc (v := nI 4) (lv' := [(2, .int (nI 4)), (1, .int vx16), (0, .int (nI S))]) hx hb dX5_manyOf_17 hl (k := 1) rfl (z_inc _) (by decide) rfl (fun ls hl => ?_)
          refine lv_goto (tgt := 4) hx hb dX5_manyOf_20 (by decide) ?_
          refine lv_iload_n hx hb dX5_manyOf_4 rfl (lv_at hl 0 rfl) ?_
          refine lv_iconst (v := nI 4) hx hb dX5_manyOf_5 (by decide) ?_
          refine lv_icmp_ge (tgt := 23) hx hb dX5_manyOf_6 (by decide) (fun cb17 => ?_) (fun cb17 => ?_)
          · have cb17 : 4 ≤ 4 := zn_ge_t (a := 4) (b := 4) (by omega) (by omega) cb17
            refine lv_iload_n hx hb dX5_manyOf_23 rfl (lv_at hl 1 rfl) ?_
            exact z_iret hx hb hr hlocks hS dX5_manyOf_24 (by subst_vars; exact z_mo S hS16)
          · have cb17 : ¬ (4 ≤ 4) := zn_ge_f (a := 4) (b := 4) (by omega) (by omega) cb17
            exact absurd cb17 (by decide)
set_option maxRecDepth 20000 in
theorem lk290_wsX5_fewestBy : Cond.fieldLink RX5 35 "QueryGatewayModel" "may" "[I" ∈ wsX5_fewestBy := by decide +kernel
set_option maxRecDepth 20000 in
theorem in_wsX5_fewestBy_X5 : ∀ w ∈ wsX50, w ∈ wsX5_fewestBy := by decide +kernel
set_option maxRecDepth 20000 in
theorem lk292_wsX5_fewestBy : Cond.fieldLink RX5 38 "QueryGatewayModel" "fewest" "[I" ∈ wsX5_fewestBy := by decide +kernel
abbrev rmX5_fewestBy : Room := { frames := 0, cells := 0, slots := 0, locals := 0 }
set_option maxHeartbeats 4000000 in
set_option maxRecDepth 100000 in
theorem c_X5_fewestBy {l : Launch} {D : va_G} {cy : zCy} {w : va_W} {i M m1 m2 m3 m4 m5 m6 m7 m8 m9 m10 m11 m12 m13 m14 m15 nn : Nat} {thr fa qt mam : Int32} (h : w[i]? = some (M, .inr (5, [.int thr, .ref m1, .ref m2, .ref m3, .ref m4, .ref m5, .int fa, .int qt, .int (nI nn), .ref m6, .ref m7, .ref m8, .ref m9, .ref m10, .ref m11, .ref m12, .ref m13, .ref m14, .ref m15, .int mam]))) {j1 : Nat} {my : Nat → Int32} (k1 : w[j1]? = some (m9, .inl (cy.1, 12, .inl my))) {j2 : Nat} {fw : Nat → Int32} (k2 : w[j2]? = some (m10, .inl (cy.1, 48, .inl fw))) {ch : Nat → Nat} {hh : Nat → Nat → Nat} {n S : Nat} (hn12 : n < 12) (hS16 : S < 16) (hch : my n = nI (ch n) ∧ ch n < 16) (hhb : ∀ v, v < 4 → fw (4 * n + v) = nI (hh n v) ∧ hh n v ≤ 1000) : zR l yX5_fewestBy wsX5_fewestBy rmX5_fewestBy D cy w [.ref M, .int (nI n), .int (nI S)] (nI (zF4 (ch n) (hh n) S 4)) := by
  refine zR.of (cc := cX5_fewestBy) (maxL := 6) (ret := (some .int)) (by decide) rfl rfl ?_
  intro p e s m below meth c ls C hP hK hl
  obtain ⟨hx, hb, hr, hml, hts, hown, hlocks⟩ := C
  have hS : va_S zF s.heap s.heap [] := va_S.rf
  have hl : lv_has ls 6 [(0, .ref M), (1, .int (nI n)), (2, .int (nI S))] := hl
  refine lv_sipush (v := nI 1000) hx hb dX5_fewestBy_0 (by decide) ?_
  refine lv_istore_n (lv' := [(3, .int (nI 1000)), (0, .ref M), (1, .int (nI n)), (2, .int (nI S))]) hx hb dX5_fewestBy_3 rfl hl (by decide) rfl (fun ls hl => ?_)
  refine lv_iconst (v := nI 0) hx hb dX5_fewestBy_4 (by decide) ?_
  refine lv_istore (lv' := [(4, .int (nI 0)), (3, .int (nI 1000)), (0, .ref M), (1, .int (nI n)), (2, .int (nI S))]) hx hb dX5_fewestBy_5 hl (by decide) rfl (fun ls hl => ?_)
  have lo : ∀ (fuel : Nat) (v f : Nat), 5 ≤ v + fuel → v ≤ 4 → f = zF4 (ch n) (hh n) S v → ∀ (H : Heap) (locs : List Loc) (ls : Array Slot), va_P D vwCl w H → va_S zF s.heap H locs → lv_has ls 6 [(0, .ref M), (1, .int (nI n)), (2, .int (nI S)), (3, .int (nI f)), (4, .int (nI v))] → W p l e rmX5_fewestBy s m [.ref M, .int (nI n), .int (nI S)].toArray below meth c H locs 0 0 (zRQ below [.ref M, .int (nI n), .int (nI S)].toArray s (nI (zF4 (ch n) (hh n) S 4))) (F0 m 7 ls []) := by
    intro fuel
    induction fuel with
    | zero => intro v f hfu hv hf; exact absurd hfu (by omega)
    | succ fuel ih_lo =>
      intro v f hfu hv hf H locs ls hP hS hl
      have hfl : f ≤ 1000 := by rw [hf]; exact zF4_cap _ _ _ _
      refine lv_iload hx hb dX5_fewestBy_7 (lv_at hl 4 rfl) ?_
      refine lv_iconst (v := nI 4) hx hb dX5_fewestBy_9 (by decide) ?_
      refine lv_icmp_ge (tgt := 78) hx hb dX5_fewestBy_10 (by decide) (fun cb1 => ?_) (fun cb1 => ?_)
      · have cb1 : 4 ≤ v := zn_ge_t (a := v) (b := 4) (by omega) (by omega) cb1
        refine lv_iload_n hx hb dX5_fewestBy_78 rfl (lv_at hl 3 rfl) ?_
        exact z_iret hx hb hr hlocks hS dX5_fewestBy_79 (by obtain rfl : v = 4 := (by omega); rw [hf])
      · have cb1 : ¬ (4 ≤ v) := zn_ge_f (a := v) (b := 4) (by omega) (by omega) cb1
        refine lv_iload_n hx hb dX5_fewestBy_13 rfl (lv_at hl 2 rfl) ?_
        refine lv_aload_n hx hb dX5_fewestBy_14 rfl (lv_at hl 0 rfl) ?_
        refine va_get (D := D) (ci := 5) (v := .ref m9) (C := RX5) (T := TX5) (N := 20) hx hb hts in_wsX5_fewestBy_X5 hown hK.1 hP i h rfl 12 (by decide) (hts _ lk290_wsX5_fewestBy) (fun _ h9 => h9) rfl dX5_fewestBy_15 ?_
        refine lv_iload_n hx hb dX5_fewestBy_18 rfl (lv_at hl 1 rfl) ?_
        refine z_iald (v := nI (ch n)) hx hb hK.1 hP j1 0 k1 rfl (k := n) (by omega) (by decide) hch.1 dX5_fewestBy_19 ?_
        refine lv_iand hx hb dX5_fewestBy_20 ?_
        refine z_top (y := nI (S &&& ch n)) (z_and16 _ hS16 _ hch.2) ?_
        refine lv_iconst (v := nI 1) hx hb dX5_fewestBy_21 (by decide) ?_
        refine lv_iload hx hb dX5_fewestBy_22 (lv_at hl 4 rfl) ?_
        refine lv_ishl hx hb dX5_fewestBy_24 ?_
        refine z_top (y := nI (2 ^ v)) (z_shl1 v (by omega)) ?_
        refine lv_iand hx hb dX5_fewestBy_25 ?_
        refine z_top (y := (nI (S &&& ch n) &&& nI (2 ^ v))) rfl ?_
        refine lv_if_eq (tgt := 48) hx hb dX5_fewestBy_26 (by decide) (fun cb2 => ?_) (fun cb2 => ?_)
        · skip
          have hbt := z_bitF _ (z_andlt _ hS16) _ (by omega) cb2
          refine lv_iconst (v := nI 0) hx hb dX5_fewestBy_48 (by decide) ?_
          refine lv_istore (lv' := [(5, .int (nI 0)), (0, .ref M), (1, .int (nI n)), (2, .int (nI S)), (3, .int (nI f)), (4, .int (nI v))]) hx hb dX5_fewestBy_49 hl (by decide) rfl (fun ls hl => ?_)
          refine lv_iload hx hb dX5_fewestBy_51 (lv_at hl 0 rfl) ?_
          refine lv_if_eq (tgt := 70) hx hb dX5_fewestBy_53 (by decide) (fun cb3 => ?_) (fun cb3 => ?_)
          · have cb3 : 0 = 0 := zn_eq_t (a := 0) (b := 0) (by omega) (by omega) cb3
            refine lv_iload_n hx hb dX5_fewestBy_70 rfl (lv_at hl 4 rfl) ?_
            refine lv_istore_n (lv' := [(3, .int (nI f)), (5, .int (nI 0)), (0, .ref M), (1, .int (nI n)), (2, .int (nI S)), (4, .int (nI v))]) hx hb dX5_fewestBy_71 rfl hl (by decide) rfl (fun ls hl => ?_)
            refine lv_iinc (v := nI (v + 1)) (lv' := [(4, .int (nI (v + 1))), (3, .int (nI f)), (5, .int (nI 0)), (0, .ref M), (1, .int (nI n)), (2, .int (nI S))]) hx hb dX5_fewestBy_72 hl (k := 5) rfl (z_inc _) (by decide) rfl (fun ls hl => ?_)
            refine lv_goto (tgt := 7) hx hb dX5_fewestBy_75 (by decide) ?_
            exact ih_lo (v + 1) (f) (by omega) (by omega) (by unfold zF4; rw [hbt, hf]; rfl) _ _ _ hP hS (lv_sub hl [3, 4, 5, 1, 0] rfl)
          · have cb3 : ¬ (0 = 0) := zn_eq_f (a := 0) (b := 0) (by omega) (by omega) cb3
            exact absurd cb3 (by decide)
        · skip
          have hbt := z_bitT _ (z_andlt _ hS16) _ (by omega) cb2
          refine lv_aload_n hx hb dX5_fewestBy_29 rfl (lv_at hl 0 rfl) ?_
          refine va_get (D := D) (ci := 5) (v := .ref m10) (C := RX5) (T := TX5) (N := 20) hx hb hts in_wsX5_fewestBy_X5 hown hK.1 hP i h rfl 13 (by decide) (hts _ lk292_wsX5_fewestBy) (fun _ h9 => h9) rfl dX5_fewestBy_30 ?_
          refine lv_iconst (v := nI 4) hx hb dX5_fewestBy_33 (by decide) ?_
          refine lv_iload_n hx hb dX5_fewestBy_34 rfl (lv_at hl 1 rfl) ?_
          refine lv_imul hx hb dX5_fewestBy_35 ?_
          refine z_top (y := nI (4 * n)) (pk_mul _ _) ?_
          refine lv_iload hx hb dX5_fewestBy_36 (lv_at hl 4 rfl) ?_
          refine lv_iadd hx hb dX5_fewestBy_38 ?_
          refine z_top (y := nI ((4 * n) + v)) (nI_add _ _) ?_
          have hb1 := (hhb v (by omega)).2
          refine z_iald (v := nI (hh n v)) hx hb hK.1 hP j2 0 k2 rfl (k := (4 * n) + v) (by omega) (by decide) (hhb v (by omega)).1 dX5_fewestBy_39 ?_
          refine lv_iload_n hx hb dX5_fewestBy_40 rfl (lv_at hl 3 rfl) ?_
          refine lv_icmp_ge (tgt := 48) hx hb dX5_fewestBy_41 (by decide) (fun cb4 => ?_) (fun cb4 => ?_)
          · have cb4 : f ≤ (hh n v) := zn_ge_t (a := (hh n v)) (b := f) (by omega) (by omega) cb4
            refine lv_iconst (v := nI 0) hx hb dX5_fewestBy_48 (by decide) ?_
            refine lv_istore (lv' := [(5, .int (nI 0)), (0, .ref M), (1, .int (nI n)), (2, .int (nI S)), (3, .int (nI f)), (4, .int (nI v))]) hx hb dX5_fewestBy_49 hl (by decide) rfl (fun ls hl => ?_)
            refine lv_iload hx hb dX5_fewestBy_51 (lv_at hl 0 rfl) ?_
            refine lv_if_eq (tgt := 70) hx hb dX5_fewestBy_53 (by decide) (fun cb5 => ?_) (fun cb5 => ?_)
            · have cb5 : 0 = 0 := zn_eq_t (a := 0) (b := 0) (by omega) (by omega) cb5
              refine lv_iload_n hx hb dX5_fewestBy_70 rfl (lv_at hl 4 rfl) ?_
              refine lv_istore_n (lv' := [(3, .int (nI f)), (5, .int (nI 0)), (0, .ref M), (1, .int (nI n)), (2, .int (nI S)), (4, .int (nI v))]) hx hb dX5_fewestBy_71 rfl hl (by decide) rfl (fun ls hl => ?_)
              refine lv_iinc (v := nI (v + 1)) (lv' := [(4, .int (nI (v + 1))), (3, .int (nI f)), (5, .int (nI 0)), (0, .ref M), (1, .int (nI n)), (2, .int (nI S))]) hx hb dX5_fewestBy_72 hl (k := 5) rfl (z_inc _) (by decide) rfl (fun ls hl => ?_)
              refine lv_goto (tgt := 7) hx hb dX5_fewestBy_75 (by decide) ?_
              exact ih_lo (v + 1) (f) (by omega) (by omega) (by unfold zF4; rw [hbt, if_pos rfl, ← hf, Nat.min_eq_left (by omega)]) _ _ _ hP hS (lv_sub hl [3, 4, 5, 1, 0] rfl)
            · have cb5 : ¬ (0 = 0) := zn_eq_f (a := 0) (b := 0) (by omega) (by omega) cb5
              exact absurd cb5 (by decide)
          · have cb4 : ¬ (f ≤ (hh n v)) := zn_ge_f (a := (hh n v)) (b := f) (by omega) (by omega) cb4
            refine lv_iconst (v := nI 1) hx hb dX5_fewestBy_44 (by decide) ?_
            refine lv_goto (tgt := 49) hx hb dX5_fewestBy_45 (by decide) ?_
            refine lv_istore (lv' := [(5, .int (nI 1)), (0, .ref M), (1, .int (nI n)), (2, .int (nI S)), (3, .int (nI f)), (4, .int (nI v))]) hx hb dX5_fewestBy_49 hl (by decide) rfl (fun ls hl => ?_)
            refine lv_iload hx hb dX5_fewestBy_51 (lv_at hl 0 rfl) ?_
            refine lv_if_eq (tgt := 70) hx hb dX5_fewestBy_53 (by decide) (fun cb6 => ?_) (fun cb6 => ?_)
            · have cb6 : 1 = 0 := zn_eq_t (a := 1) (b := 0) (by omega) (by omega) cb6
              exact absurd cb6 (by decide)
            · have cb6 : ¬ (1 = 0) := zn_eq_f (a := 1) (b := 0) (by omega) (by omega) cb6
              refine lv_aload_n hx hb dX5_fewestBy_56 rfl (lv_at hl 1 rfl) ?_
              refine va_get (D := D) (ci := 5) (v := .ref m10) (C := RX5) (T := TX5) (N := 20) hx hb hts in_wsX5_fewestBy_X5 hown hK.1 hP i h rfl 13 (by decide) (hts _ lk292_wsX5_fewestBy) (fun _ h9 => h9) rfl dX5_fewestBy_57 ?_
              refine lv_iconst (v := nI 4) hx hb dX5_fewestBy_60 (by decide) ?_
              refine lv_iload_n hx hb dX5_fewestBy_61 rfl (lv_at hl 2 rfl) ?_
              refine lv_imul hx hb dX5_fewestBy_62 ?_
              refine z_top (y := nI (4 * n)) (pk_mul _ _) ?_
              refine lv_iload hx hb dX5_fewestBy_63 (lv_at hl 5 rfl) ?_
              refine lv_iadd hx hb dX5_fewestBy_65 ?_
              refine z_top (y := nI ((4 * n) + v)) (nI_add _ _) ?_
              refine z_iald (v := nI (hh n v)) hx hb hK.1 hP j2 0 k2 rfl (k := (4 * n) + v) (by omega) (by decide) (hhb v (by omega)).1 dX5_fewestBy_66 ?_
              refine lv_goto (tgt := 71) hx hb dX5_fewestBy_67 (by decide) ?_
              refine lv_istore_n (lv' := [(3, .int (nI (hh n v))), (5, .int (nI 1)), (0, .ref M), (1, .int (nI n)), (2, .int (nI S)), (4, .int (nI v))]) hx hb dX5_fewestBy_71 rfl hl (by decide) rfl (fun ls hl => ?_)
              refine lv_iinc (v := nI (v + 1)) (lv' := [(4, .int (nI (v + 1))), (3, .int (nI (hh n v))), (5, .int (nI 1)), (0, .ref M), (1, .int (nI n)), (2, .int (nI S))]) hx hb dX5_fewestBy_72 hl (k := 5) rfl (z_inc _) (by decide) rfl (fun ls hl => ?_)
              refine lv_goto (tgt := 7) hx hb dX5_fewestBy_75 (by decide) ?_
              exact ih_lo (v + 1) (hh n v) (by omega) (by omega) (by unfold zF4; rw [hbt, if_pos rfl, ← hf, Nat.min_eq_right (by omega)]) _ _ _ hP hS (lv_sub hl [3, 4, 5, 1, 0] rfl)
  exact lo (5) 0 1000 (by omega) (by omega) rfl _ _ _ hP hS (lv_sub hl [2, 3, 4, 1, 0] rfl)
theorem k_yX5_manyOf : yX5_manyOf.cls ≠ "java/lang/invoke/MethodHandle" ∧ yX5_manyOf.cls ≠ "java/lang/invoke/VarHandle" ∧ (parseMethodDescriptor yX5_manyOf.desc).map (fun d => d.parameters.length) = some 1 := by decide +kernel
set_option maxRecDepth 20000 in
theorem lk294_wsX5_hopsBelow : Cond.fieldLink RX5 81 "QueryGatewayModel" "nodes" "I" ∈ wsX5_hopsBelow := by decide +kernel
set_option maxRecDepth 20000 in
theorem in_wsX5_hopsBelow_X5 : ∀ w ∈ wsX50, w ∈ wsX5_hopsBelow := by decide +kernel
set_option maxRecDepth 20000 in
theorem lk296_wsX5_hopsBelow : Cond.fieldLink RX5 26 "QueryGatewayModel" "above" "[I" ∈ wsX5_hopsBelow := by decide +kernel
theorem k_yX5_fewestBy : yX5_fewestBy.cls = RX5 ∧ yX5_fewestBy.cls ≠ "java/lang/invoke/MethodHandle" ∧ yX5_fewestBy.cls ≠ "java/lang/invoke/VarHandle" ∧ (parseMethodDescriptor yX5_fewestBy.desc).map (fun d => d.parameters.length) = some 2 := by decide +kernel
abbrev rmX5_hopsBelow : Room := { frames := 1, cells := 0, slots := 0, locals := 25 }
set_option maxHeartbeats 4000000 in
set_option maxRecDepth 100000 in
theorem c_X5_hopsBelow_h {l : Launch} {D : va_G} {cy : zCy} {w : va_W} {i M m1 m2 m3 m4 m5 m6 m7 m8 m9 m10 m11 m12 m13 m14 m15 nn : Nat} {thr fa qt mam : Int32} (h : w[i]? = some (M, .inr (5, [.int thr, .ref m1, .ref m2, .ref m3, .ref m4, .ref m5, .int fa, .int qt, .int (nI nn), .ref m6, .ref m7, .ref m8, .ref m9, .ref m10, .ref m11, .ref m12, .ref m13, .ref m14, .ref m15, .int mam]))) {j1 : Nat} {my : Nat → Int32} (k1 : w[j1]? = some (m9, .inl (cy.1, 12, .inl my))) {j2 : Nat} {fw : Nat → Int32} (k2 : w[j2]? = some (m10, .inl (cy.1, 48, .inl fw))) {j3 : Nat} {ab : Nat → Int32} (k3 : w[j3]? = some (m6, .inl (cy.1, 12, .inl ab))) {ch : Nat → Nat} {hh : Nat → Nat → Nat} {x : Int32} (hn : nn ≤ 12) (hch : ∀ n, n < nn → my n = nI (ch n) ∧ ch n < 16) (hhb : ∀ n, n < nn → ab n = x → ∀ v, v < 4 → fw (4 * n + v) = nI (hh n v) ∧ hh n v ≤ 1000) {hm : Nat} (hhm : hm < 4)  : zR l yX5_hopsBelow wsX5_hopsBelow rmX5_hopsBelow D cy w [.ref M, .int x, .int (nI hm)] (nI (zA nn ab ch hh x hm)) := by
  refine zR.of (cc := cX5_hopsBelow) (maxL := 7) (ret := (some .int)) (by decide) rfl rfl ?_
  intro p e s m below meth c ls C hP hK hl
  obtain ⟨hx, hb, hr, hml, hts, hown, hlocks⟩ := C
  have hS : va_S zF s.heap s.heap [] := va_S.rf
  have hl : lv_has ls 7 [(0, .ref M), (1, .int x), (2, .int (nI hm))] := hl
  refine lv_sipush (v := nI 1000) hx hb dX5_hopsBelow_0 (by decide) ?_
  refine lv_istore_n (lv' := [(3, .int (nI 1000)), (0, .ref M), (1, .int x), (2, .int (nI hm))]) hx hb dX5_hopsBelow_3 rfl hl (by decide) rfl (fun ls hl => ?_)
  refine lv_iconst (v := nI 0) hx hb dX5_hopsBelow_4 (by decide) ?_
  refine lv_istore (lv' := [(4, .int (nI 0)), (3, .int (nI 1000)), (0, .ref M), (1, .int x), (2, .int (nI hm))]) hx hb dX5_hopsBelow_5 hl (by decide) rfl (fun ls hl => ?_)
  have lo : ∀ (fuel : Nat) (v f : Nat), 17 ≤ v + fuel → v ≤ 16 → (f = zMin (fun S => zpop (zrem hm S) + zHU ab ch hh x S nn) v) → ∀ (H : Heap) (locs : List Loc) (ls : Array Slot), va_P D vwCl w H → va_S zF s.heap H locs → lv_has ls 7 [(0, .ref M), (1, .int x), (2, .int (nI hm)), (3, .int (nI f)), (4, .int (nI v))] → W p l e rmX5_hopsBelow s m [.ref M, .int x, .int (nI hm)].toArray below meth c H locs 0 0 (zRQ below [.ref M, .int x, .int (nI hm)].toArray s (nI (zA nn ab ch hh x hm))) (F0 m 7 ls []) := by
    intro fuel
    induction fuel with
    | zero => intro v f hfu hv hf; exact absurd hfu (by omega)
    | succ fuel ih_lo =>
      intro v f hfu hv hf H locs ls hP hS hl
      have hfl : f ≤ 1000 := by rw [hf]; exact zMin_le_cap _ _
      refine lv_iload hx hb dX5_hopsBelow_7 (lv_at hl 4 rfl) ?_
      refine lv_bipush (v := nI 16) hx hb dX5_hopsBelow_9 (by decide) ?_
      refine lv_icmp_ge (tgt := 102) hx hb dX5_hopsBelow_11 (by decide) (fun cb1 => ?_) (fun cb1 => ?_)
      · have cb1 : 16 ≤ v := zn_ge_t (a := v) (b := 16) (by omega) (by omega) cb1
        refine lv_iload_n hx hb dX5_hopsBelow_102 rfl (lv_at hl 3 rfl) ?_
        exact z_iret hx hb hr hlocks hS dX5_hopsBelow_103 (by obtain rfl : v = 16 := (by omega); rw [hf]; rfl)
      · have cb1 : ¬ (16 ≤ v) := zn_ge_f (a := v) (b := 16) (by omega) (by omega) cb1
        refine lv_iload_n hx hb dX5_hopsBelow_14 rfl (lv_at hl 2 rfl) ?_
        refine lv_iconst (v := (-1 : Int32)) hx hb dX5_hopsBelow_15 (by decide) ?_
        refine lv_icmp_ne (tgt := 24) hx hb dX5_hopsBelow_16 (by decide) (fun cb2 => ?_) (fun cb2 => ?_)
        · skip
          refine lv_iload hx hb dX5_hopsBelow_24 (lv_at hl 4 rfl) ?_
          refine lv_iconst (v := nI 1) hx hb dX5_hopsBelow_26 (by decide) ?_
          refine lv_iload_n hx hb dX5_hopsBelow_27 rfl (lv_at hl 2 rfl) ?_
          refine lv_ishl hx hb dX5_hopsBelow_28 ?_
          refine z_top (y := ((nI 1) <<< (nI hm &&& 31))) rfl ?_
          refine lv_iconst (v := (-1 : Int32)) hx hb dX5_hopsBelow_29 (by decide) ?_
          refine lv_ixor hx hb dX5_hopsBelow_30 ?_
          refine z_top (y := (((nI 1) <<< (nI hm &&& 31)) ^^^ (-1 : Int32))) rfl ?_
          refine lv_iand hx hb dX5_hopsBelow_31 ?_
          refine z_top (y := nI (zrem hm v)) (by rw [zrem, if_pos hhm]; exact z_clr v (by omega) hm hhm) ?_
          refine z_callS (As := [.int (nI (zrem hm v))]) (rest := []) ⟨hx, hb, hml, hown, hts⟩ hK hP hS (c_X5_manyOf (S := zrem hm v) (zrem_lt (by omega))) (va_cwS 1 hts gX5_hopsBelow_X5_manyOf rfl rfl rfl k_yX5_manyOf ⟨Nat.le_of_ble_eq_true rfl, Nat.le_of_ble_eq_true rfl⟩) rfl hl.1 rfl rfl dX5_hopsBelow_32 ⟨Nat.le_of_ble_eq_true rfl, Nat.le_of_ble_eq_true rfl⟩ (fun H locs hP hS => ?_)
          refine z_top (y := nI (zpop (zrem hm v))) rfl ?_
          refine lv_istore (lv' := [(5, .int (nI (zpop (zrem hm v)))), (0, .ref M), (1, .int x), (2, .int (nI hm)), (3, .int (nI f)), (4, .int (nI v))]) hx hb dX5_hopsBelow_35 hl (by decide) rfl (fun ls hl => ?_)
          refine lv_iconst (v := nI 0) hx hb dX5_hopsBelow_37 (by decide) ?_
          refine lv_istore (lv' := [(6, .int (nI 0)), (5, .int (nI (zpop (zrem hm v)))), (0, .ref M), (1, .int x), (2, .int (nI hm)), (3, .int (nI f)), (4, .int (nI v))]) hx hb dX5_hopsBelow_38 hl (by decide) rfl (fun ls hl => ?_)
          have li : ∀ (fuel : Nat) (n t : Nat), nn + 1 ≤ n + fuel → n ≤ nn → t = zpop (zrem hm v) + zHU ab ch hh x v n → ∀ (H : Heap) (locs : List Loc) (ls : Array Slot), va_P D vwCl w H → va_S zF s.heap H locs → lv_has ls 7 [(0, .ref M), (1, .int x), (2, .int (nI hm)), (3, .int (nI f)), (4, .int (nI v)), (5, .int (nI t)), (6, .int (nI n))] → W p l e rmX5_hopsBelow s m [.ref M, .int x, .int (nI hm)].toArray below meth c H locs 0 0 (zRQ below [.ref M, .int x, .int (nI hm)].toArray s (nI (zA nn ab ch hh x hm))) (F0 m 40 ls []) := by
            intro fuel
            induction fuel with
            | zero => intro n t hfu hi ht; exact absurd hfu (by omega)
            | succ fuel ih_li =>
              intro n t hfu hi ht H locs ls hP hS hl
              have hb1 := zHU_le (pl := ab) (c := ch) (h := hh) (x := x) (S := v) n
              have hb2 := zpop_le (zrem hm v)
              refine lv_iload hx hb dX5_hopsBelow_40 (lv_at hl 6 rfl) ?_
              refine lv_aload_n hx hb dX5_hopsBelow_42 rfl (lv_at hl 0 rfl) ?_
              refine va_get (D := D) (ci := 5) (v := .int (nI nn)) (C := RX5) (T := TX5) (N := 20) hx hb hts in_wsX5_hopsBelow_X5 hown hK.1 hP i h rfl 8 (by decide) (hts _ lk294_wsX5_hopsBelow) (fun _ h9 => h9) rfl dX5_hopsBelow_43 ?_
              refine lv_icmp_ge (tgt := 83) hx hb dX5_hopsBelow_46 (by decide) (fun cb3 => ?_) (fun cb3 => ?_)
              · have cb3 : nn ≤ n := zn_ge_t (a := n) (b := nn) (by omega) (by omega) cb3
                obtain rfl : n = nn := (by omega)
                refine lv_iload hx hb dX5_hopsBelow_83 (lv_at hl 5 rfl) ?_
                refine lv_iload_n hx hb dX5_hopsBelow_85 rfl (lv_at hl 3 rfl) ?_
                refine lv_icmp_ge (tgt := 94) hx hb dX5_hopsBelow_86 (by decide) (fun cb4 => ?_) (fun cb4 => ?_)
                · have cb4 : f ≤ t := zn_ge_t (a := t) (b := f) (by omega) (by omega) cb4
                  refine lv_iload_n hx hb dX5_hopsBelow_94 rfl (lv_at hl 3 rfl) ?_
                  refine lv_istore_n (lv' := [(3, .int (nI f)), (0, .ref M), (1, .int x), (2, .int (nI hm)), (4, .int (nI v)), (5, .int (nI t)), (6, .int (nI n))]) hx hb dX5_hopsBelow_95 rfl hl (by decide) rfl (fun ls hl => ?_)
                  refine lv_iinc (v := nI (v + 1)) (lv' := [(4, .int (nI (v + 1))), (3, .int (nI f)), (0, .ref M), (1, .int x), (2, .int (nI hm)), (5, .int (nI t)), (6, .int (nI n))]) hx hb dX5_hopsBelow_96 hl (k := 4) rfl (z_inc _) (by decide) rfl (fun ls hl => ?_)
                  refine lv_goto (tgt := 7) hx hb dX5_hopsBelow_99 (by decide) ?_
                  exact ih_lo (v + 1) (f) (by omega) (by omega) (by unfold zMin; rw [← hf]; rw [← ht, Nat.min_eq_left (by omega)]) _ _ _ hP hS (lv_sub hl [2, 3, 4, 1, 0] rfl)
                · have cb4 : ¬ (f ≤ t) := zn_ge_f (a := t) (b := f) (by omega) (by omega) cb4
                  refine lv_iload hx hb dX5_hopsBelow_89 (lv_at hl 5 rfl) ?_
                  refine lv_goto (tgt := 95) hx hb dX5_hopsBelow_91 (by decide) ?_
                  refine lv_istore_n (lv' := [(3, .int (nI t)), (0, .ref M), (1, .int x), (2, .int (nI hm)), (4, .int (nI v)), (5, .int (nI t)), (6, .int (nI n))]) hx hb dX5_hopsBelow_95 rfl hl (by decide) rfl (fun ls hl => ?_)
                  refine lv_iinc (v := nI (v + 1)) (lv' := [(4, .int (nI (v + 1))), (3, .int (nI t)), (0, .ref M), (1, .int x), (2, .int (nI hm)), (5, .int (nI t)), (6, .int (nI n))]) hx hb dX5_hopsBelow_96 hl (k := 4) rfl (z_inc _) (by decide) rfl (fun ls hl => ?_)
                  refine lv_goto (tgt := 7) hx hb dX5_hopsBelow_99 (by decide) ?_
                  exact ih_lo (v + 1) (t) (by omega) (by omega) (by unfold zMin; rw [← hf]; rw [← ht, Nat.min_eq_right (by omega)]) _ _ _ hP hS (lv_sub hl [2, 3, 4, 1, 0] rfl)
              · have cb3 : ¬ (nn ≤ n) := zn_ge_f (a := n) (b := nn) (by omega) (by omega) cb3
                refine lv_iload hx hb dX5_hopsBelow_49 (lv_at hl 5 rfl) ?_
                refine lv_aload_n hx hb dX5_hopsBelow_51 rfl (lv_at hl 0 rfl) ?_
                refine va_get (D := D) (ci := 5) (v := .ref m6) (C := RX5) (T := TX5) (N := 20) hx hb hts in_wsX5_hopsBelow_X5 hown hK.1 hP i h rfl 9 (by decide) (hts _ lk296_wsX5_hopsBelow) (fun _ h9 => h9) rfl dX5_hopsBelow_52 ?_
                refine lv_iload hx hb dX5_hopsBelow_55 (lv_at hl 6 rfl) ?_
                refine z_iald (v := ab n) hx hb hK.1 hP j3 0 k3 rfl (k := n) (by omega) (by decide) rfl dX5_hopsBelow_57 ?_
                refine lv_iload_n hx hb dX5_hopsBelow_58 rfl (lv_at hl 1 rfl) ?_
                refine lv_icmp_ne (tgt := 73) hx hb dX5_hopsBelow_59 (by decide) (fun cb5 => ?_) (fun cb5 => ?_)
                · skip
                  refine lv_iconst (v := nI 0) hx hb dX5_hopsBelow_73 (by decide) ?_
                  refine lv_iadd hx hb dX5_hopsBelow_74 ?_
                  refine z_top (y := nI (t + 0)) (nI_add _ _) ?_
                  refine lv_istore (lv' := [(5, .int (nI (t + 0))), (0, .ref M), (1, .int x), (2, .int (nI hm)), (3, .int (nI f)), (4, .int (nI v)), (6, .int (nI n))]) hx hb dX5_hopsBelow_75 hl (by decide) rfl (fun ls hl => ?_)
                  refine lv_iinc (v := nI (n + 1)) (lv' := [(6, .int (nI (n + 1))), (5, .int (nI (t + 0))), (0, .ref M), (1, .int x), (2, .int (nI hm)), (3, .int (nI f)), (4, .int (nI v))]) hx hb dX5_hopsBelow_77 hl (k := 6) rfl (z_inc _) (by decide) rfl (fun ls hl => ?_)
                  refine lv_goto (tgt := 40) hx hb dX5_hopsBelow_80 (by decide) ?_
                  exact ih_li (n + 1) (t + 0) (by omega) (by omega) (by unfold zHU; rw [if_neg cb5]; omega) _ _ _ hP hS (lv_sub hl [2, 3, 4, 5, 6, 1, 0] rfl)
                · skip
                  have hpx := cb5
                  refine lv_aload_n hx hb dX5_hopsBelow_62 rfl (lv_at hl 0 rfl) ?_
                  refine lv_iload hx hb dX5_hopsBelow_63 (lv_at hl 6 rfl) ?_
                  refine lv_iload hx hb dX5_hopsBelow_65 (lv_at hl 4 rfl) ?_
                  refine z_callV (b := M) (As := [.int (nI n), .int (nI v)]) (rest := [.int (nI t)]) ⟨hx, hb, hml, hown, hts⟩ hK hP hS (c_X5_fewestBy h k1 k2 (n := n) (S := v) (by omega) (by omega) (hch n (by omega)) (hhb n (by omega) hpx)) (cwV 2 hts gX5_hopsBelow_X5_fewestBy rfl rfl rfl k_yX5_fewestBy ⟨Nat.le_of_ble_eq_true rfl, Nat.le_of_ble_eq_true rfl⟩) i 5 h rfl rfl rfl hl.1 rfl rfl dX5_hopsBelow_67 ⟨Nat.le_of_ble_eq_true rfl, Nat.le_of_ble_eq_true rfl⟩ (fun H locs hP hS => ?_)
                  refine lv_goto (tgt := 74) hx hb dX5_hopsBelow_70 (by decide) ?_
                  refine lv_iadd hx hb dX5_hopsBelow_74 ?_
                  refine z_top (y := nI (t + (zF4 (ch n) (hh n) v 4))) (nI_add _ _) ?_
                  refine lv_istore (lv' := [(5, .int (nI (t + (zF4 (ch n) (hh n) v 4)))), (0, .ref M), (1, .int x), (2, .int (nI hm)), (3, .int (nI f)), (4, .int (nI v)), (6, .int (nI n))]) hx hb dX5_hopsBelow_75 hl (by decide) rfl (fun ls hl => ?_)
                  refine lv_iinc (v := nI (n + 1)) (lv' := [(6, .int (nI (n + 1))), (5, .int (nI (t + (zF4 (ch n) (hh n) v 4)))), (0, .ref M), (1, .int x), (2, .int (nI hm)), (3, .int (nI f)), (4, .int (nI v))]) hx hb dX5_hopsBelow_77 hl (k := 6) rfl (z_inc _) (by decide) rfl (fun ls hl => ?_)
                  refine lv_goto (tgt := 40) hx hb dX5_hopsBelow_80 (by decide) ?_
                  exact ih_li (n + 1) (t + (zF4 (ch n) (hh n) v 4)) (by omega) (by omega) (by unfold zHU; rw [if_pos hpx]; omega) _ _ _ hP hS (lv_sub hl [2, 3, 4, 5, 6, 1, 0] rfl)
          exact li (nn + 1) 0 (zpop (zrem hm v)) (by omega) (by omega) rfl _ _ _ hP hS (lv_sub hl [2, 3, 4, 5, 6, 1, 0] rfl)
        · skip
          exact absurd cb2 (nI_m1 (by omega))
  exact lo (17) 0 1000 (by omega) (by omega) rfl _ _ _ hP hS (lv_sub hl [2, 3, 4, 1, 0] rfl)
set_option maxHeartbeats 4000000 in
set_option maxRecDepth 100000 in
theorem c_X5_hopsBelow_m1 {l : Launch} {D : va_G} {cy : zCy} {w : va_W} {i M m1 m2 m3 m4 m5 m6 m7 m8 m9 m10 m11 m12 m13 m14 m15 nn : Nat} {thr fa qt mam : Int32} (h : w[i]? = some (M, .inr (5, [.int thr, .ref m1, .ref m2, .ref m3, .ref m4, .ref m5, .int fa, .int qt, .int (nI nn), .ref m6, .ref m7, .ref m8, .ref m9, .ref m10, .ref m11, .ref m12, .ref m13, .ref m14, .ref m15, .int mam]))) {j1 : Nat} {my : Nat → Int32} (k1 : w[j1]? = some (m9, .inl (cy.1, 12, .inl my))) {j2 : Nat} {fw : Nat → Int32} (k2 : w[j2]? = some (m10, .inl (cy.1, 48, .inl fw))) {j3 : Nat} {ab : Nat → Int32} (k3 : w[j3]? = some (m6, .inl (cy.1, 12, .inl ab))) {ch : Nat → Nat} {hh : Nat → Nat → Nat} {x : Int32} (hn : nn ≤ 12) (hch : ∀ n, n < nn → my n = nI (ch n) ∧ ch n < 16) (hhb : ∀ n, n < nn → ab n = x → ∀ v, v < 4 → fw (4 * n + v) = nI (hh n v) ∧ hh n v ≤ 1000)  : zR l yX5_hopsBelow wsX5_hopsBelow rmX5_hopsBelow D cy w [.ref M, .int x, .int ((-1 : Int32))] (nI (zA nn ab ch hh x 4)) := by
  refine zR.of (cc := cX5_hopsBelow) (maxL := 7) (ret := (some .int)) (by decide) rfl rfl ?_
  intro p e s m below meth c ls C hP hK hl
  obtain ⟨hx, hb, hr, hml, hts, hown, hlocks⟩ := C
  have hS : va_S zF s.heap s.heap [] := va_S.rf
  have hl : lv_has ls 7 [(0, .ref M), (1, .int x), (2, .int ((-1 : Int32)))] := hl
  refine lv_sipush (v := nI 1000) hx hb dX5_hopsBelow_0 (by decide) ?_
  refine lv_istore_n (lv' := [(3, .int (nI 1000)), (0, .ref M), (1, .int x), (2, .int ((-1 : Int32)))]) hx hb dX5_hopsBelow_3 rfl hl (by decide) rfl (fun ls hl => ?_)
  refine lv_iconst (v := nI 0) hx hb dX5_hopsBelow_4 (by decide) ?_
  refine lv_istore (lv' := [(4, .int (nI 0)), (3, .int (nI 1000)), (0, .ref M), (1, .int x), (2, .int ((-1 : Int32)))]) hx hb dX5_hopsBelow_5 hl (by decide) rfl (fun ls hl => ?_)
  have lo : ∀ (fuel : Nat) (v f : Nat), 17 ≤ v + fuel → v ≤ 16 → (f = zMin (fun S => zpop (zrem 4 S) + zHU ab ch hh x S nn) v) → ∀ (H : Heap) (locs : List Loc) (ls : Array Slot), va_P D vwCl w H → va_S zF s.heap H locs → lv_has ls 7 [(0, .ref M), (1, .int x), (2, .int ((-1 : Int32))), (3, .int (nI f)), (4, .int (nI v))] → W p l e rmX5_hopsBelow s m [.ref M, .int x, .int ((-1 : Int32))].toArray below meth c H locs 0 0 (zRQ below [.ref M, .int x, .int ((-1 : Int32))].toArray s (nI (zA nn ab ch hh x 4))) (F0 m 7 ls []) := by
    intro fuel
    induction fuel with
    | zero => intro v f hfu hv hf; exact absurd hfu (by omega)
    | succ fuel ih_lo =>
      intro v f hfu hv hf H locs ls hP hS hl
      have hfl : f ≤ 1000 := by rw [hf]; exact zMin_le_cap _ _
      refine lv_iload hx hb dX5_hopsBelow_7 (lv_at hl 4 rfl) ?_
      refine lv_bipush (v := nI 16) hx hb dX5_hopsBelow_9 (by decide) ?_
      refine lv_icmp_ge (tgt := 102) hx hb dX5_hopsBelow_11 (by decide) (fun cb1 => ?_) (fun cb1 => ?_)
      · have cb1 : 16 ≤ v := zn_ge_t (a := v) (b := 16) (by omega) (by omega) cb1
        refine lv_iload_n hx hb dX5_hopsBelow_102 rfl (lv_at hl 3 rfl) ?_
        exact z_iret hx hb hr hlocks hS dX5_hopsBelow_103 (by obtain rfl : v = 16 := (by omega); rw [hf]; rfl)
      · have cb1 : ¬ (16 ≤ v) := zn_ge_f (a := v) (b := 16) (by omega) (by omega) cb1
        refine lv_iload_n hx hb dX5_hopsBelow_14 rfl (lv_at hl 2 rfl) ?_
        refine lv_iconst (v := (-1 : Int32)) hx hb dX5_hopsBelow_15 (by decide) ?_
        refine lv_icmp_ne (tgt := 24) hx hb dX5_hopsBelow_16 (by decide) (fun cb2 => ?_) (fun cb2 => ?_)
        · skip
          exact absurd rfl cb2
        · skip
          refine lv_iload hx hb dX5_hopsBelow_19 (lv_at hl 4 rfl) ?_
          refine lv_goto (tgt := 32) hx hb dX5_hopsBelow_21 (by decide) ?_
          refine z_callS (As := [.int (nI v)]) (rest := []) ⟨hx, hb, hml, hown, hts⟩ hK hP hS (c_X5_manyOf (S := v) (by omega)) (va_cwS 1 hts gX5_hopsBelow_X5_manyOf rfl rfl rfl k_yX5_manyOf ⟨Nat.le_of_ble_eq_true rfl, Nat.le_of_ble_eq_true rfl⟩) rfl hl.1 rfl rfl dX5_hopsBelow_32 ⟨Nat.le_of_ble_eq_true rfl, Nat.le_of_ble_eq_true rfl⟩ (fun H locs hP hS => ?_)
          refine z_top (y := nI (zpop (zrem 4 v))) rfl ?_
          refine lv_istore (lv' := [(5, .int (nI (zpop (zrem 4 v)))), (0, .ref M), (1, .int x), (2, .int ((-1 : Int32))), (3, .int (nI f)), (4, .int (nI v))]) hx hb dX5_hopsBelow_35 hl (by decide) rfl (fun ls hl => ?_)
          refine lv_iconst (v := nI 0) hx hb dX5_hopsBelow_37 (by decide) ?_
          refine lv_istore (lv' := [(6, .int (nI 0)), (5, .int (nI (zpop (zrem 4 v)))), (0, .ref M), (1, .int x), (2, .int ((-1 : Int32))), (3, .int (nI f)), (4, .int (nI v))]) hx hb dX5_hopsBelow_38 hl (by decide) rfl (fun ls hl => ?_)
          have li : ∀ (fuel : Nat) (n t : Nat), nn + 1 ≤ n + fuel → n ≤ nn → t = zpop (zrem 4 v) + zHU ab ch hh x v n → ∀ (H : Heap) (locs : List Loc) (ls : Array Slot), va_P D vwCl w H → va_S zF s.heap H locs → lv_has ls 7 [(0, .ref M), (1, .int x), (2, .int ((-1 : Int32))), (3, .int (nI f)), (4, .int (nI v)), (5, .int (nI t)), (6, .int (nI n))] → W p l e rmX5_hopsBelow s m [.ref M, .int x, .int ((-1 : Int32))].toArray below meth c H locs 0 0 (zRQ below [.ref M, .int x, .int ((-1 : Int32))].toArray s (nI (zA nn ab ch hh x 4))) (F0 m 40 ls []) := by
            intro fuel
            induction fuel with
            | zero => intro n t hfu hi ht; exact absurd hfu (by omega)
            | succ fuel ih_li =>
              intro n t hfu hi ht H locs ls hP hS hl
              have hb1 := zHU_le (pl := ab) (c := ch) (h := hh) (x := x) (S := v) n
              have hb2 := zpop_le (zrem 4 v)
              refine lv_iload hx hb dX5_hopsBelow_40 (lv_at hl 6 rfl) ?_
              refine lv_aload_n hx hb dX5_hopsBelow_42 rfl (lv_at hl 0 rfl) ?_
              refine va_get (D := D) (ci := 5) (v := .int (nI nn)) (C := RX5) (T := TX5) (N := 20) hx hb hts in_wsX5_hopsBelow_X5 hown hK.1 hP i h rfl 8 (by decide) (hts _ lk294_wsX5_hopsBelow) (fun _ h9 => h9) rfl dX5_hopsBelow_43 ?_
              refine lv_icmp_ge (tgt := 83) hx hb dX5_hopsBelow_46 (by decide) (fun cb3 => ?_) (fun cb3 => ?_)
              · have cb3 : nn ≤ n := zn_ge_t (a := n) (b := nn) (by omega) (by omega) cb3
                obtain rfl : n = nn := (by omega)
                refine lv_iload hx hb dX5_hopsBelow_83 (lv_at hl 5 rfl) ?_
                refine lv_iload_n hx hb dX5_hopsBelow_85 rfl (lv_at hl 3 rfl) ?_
                refine lv_icmp_ge (tgt := 94) hx hb dX5_hopsBelow_86 (by decide) (fun cb4 => ?_) (fun cb4 => ?_)
                · have cb4 : f ≤ t := zn_ge_t (a := t) (b := f) (by omega) (by omega) cb4
                  refine lv_iload_n hx hb dX5_hopsBelow_94 rfl (lv_at hl 3 rfl) ?_
                  refine lv_istore_n (lv' := [(3, .int (nI f)), (0, .ref M), (1, .int x), (2, .int ((-1 : Int32))), (4, .int (nI v)), (5, .int (nI t)), (6, .int (nI n))]) hx hb dX5_hopsBelow_95 rfl hl (by decide) rfl (fun ls hl => ?_)
                  refine lv_iinc (v := nI (v + 1)) (lv' := [(4, .int (nI (v + 1))), (3, .int (nI f)), (0, .ref M), (1, .int x), (2, .int ((-1 : Int32))), (5, .int (nI t)), (6, .int (nI n))]) hx hb dX5_hopsBelow_96 hl (k := 4) rfl (z_inc _) (by decide) rfl (fun ls hl => ?_)
                  refine lv_goto (tgt := 7) hx hb dX5_hopsBelow_99 (by decide) ?_
                  exact ih_lo (v + 1) (f) (by omega) (by omega) (by unfold zMin; rw [← hf]; rw [← ht, Nat.min_eq_left (by omega)]) _ _ _ hP hS (lv_sub hl [2, 3, 4, 1, 0] rfl)
                · have cb4 : ¬ (f ≤ t) := zn_ge_f (a := t) (b := f) (by omega) (by omega) cb4
                  refine lv_iload hx hb dX5_hopsBelow_89 (lv_at hl 5 rfl) ?_
                  refine lv_goto (tgt := 95) hx hb dX5_hopsBelow_91 (by decide) ?_
                  refine lv_istore_n (lv' := [(3, .int (nI t)), (0, .ref M), (1, .int x), (2, .int ((-1 : Int32))), (4, .int (nI v)), (5, .int (nI t)), (6, .int (nI n))]) hx hb dX5_hopsBelow_95 rfl hl (by decide) rfl (fun ls hl => ?_)
                  refine lv_iinc (v := nI (v + 1)) (lv' := [(4, .int (nI (v + 1))), (3, .int (nI t)), (0, .ref M), (1, .int x), (2, .int ((-1 : Int32))), (5, .int (nI t)), (6, .int (nI n))]) hx hb dX5_hopsBelow_96 hl (k := 4) rfl (z_inc _) (by decide) rfl (fun ls hl => ?_)
                  refine lv_goto (tgt := 7) hx hb dX5_hopsBelow_99 (by decide) ?_
                  exact ih_lo (v + 1) (t) (by omega) (by omega) (by unfold zMin; rw [← hf]; rw [← ht, Nat.min_eq_right (by omega)]) _ _ _ hP hS (lv_sub hl [2, 3, 4, 1, 0] rfl)
              · have cb3 : ¬ (nn ≤ n) := zn_ge_f (a := n) (b := nn) (by omega) (by omega) cb3
                refine lv_iload hx hb dX5_hopsBelow_49 (lv_at hl 5 rfl) ?_
                refine lv_aload_n hx hb dX5_hopsBelow_51 rfl (lv_at hl 0 rfl) ?_
                refine va_get (D := D) (ci := 5) (v := .ref m6) (C := RX5) (T := TX5) (N := 20) hx hb hts in_wsX5_hopsBelow_X5 hown hK.1 hP i h rfl 9 (by decide) (hts _ lk296_wsX5_hopsBelow) (fun _ h9 => h9) rfl dX5_hopsBelow_52 ?_
                refine lv_iload hx hb dX5_hopsBelow_55 (lv_at hl 6 rfl) ?_
                refine z_iald (v := ab n) hx hb hK.1 hP j3 0 k3 rfl (k := n) (by omega) (by decide) rfl dX5_hopsBelow_57 ?_
                refine lv_iload_n hx hb dX5_hopsBelow_58 rfl (lv_at hl 1 rfl) ?_
                refine lv_icmp_ne (tgt := 73) hx hb dX5_hopsBelow_59 (by decide) (fun cb5 => ?_) (fun cb5 => ?_)
                · skip
                  refine lv_iconst (v := nI 0) hx hb dX5_hopsBelow_73 (by decide) ?_
                  refine lv_iadd hx hb dX5_hopsBelow_74 ?_
                  refine z_top (y := nI (t + 0)) (nI_add _ _) ?_
                  refine lv_istore (lv' := [(5, .int (nI (t + 0))), (0, .ref M), (1, .int x), (2, .int ((-1 : Int32))), (3, .int (nI f)), (4, .int (nI v)), (6, .int (nI n))]) hx hb dX5_hopsBelow_75 hl (by decide) rfl (fun ls hl => ?_)
                  refine lv_iinc (v := nI (n + 1)) (lv' := [(6, .int (nI (n + 1))), (5, .int (nI (t + 0))), (0, .ref M), (1, .int x), (2, .int ((-1 : Int32))), (3, .int (nI f)), (4, .int (nI v))]) hx hb dX5_hopsBelow_77 hl (k := 6) rfl (z_inc _) (by decide) rfl (fun ls hl => ?_)
                  refine lv_goto (tgt := 40) hx hb dX5_hopsBelow_80 (by decide) ?_
                  exact ih_li (n + 1) (t + 0) (by omega) (by omega) (by unfold zHU; rw [if_neg cb5]; omega) _ _ _ hP hS (lv_sub hl [2, 3, 4, 5, 6, 1, 0] rfl)
                · skip
                  have hpx := cb5
                  refine lv_aload_n hx hb dX5_hopsBelow_62 rfl (lv_at hl 0 rfl) ?_
                  refine lv_iload hx hb dX5_hopsBelow_63 (lv_at hl 6 rfl) ?_
                  refine lv_iload hx hb dX5_hopsBelow_65 (lv_at hl 4 rfl) ?_
                  refine z_callV (b := M) (As := [.int (nI n), .int (nI v)]) (rest := [.int (nI t)]) ⟨hx, hb, hml, hown, hts⟩ hK hP hS (c_X5_fewestBy h k1 k2 (n := n) (S := v) (by omega) (by omega) (hch n (by omega)) (hhb n (by omega) hpx)) (cwV 2 hts gX5_hopsBelow_X5_fewestBy rfl rfl rfl k_yX5_fewestBy ⟨Nat.le_of_ble_eq_true rfl, Nat.le_of_ble_eq_true rfl⟩) i 5 h rfl rfl rfl hl.1 rfl rfl dX5_hopsBelow_67 ⟨Nat.le_of_ble_eq_true rfl, Nat.le_of_ble_eq_true rfl⟩ (fun H locs hP hS => ?_)
                  refine lv_goto (tgt := 74) hx hb dX5_hopsBelow_70 (by decide) ?_
                  refine lv_iadd hx hb dX5_hopsBelow_74 ?_
                  refine z_top (y := nI (t + (zF4 (ch n) (hh n) v 4))) (nI_add _ _) ?_
                  refine lv_istore (lv' := [(5, .int (nI (t + (zF4 (ch n) (hh n) v 4)))), (0, .ref M), (1, .int x), (2, .int ((-1 : Int32))), (3, .int (nI f)), (4, .int (nI v)), (6, .int (nI n))]) hx hb dX5_hopsBelow_75 hl (by decide) rfl (fun ls hl => ?_)
                  refine lv_iinc (v := nI (n + 1)) (lv' := [(6, .int (nI (n + 1))), (5, .int (nI (t + (zF4 (ch n) (hh n) v 4)))), (0, .ref M), (1, .int x), (2, .int ((-1 : Int32))), (3, .int (nI f)), (4, .int (nI v))]) hx hb dX5_hopsBelow_77 hl (k := 6) rfl (z_inc _) (by decide) rfl (fun ls hl => ?_)
                  refine lv_goto (tgt := 40) hx hb dX5_hopsBelow_80 (by decide) ?_
                  exact ih_li (n + 1) (t + (zF4 (ch n) (hh n) v 4)) (by omega) (by omega) (by unfold zHU; rw [if_pos hpx]; omega) _ _ _ hP hS (lv_sub hl [2, 3, 4, 5, 6, 1, 0] rfl)
          exact li (nn + 1) 0 (zpop (zrem 4 v)) (by omega) (by omega) rfl _ _ _ hP hS (lv_sub hl [2, 3, 4, 5, 6, 1, 0] rfl)
  exact lo (17) 0 1000 (by omega) (by omega) rfl _ _ _ hP hS (lv_sub hl [2, 3, 4, 1, 0] rfl)
