theorem c_X5_hopsBelow_t {l : Launch} {D : va_G} {cy : zCy} {w : va_W} {i M m1 m2 m3 m4 m5 m6 m7 m8 m9 m10 m11 m12 m13 m14 m15 nn : Nat} {thr fa qt mam : Int32} (h : w[i]? = some (M, .inr (5, [.int thr, .ref m1, .ref m2, .ref m3, .ref m4, .ref m5, .int fa, .int qt, .int (nI nn), .ref m6, .ref m7, .ref m8, .ref m9, .ref m10, .ref m11, .ref m12, .ref m13, .ref m14, .ref m15, .int mam]))) {j1 : Nat} {my : Nat → Int32} (k1 : w[j1]? = some (m9, .inl (cy.1, 12, .inl my))) {j2 : Nat} {fw : Nat → Int32} (k2 : w[j2]? = some (m10, .inl (cy.1, 48, .inl fw))) {j3 : Nat} {ab : Nat → Int32} (k3 : w[j3]? = some (m6, .inl (cy.1, 12, .inl ab))) {ch : Nat → Nat} (hn : nn ≤ 12) (hT : zTree nn ab) (hch : ∀ n, n < nn → my n = nI (ch n) ∧ ch n < 16) {j v : Nat} (hj : j < nn) (hv : v < 4) (hhb : ∀ n, j < n → n < nn → ∀ t, t < 4 → fw (4 * n + t) = nI (zH nn ab ch n t)) : zR l yX5_hopsBelow wsX5_hopsBelow rmX5_hopsBelow D cy w [.ref M, .int (nI j), .int (nI v)] (nI (zH nn ab ch j v)) := by
  rw [zH_fix hT hn hj]
  exact c_X5_hopsBelow_h h k1 k2 k3 hn hch (fun n hn1 hpl t ht => ⟨hhb n (hT.lt hn hn1 hj hpl) hn1 t ht, zH_cap hT hn hn1 t⟩) hv
theorem z_nI0 {a : Nat} (h : a < 16) : nI a = 0 ↔ a = 0 := (nI_eq (show a < 2 ^ 31 by omega) (show 0 < 2 ^ 31 by decide))
set_option maxRecDepth 20000 in
theorem lk298_wsX5_tries : Cond.fieldLink RX5 81 "QueryGatewayModel" "nodes" "I" ∈ wsX5_tries := by decide +kernel
set_option maxRecDepth 20000 in
theorem in_wsX5_tries_X5 : ∀ w ∈ wsX50, w ∈ wsX5_tries := by decide +kernel
theorem k_yX5_hopsBelow : yX5_hopsBelow.cls = RX5 ∧ yX5_hopsBelow.cls ≠ "java/lang/invoke/MethodHandle" ∧ yX5_hopsBelow.cls ≠ "java/lang/invoke/VarHandle" ∧ (parseMethodDescriptor yX5_hopsBelow.desc).map (fun d => d.parameters.length) = some 2 := by decide +kernel
set_option maxRecDepth 20000 in
theorem lk301_wsX5_tries : Cond.fieldLink RX5 38 "QueryGatewayModel" "fewest" "[I" ∈ wsX5_tries := by decide +kernel
abbrev rmX5_tries : Room := { frames := 2, cells := 0, slots := 0, locals := 51 }
set_option maxHeartbeats 4000000 in
set_option maxRecDepth 100000 in
theorem c_X5_tries {l : Launch} {D : va_G} {cy : zCy} {M m1 m2 m3 m4 m5 m6 m7 m8 m9 m10 m11 m12 m13 m14 m15 nn : Nat} {thr fa qt mam : Int32} {my fw ab : Nat → Int32} {ch : Nat → Nat} (hn : nn ≤ 12) (hT : zTree nn ab) (hch : ∀ n, n < nn → my n = nI (ch n) ∧ ch n < 16) : zW (Nat → Int32) l yX5_tries wsX5_tries rmX5_tries D cy [(M, .inr (5, [.int thr, .ref m1, .ref m2, .ref m3, .ref m4, .ref m5, .int fa, .int qt, .int (nI nn), .ref m6, .ref m7, .ref m8, .ref m9, .ref m10, .ref m11, .ref m12, .ref m13, .ref m14, .ref m15, .int mam])), (m9, .inl (cy.1, 12, .inl my)), (m10, .inl (cy.1, 48, .inl fw)), (m6, .inl (cy.1, 12, .inl ab))] [.ref M] (fun r _ => r = nI (zTot nn ab ch)) (fun u => [(M, .inr (5, [.int thr, .ref m1, .ref m2, .ref m3, .ref m4, .ref m5, .int fa, .int qt, .int (nI nn), .ref m6, .ref m7, .ref m8, .ref m9, .ref m10, .ref m11, .ref m12, .ref m13, .ref m14, .ref m15, .int mam])), (m9, .inl (cy.1, 12, .inl my)), (m10, .inl (cy.1, 48, .inl u)), (m6, .inl (cy.1, 12, .inl ab))]) := by
  refine zW.of (cc := cX5_tries) (maxL := 3) (ret := (some .int)) (by decide) rfl rfl ?_
  intro p e s m below meth c ls C hP hK hD hl
  obtain ⟨hx, hb, hr, hml, hts, hown, hlocks⟩ := C
  have hS : va_S (zIn [(M, .inr (5, [.int thr, .ref m1, .ref m2, .ref m3, .ref m4, .ref m5, .int fa, .int qt, .int (nI nn), .ref m6, .ref m7, .ref m8, .ref m9, .ref m10, .ref m11, .ref m12, .ref m13, .ref m14, .ref m15, .int mam])), (m9, .inl (cy.1, 12, .inl my)), (m10, .inl (cy.1, 48, .inl fw)), (m6, .inl (cy.1, 12, .inl ab))]) s.heap s.heap [] := va_S.rf
  have hl : lv_has ls 3 [(0, .ref M)] := hl
  refine lv_aload_n hx hb dX5_tries_0 rfl (lv_at hl 0 rfl) ?_
  refine va_get (D := D) (ci := 5) (v := .int (nI nn)) (C := RX5) (T := TX5) (N := 20) hx hb hts in_wsX5_tries_X5 hown hK.1 hP 0 rfl rfl 8 (by decide) (hts _ lk298_wsX5_tries) (fun _ h9 => h9) rfl dX5_tries_1 ?_
  refine lv_iconst (v := nI 1) hx hb dX5_tries_4 (by decide) ?_
  refine lv_isub hx hb dX5_tries_5 ?_
  refine z_top (y := (nI nn - 1)) rfl ?_
  refine lv_istore_n (lv' := [(1, .int ((nI nn - 1))), (0, .ref M)]) hx hb dX5_tries_6 rfl hl (by decide) rfl (fun ls hl => ?_)
  have lo : ∀ (fuel : Nat) (j : Nat) (u : Nat → Int32), j + 1 ≤ fuel → j ≤ nn → (∀ n, j ≤ n → n < nn → ∀ v, v < 4 → u (4 * n + v) = nI (zH nn ab ch n v)) → ∀ (H : Heap) (locs : List Loc) (ls : Array Slot), va_P D vwCl [(M, .inr (5, [.int thr, .ref m1, .ref m2, .ref m3, .ref m4, .ref m5, .int fa, .int qt, .int (nI nn), .ref m6, .ref m7, .ref m8, .ref m9, .ref m10, .ref m11, .ref m12, .ref m13, .ref m14, .ref m15, .int mam])), (m9, .inl (cy.1, 12, .inl my)), (m10, .inl (cy.1, 48, .inl u)), (m6, .inl (cy.1, 12, .inl ab))] H → va_D (zIn [(M, .inr (5, [.int thr, .ref m1, .ref m2, .ref m3, .ref m4, .ref m5, .int fa, .int qt, .int (nI nn), .ref m6, .ref m7, .ref m8, .ref m9, .ref m10, .ref m11, .ref m12, .ref m13, .ref m14, .ref m15, .int mam])), (m9, .inl (cy.1, 12, .inl my)), (m10, .inl (cy.1, 48, .inl fw)), (m6, .inl (cy.1, 12, .inl ab))]) [(M, .inr (5, [.int thr, .ref m1, .ref m2, .ref m3, .ref m4, .ref m5, .int fa, .int qt, .int (nI nn), .ref m6, .ref m7, .ref m8, .ref m9, .ref m10, .ref m11, .ref m12, .ref m13, .ref m14, .ref m15, .int mam])), (m9, .inl (cy.1, 12, .inl my)), (m10, .inl (cy.1, 48, .inl u)), (m6, .inl (cy.1, 12, .inl ab))] → va_S (zIn [(M, .inr (5, [.int thr, .ref m1, .ref m2, .ref m3, .ref m4, .ref m5, .int fa, .int qt, .int (nI nn), .ref m6, .ref m7, .ref m8, .ref m9, .ref m10, .ref m11, .ref m12, .ref m13, .ref m14, .ref m15, .int mam])), (m9, .inl (cy.1, 12, .inl my)), (m10, .inl (cy.1, 48, .inl fw)), (m6, .inl (cy.1, 12, .inl ab))]) s.heap H locs → lv_has ls 3 [(0, .ref M), (1, .int ((nI j - 1)))] → W p l e rmX5_tries s m [.ref M].toArray below meth c H locs 0 0 (zWQ (Nat → Int32) D below [.ref M].toArray s [(M, .inr (5, [.int thr, .ref m1, .ref m2, .ref m3, .ref m4, .ref m5, .int fa, .int qt, .int (nI nn), .ref m6, .ref m7, .ref m8, .ref m9, .ref m10, .ref m11, .ref m12, .ref m13, .ref m14, .ref m15, .int mam])), (m9, .inl (cy.1, 12, .inl my)), (m10, .inl (cy.1, 48, .inl fw)), (m6, .inl (cy.1, 12, .inl ab))] (fun r _ => r = nI (zTot nn ab ch)) (fun u => [(M, .inr (5, [.int thr, .ref m1, .ref m2, .ref m3, .ref m4, .ref m5, .int fa, .int qt, .int (nI nn), .ref m6, .ref m7, .ref m8, .ref m9, .ref m10, .ref m11, .ref m12, .ref m13, .ref m14, .ref m15, .int mam])), (m9, .inl (cy.1, 12, .inl my)), (m10, .inl (cy.1, 48, .inl u)), (m6, .inl (cy.1, 12, .inl ab))])) (F0 m 7 ls []) := by
    intro fuel
    induction fuel with
    | zero => intro j u hfu hj hdone0; exact absurd hfu (by omega)
    | succ fuel ih_lo =>
      intro j u hfu hj hdone0 H locs ls hP hD hS hl
      refine lv_iload_n hx hb dX5_tries_7 rfl (lv_at hl 1 rfl) ?_
      refine lv_if_lt (tgt := 46) hx hb dX5_tries_8 (by decide) (fun cb1 => ?_) (fun cb1 => ?_)
      · have cb1 : ((nI j - 1)).toInt < ((0 : Nat) : Int) := ziIN_lt_t (b := 0) (by omega) cb1
        have hj0 := z_dnT (by omega) cb1
        refine lv_aload_n hx hb dX5_tries_46 rfl (lv_at hl 0 rfl) ?_
        refine lv_iconst (v := (-1 : Int32)) hx hb dX5_tries_47 (by decide) ?_
        refine lv_iconst (v := (-1 : Int32)) hx hb dX5_tries_48 (by decide) ?_
        refine z_callV (b := M) (As := [.int ((-1 : Int32)), .int ((-1 : Int32))]) (rest := []) ⟨hx, hb, hml, hown, hts⟩ hK hP hS (c_X5_hopsBelow_m1 (i := 0) (j1 := 1) (j2 := 2) (j3 := 3) rfl rfl rfl rfl (ch := ch) (hh := zH nn ab ch) (x := -1) hn hch (fun k hk _ v hv => ⟨hdone0 k (by omega) hk v hv, zH_cap hT hn hk v⟩)) (cwV 2 hts gX5_tries_X5_hopsBelow rfl rfl rfl k_yX5_hopsBelow ⟨Nat.le_of_ble_eq_true rfl, Nat.le_of_ble_eq_true rfl⟩) 0 5 rfl rfl rfl rfl hl.1 rfl rfl dX5_tries_49 ⟨Nat.le_of_ble_eq_true rfl, Nat.le_of_ble_eq_true rfl⟩ (fun H locs hP hS => ?_)
        exact z_iretW u hx hb hr hlocks hS dX5_tries_52 hP rfl
      · have cb1 : ¬ (((nI j - 1)).toInt < ((0 : Nat) : Int)) := ziIN_lt_f (b := 0) (by omega) cb1
        obtain ⟨j1, rfl⟩ := z_dnF cb1
        rw [nI_pred] at hl
        refine lv_iconst (v := nI 0) hx hb dX5_tries_11 (by decide) ?_
        refine lv_istore_n (lv' := [(2, .int (nI 0)), (0, .ref M), (1, .int (nI j1))]) hx hb dX5_tries_12 rfl hl (by decide) rfl (fun ls hl => ?_)
        have li : ∀ (fuel : Nat) (v : Nat) (u2 : Nat → Int32), 5 ≤ v + fuel → v ≤ 4 → (∀ t, t < v → u2 (4 * j1 + t) = nI (zH nn ab ch j1 t)) → (∀ n, j1 < n → n < nn → ∀ t, t < 4 → u2 (4 * n + t) = nI (zH nn ab ch n t)) → ∀ (H : Heap) (locs : List Loc) (ls : Array Slot), va_P D vwCl [(M, .inr (5, [.int thr, .ref m1, .ref m2, .ref m3, .ref m4, .ref m5, .int fa, .int qt, .int (nI nn), .ref m6, .ref m7, .ref m8, .ref m9, .ref m10, .ref m11, .ref m12, .ref m13, .ref m14, .ref m15, .int mam])), (m9, .inl (cy.1, 12, .inl my)), (m10, .inl (cy.1, 48, .inl u2)), (m6, .inl (cy.1, 12, .inl ab))] H → va_D (zIn [(M, .inr (5, [.int thr, .ref m1, .ref m2, .ref m3, .ref m4, .ref m5, .int fa, .int qt, .int (nI nn), .ref m6, .ref m7, .ref m8, .ref m9, .ref m10, .ref m11, .ref m12, .ref m13, .ref m14, .ref m15, .int mam])), (m9, .inl (cy.1, 12, .inl my)), (m10, .inl (cy.1, 48, .inl fw)), (m6, .inl (cy.1, 12, .inl ab))]) [(M, .inr (5, [.int thr, .ref m1, .ref m2, .ref m3, .ref m4, .ref m5, .int fa, .int qt, .int (nI nn), .ref m6, .ref m7, .ref m8, .ref m9, .ref m10, .ref m11, .ref m12, .ref m13, .ref m14, .ref m15, .int mam])), (m9, .inl (cy.1, 12, .inl my)), (m10, .inl (cy.1, 48, .inl u2)), (m6, .inl (cy.1, 12, .inl ab))] → va_S (zIn [(M, .inr (5, [.int thr, .ref m1, .ref m2, .ref m3, .ref m4, .ref m5, .int fa, .int qt, .int (nI nn), .ref m6, .ref m7, .ref m8, .ref m9, .ref m10, .ref m11, .ref m12, .ref m13, .ref m14, .ref m15, .int mam])), (m9, .inl (cy.1, 12, .inl my)), (m10, .inl (cy.1, 48, .inl fw)), (m6, .inl (cy.1, 12, .inl ab))]) s.heap H locs → lv_has ls 3 [(0, .ref M), (1, .int (nI j1)), (2, .int (nI v))] → W p l e rmX5_tries s m [.ref M].toArray below meth c H locs 0 0 (zWQ (Nat → Int32) D below [.ref M].toArray s [(M, .inr (5, [.int thr, .ref m1, .ref m2, .ref m3, .ref m4, .ref m5, .int fa, .int qt, .int (nI nn), .ref m6, .ref m7, .ref m8, .ref m9, .ref m10, .ref m11, .ref m12, .ref m13, .ref m14, .ref m15, .int mam])), (m9, .inl (cy.1, 12, .inl my)), (m10, .inl (cy.1, 48, .inl fw)), (m6, .inl (cy.1, 12, .inl ab))] (fun r _ => r = nI (zTot nn ab ch)) (fun u => [(M, .inr (5, [.int thr, .ref m1, .ref m2, .ref m3, .ref m4, .ref m5, .int fa, .int qt, .int (nI nn), .ref m6, .ref m7, .ref m8, .ref m9, .ref m10, .ref m11, .ref m12, .ref m13, .ref m14, .ref m15, .int mam])), (m9, .inl (cy.1, 12, .inl my)), (m10, .inl (cy.1, 48, .inl u)), (m6, .inl (cy.1, 12, .inl ab))])) (F0 m 13 ls []) := by
          intro fuel
          induction fuel with
          | zero => intro v u2 hfu hv hrow hdone; exact absurd hfu (by omega)
          | succ fuel ih_li =>
            intro v u2 hfu hv hrow hdone H locs ls hP hD hS hl
            refine lv_iload_n hx hb dX5_tries_13 rfl (lv_at hl 2 rfl) ?_
            refine lv_iconst (v := nI 4) hx hb dX5_tries_14 (by decide) ?_
            refine lv_icmp_ge (tgt := 40) hx hb dX5_tries_15 (by decide) (fun cb2 => ?_) (fun cb2 => ?_)
            · have cb2 : 4 ≤ v := zn_ge_t (a := v) (b := 4) (by omega) (by omega) cb2
              refine lv_iinc (v := nI j1 - 1) (lv' := [(1, .int (nI j1 - 1)), (0, .ref M), (2, .int (nI v))]) hx hb dX5_tries_40 hl (k := 1) rfl (z_dec _) (by decide) rfl (fun ls hl => ?_)
              refine lv_goto (tgt := 7) hx hb dX5_tries_43 (by decide) ?_
              exact ih_lo j1 u2 (by omega) (by omega) (fun n h1 h2 v hv => by
                  rcases Nat.lt_or_ge j1 n with z | z
                  · exact hdone n z h2 v hv
                  · obtain rfl : n = j1 := (by omega)
                    exact hrow v (by omega)) _ _ _ hP hD hS (lv_sub hl [1, 0] rfl)
            · have cb2 : ¬ (4 ≤ v) := zn_ge_f (a := v) (b := 4) (by omega) (by omega) cb2
              refine lv_aload_n hx hb dX5_tries_18 rfl (lv_at hl 0 rfl) ?_
              refine va_get (D := D) (ci := 5) (v := .ref m10) (C := RX5) (T := TX5) (N := 20) hx hb hts in_wsX5_tries_X5 hown hK.1 hP 0 rfl rfl 13 (by decide) (hts _ lk301_wsX5_tries) (fun _ h9 => h9) rfl dX5_tries_19 ?_
              refine lv_iconst (v := nI 4) hx hb dX5_tries_22 (by decide) ?_
              refine lv_iload_n hx hb dX5_tries_23 rfl (lv_at hl 1 rfl) ?_
              refine lv_imul hx hb dX5_tries_24 ?_
              refine z_top (y := nI (4 * j1)) (pk_mul _ _) ?_
              refine lv_iload_n hx hb dX5_tries_25 rfl (lv_at hl 2 rfl) ?_
              refine lv_iadd hx hb dX5_tries_26 ?_
              refine z_top (y := nI ((4 * j1) + v)) (nI_add _ _) ?_
              refine lv_aload_n hx hb dX5_tries_27 rfl (lv_at hl 0 rfl) ?_
              refine lv_iload_n hx hb dX5_tries_28 rfl (lv_at hl 1 rfl) ?_
              refine lv_iload_n hx hb dX5_tries_29 rfl (lv_at hl 2 rfl) ?_
              refine z_callV (b := M) (As := [.int (nI j1), .int (nI v)]) (rest := [.int (nI ((4 * j1) + v)), .ref m10]) ⟨hx, hb, hml, hown, hts⟩ hK hP hS (c_X5_hopsBelow_t (i := 0) (j1 := 1) (j2 := 2) (j3 := 3) rfl rfl rfl rfl hn hT hch (j := j1) (v := v) (by omega) (by omega) hdone) (cwV 2 hts gX5_tries_X5_hopsBelow rfl rfl rfl k_yX5_hopsBelow ⟨Nat.le_of_ble_eq_true rfl, Nat.le_of_ble_eq_true rfl⟩) 0 5 rfl rfl rfl rfl hl.1 rfl rfl dX5_tries_30 ⟨Nat.le_of_ble_eq_true rfl, Nat.le_of_ble_eq_true rfl⟩ (fun H locs hP hS => ?_)
              refine z_iast (g := upd u2 ((4 * j1) + v) (nI (zH nn ab ch j1 v))) hx hb hK.1 hP hD hS 2 0 rfl rfl (k := (4 * j1) + v) (by omega) (by decide) (fun _ _ => rfl) dX5_tries_33 (fun H locs hP hD hS => ?_)
              have hP : va_P D vwCl [(M, .inr (5, [.int thr, .ref m1, .ref m2, .ref m3, .ref m4, .ref m5, .int fa, .int qt, .int (nI nn), .ref m6, .ref m7, .ref m8, .ref m9, .ref m10, .ref m11, .ref m12, .ref m13, .ref m14, .ref m15, .int mam])), (m9, .inl (cy.1, 12, .inl my)), (m10, .inl (cy.1, 48, .inl (upd u2 ((4 * j1) + v) (nI (zH nn ab ch j1 v))))), (m6, .inl (cy.1, 12, .inl ab))] H := hP
              have hD : va_D (zIn [(M, .inr (5, [.int thr, .ref m1, .ref m2, .ref m3, .ref m4, .ref m5, .int fa, .int qt, .int (nI nn), .ref m6, .ref m7, .ref m8, .ref m9, .ref m10, .ref m11, .ref m12, .ref m13, .ref m14, .ref m15, .int mam])), (m9, .inl (cy.1, 12, .inl my)), (m10, .inl (cy.1, 48, .inl fw)), (m6, .inl (cy.1, 12, .inl ab))]) [(M, .inr (5, [.int thr, .ref m1, .ref m2, .ref m3, .ref m4, .ref m5, .int fa, .int qt, .int (nI nn), .ref m6, .ref m7, .ref m8, .ref m9, .ref m10, .ref m11, .ref m12, .ref m13, .ref m14, .ref m15, .int mam])), (m9, .inl (cy.1, 12, .inl my)), (m10, .inl (cy.1, 48, .inl (upd u2 ((4 * j1) + v) (nI (zH nn ab ch j1 v))))), (m6, .inl (cy.1, 12, .inl ab))] := hD
              refine lv_iinc (v := nI (v + 1)) (lv' := [(2, .int (nI (v + 1))), (0, .ref M), (1, .int (nI j1))]) hx hb dX5_tries_34 hl (k := 2) rfl (z_inc _) (by decide) rfl (fun ls hl => ?_)
              refine lv_goto (tgt := 13) hx hb dX5_tries_37 (by decide) ?_
              exact ih_li (v + 1) (upd u2 (4 * j1 + v) (nI (zH nn ab ch j1 v))) (by omega) (by omega) (lt_s (fun t ht => by unfold upd; rw [if_neg (by omega)]; exact hrow t ht) (by unfold upd; rw [if_pos rfl])) (fun n h1 h2 t ht => by unfold upd; rw [if_neg (by omega)]; exact hdone n h1 h2 t ht) _ _ _ hP hD hS (lv_sub hl [1, 2, 0] rfl)
        exact li (5) 0 u (by omega) (by omega) (fun t ht => absurd ht (by omega)) (fun n h1 h2 t ht => hdone0 n (by omega) h2 t ht) _ _ _ hP hD hS (lv_sub hl [1, 2, 0] rfl)
  exact lo (nn + 1) nn fw (by omega) (by omega) (fun n h1 h2 => absurd h1 (by omega)) _ _ _ hP hD hS (lv_sub hl [1, 0] rfl)
set_option maxRecDepth 20000 in
theorem lk302_wsX5_hasPlan : Cond.fieldLink RX5 81 "QueryGatewayModel" "nodes" "I" ∈ wsX5_hasPlan := by decide +kernel
set_option maxRecDepth 20000 in
theorem in_wsX5_hasPlan_X5 : ∀ w ∈ wsX50, w ∈ wsX5_hasPlan := by decide +kernel
set_option maxRecDepth 20000 in
theorem lk304_wsX5_hasPlan : Cond.fieldLink RX5 35 "QueryGatewayModel" "may" "[I" ∈ wsX5_hasPlan := by decide +kernel
set_option maxRecDepth 20000 in
theorem lk305_wsX5_hasPlan : Cond.fieldLink RX5 20 "QueryGatewayModel" "owners" "[I" ∈ wsX5_hasPlan := by decide +kernel
theorem k_yX5_fieldOf : yX5_fieldOf.cls = RX5 ∧ yX5_fieldOf.cls ≠ "java/lang/invoke/MethodHandle" ∧ yX5_fieldOf.cls ≠ "java/lang/invoke/VarHandle" ∧ (parseMethodDescriptor yX5_fieldOf.desc).map (fun d => d.parameters.length) = some 1 := by decide +kernel
abbrev rmX5_hasPlan : Room := { frames := 1, cells := 0, slots := 0, locals := 21 }
set_option maxHeartbeats 4000000 in
set_option maxRecDepth 100000 in
theorem c_X5_hasPlan {l : Launch} {D : va_G} {cy : zCy} {M m1 m2 m3 m4 m5 m6 m7 m8 m9 m10 m11 m12 m13 m14 m15 nn : Nat} {thr fa qt mam : Int32} {my : Nat → Int32} {sl ow : Nat → Nat} (hn : nn ≤ 12) (hsl : ∀ n, n < nn → sl n < 32) (how : ∀ n, n < nn → ow (sl n) < 16) : zW (Nat → Int32) l yX5_hasPlan wsX5_hasPlan rmX5_hasPlan D cy [(M, .inr (5, [.int thr, .ref m1, .ref m2, .ref m3, .ref m4, .ref m5, .int fa, .int qt, .int (nI nn), .ref m6, .ref m7, .ref m8, .ref m9, .ref m10, .ref m11, .ref m12, .ref m13, .ref m14, .ref m15, .int mam])), (m4, .inl (cy.1, 32, .inl (fun z => nI (ow z)))), (m9, .inl (cy.1, 12, .inl my)), (m7, .inl (cy.1, 12, .inl (fun z => nI (sl z % 8)))), (m8, .inl (cy.1, 12, .inl (fun z => nI (sl z / 8))))] [.ref M] (fun r u => r = bI (zAll nn sl ow) ∧ ∀ n, n < nn → u n = nI (ow (sl n))) (fun u => [(M, .inr (5, [.int thr, .ref m1, .ref m2, .ref m3, .ref m4, .ref m5, .int fa, .int qt, .int (nI nn), .ref m6, .ref m7, .ref m8, .ref m9, .ref m10, .ref m11, .ref m12, .ref m13, .ref m14, .ref m15, .int mam])), (m4, .inl (cy.1, 32, .inl (fun z => nI (ow z)))), (m9, .inl (cy.1, 12, .inl u)), (m7, .inl (cy.1, 12, .inl (fun z => nI (sl z % 8)))), (m8, .inl (cy.1, 12, .inl (fun z => nI (sl z / 8))))]) := by
  refine zW.of (cc := cX5_hasPlan) (maxL := 3) (ret := (some .boolean)) (by decide) rfl rfl ?_
  intro p e s m below meth c ls C hP hK hD hl
  obtain ⟨hx, hb, hr, hml, hts, hown, hlocks⟩ := C
  have hS : va_S (zIn [(M, .inr (5, [.int thr, .ref m1, .ref m2, .ref m3, .ref m4, .ref m5, .int fa, .int qt, .int (nI nn), .ref m6, .ref m7, .ref m8, .ref m9, .ref m10, .ref m11, .ref m12, .ref m13, .ref m14, .ref m15, .int mam])), (m4, .inl (cy.1, 32, .inl (fun z => nI (ow z)))), (m9, .inl (cy.1, 12, .inl my)), (m7, .inl (cy.1, 12, .inl (fun z => nI (sl z % 8)))), (m8, .inl (cy.1, 12, .inl (fun z => nI (sl z / 8))))]) s.heap s.heap [] := va_S.rf
  have hl : lv_has ls 3 [(0, .ref M)] := hl
  refine lv_iconst (v := nI 1) hx hb dX5_hasPlan_0 (by decide) ?_
  refine lv_istore_n (lv' := [(1, .int (nI 1)), (0, .ref M)]) hx hb dX5_hasPlan_1 rfl hl (by decide) rfl (fun ls hl => ?_)
  refine lv_iconst (v := nI 0) hx hb dX5_hasPlan_2 (by decide) ?_
  refine lv_istore_n (lv' := [(2, .int (nI 0)), (1, .int (nI 1)), (0, .ref M)]) hx hb dX5_hasPlan_3 rfl hl (by decide) rfl (fun ls hl => ?_)
  have lo : ∀ (fuel : Nat) (n : Nat) (A : Bool) (c1 : Nat → Int32), nn + 1 ≤ n + fuel → n ≤ nn → (A = decide (∀ k, k < n → ow (sl k) ≠ 0)) → (∀ k, k < n → c1 k = nI (ow (sl k))) → ∀ (H : Heap) (locs : List Loc) (ls : Array Slot), va_P D vwCl [(M, .inr (5, [.int thr, .ref m1, .ref m2, .ref m3, .ref m4, .ref m5, .int fa, .int qt, .int (nI nn), .ref m6, .ref m7, .ref m8, .ref m9, .ref m10, .ref m11, .ref m12, .ref m13, .ref m14, .ref m15, .int mam])), (m4, .inl (cy.1, 32, .inl (fun z => nI (ow z)))), (m9, .inl (cy.1, 12, .inl c1)), (m7, .inl (cy.1, 12, .inl (fun z => nI (sl z % 8)))), (m8, .inl (cy.1, 12, .inl (fun z => nI (sl z / 8))))] H → va_D (zIn [(M, .inr (5, [.int thr, .ref m1, .ref m2, .ref m3, .ref m4, .ref m5, .int fa, .int qt, .int (nI nn), .ref m6, .ref m7, .ref m8, .ref m9, .ref m10, .ref m11, .ref m12, .ref m13, .ref m14, .ref m15, .int mam])), (m4, .inl (cy.1, 32, .inl (fun z => nI (ow z)))), (m9, .inl (cy.1, 12, .inl my)), (m7, .inl (cy.1, 12, .inl (fun z => nI (sl z % 8)))), (m8, .inl (cy.1, 12, .inl (fun z => nI (sl z / 8))))]) [(M, .inr (5, [.int thr, .ref m1, .ref m2, .ref m3, .ref m4, .ref m5, .int fa, .int qt, .int (nI nn), .ref m6, .ref m7, .ref m8, .ref m9, .ref m10, .ref m11, .ref m12, .ref m13, .ref m14, .ref m15, .int mam])), (m4, .inl (cy.1, 32, .inl (fun z => nI (ow z)))), (m9, .inl (cy.1, 12, .inl c1)), (m7, .inl (cy.1, 12, .inl (fun z => nI (sl z % 8)))), (m8, .inl (cy.1, 12, .inl (fun z => nI (sl z / 8))))] → va_S (zIn [(M, .inr (5, [.int thr, .ref m1, .ref m2, .ref m3, .ref m4, .ref m5, .int fa, .int qt, .int (nI nn), .ref m6, .ref m7, .ref m8, .ref m9, .ref m10, .ref m11, .ref m12, .ref m13, .ref m14, .ref m15, .int mam])), (m4, .inl (cy.1, 32, .inl (fun z => nI (ow z)))), (m9, .inl (cy.1, 12, .inl my)), (m7, .inl (cy.1, 12, .inl (fun z => nI (sl z % 8)))), (m8, .inl (cy.1, 12, .inl (fun z => nI (sl z / 8))))]) s.heap H locs → lv_has ls 3 [(0, .ref M), (1, .int (bI (A))), (2, .int (nI n))] → W p l e rmX5_hasPlan s m [.ref M].toArray below meth c H locs 0 0 (zWQ (Nat → Int32) D below [.ref M].toArray s [(M, .inr (5, [.int thr, .ref m1, .ref m2, .ref m3, .ref m4, .ref m5, .int fa, .int qt, .int (nI nn), .ref m6, .ref m7, .ref m8, .ref m9, .ref m10, .ref m11, .ref m12, .ref m13, .ref m14, .ref m15, .int mam])), (m4, .inl (cy.1, 32, .inl (fun z => nI (ow z)))), (m9, .inl (cy.1, 12, .inl my)), (m7, .inl (cy.1, 12, .inl (fun z => nI (sl z % 8)))), (m8, .inl (cy.1, 12, .inl (fun z => nI (sl z / 8))))] (fun r u => r = bI (zAll nn sl ow) ∧ ∀ n, n < nn → u n = nI (ow (sl n))) (fun u => [(M, .inr (5, [.int thr, .ref m1, .ref m2, .ref m3, .ref m4, .ref m5, .int fa, .int qt, .int (nI nn), .ref m6, .ref m7, .ref m8, .ref m9, .ref m10, .ref m11, .ref m12, .ref m13, .ref m14, .ref m15, .int mam])), (m4, .inl (cy.1, 32, .inl (fun z => nI (ow z)))), (m9, .inl (cy.1, 12, .inl u)), (m7, .inl (cy.1, 12, .inl (fun z => nI (sl z % 8)))), (m8, .inl (cy.1, 12, .inl (fun z => nI (sl z / 8))))])) (F0 m 4 ls []) := by
    intro fuel
    induction fuel with
    | zero => intro n A c1 hfu hi hA hcp; exact absurd hfu (by omega)
    | succ fuel ih_lo =>
      intro n A c1 hfu hi hA hcp H locs ls hP hD hS hl
      refine lv_iload_n hx hb dX5_hasPlan_4 rfl (lv_at hl 2 rfl) ?_
      refine lv_aload_n hx hb dX5_hasPlan_5 rfl (lv_at hl 0 rfl) ?_
      refine va_get (D := D) (ci := 5) (v := .int (nI nn)) (C := RX5) (T := TX5) (N := 20) hx hb hts in_wsX5_hasPlan_X5 hown hK.1 hP 0 rfl rfl 8 (by decide) (hts _ lk302_wsX5_hasPlan) (fun _ h9 => h9) rfl dX5_hasPlan_6 ?_
      refine lv_icmp_ge (tgt := 53) hx hb dX5_hasPlan_9 (by decide) (fun cb1 => ?_) (fun cb1 => ?_)
      · have cb1 : nn ≤ n := zn_ge_t (a := n) (b := nn) (by omega) (by omega) cb1
        refine lv_iload_n hx hb dX5_hasPlan_53 rfl (lv_at hl 1 rfl) ?_
        exact z_zretW c1 hx hb hr hlocks hS dX5_hasPlan_54 hP ⟨by obtain rfl : n = nn := (by omega); rw [hA]; rfl, fun k hk => hcp k (by omega)⟩ (bI01 _)
      · have cb1 : ¬ (nn ≤ n) := zn_ge_f (a := n) (b := nn) (by omega) (by omega) cb1
        have hsl1 := hsl n (by omega)
        have how1 := how n (by omega)
        refine lv_aload_n hx hb dX5_hasPlan_12 rfl (lv_at hl 0 rfl) ?_
        refine va_get (D := D) (ci := 5) (v := .ref m9) (C := RX5) (T := TX5) (N := 20) hx hb hts in_wsX5_hasPlan_X5 hown hK.1 hP 0 rfl rfl 12 (by decide) (hts _ lk304_wsX5_hasPlan) (fun _ h9 => h9) rfl dX5_hasPlan_13 ?_
        refine lv_iload_n hx hb dX5_hasPlan_16 rfl (lv_at hl 2 rfl) ?_
        refine lv_aload_n hx hb dX5_hasPlan_17 rfl (lv_at hl 0 rfl) ?_
        refine va_get (D := D) (ci := 5) (v := .ref m4) (C := RX5) (T := TX5) (N := 20) hx hb hts in_wsX5_hasPlan_X5 hown hK.1 hP 0 rfl rfl 4 (by decide) (hts _ lk305_wsX5_hasPlan) (fun _ h9 => h9) rfl dX5_hasPlan_18 ?_
        refine lv_aload_n hx hb dX5_hasPlan_21 rfl (lv_at hl 0 rfl) ?_
        refine lv_iload_n hx hb dX5_hasPlan_22 rfl (lv_at hl 2 rfl) ?_
        refine z_callV (b := M) (As := [.int (nI n)]) (rest := [.ref m4, .int (nI n), .ref m9]) ⟨hx, hb, hml, hown, hts⟩ hK hP hS (c_X5_fieldOf (i := 0) (j1 := 4) (j2 := 3) rfl rfl rfl (k := n) (by omega)) (cwV 1 hts gX5_hasPlan_X5_fieldOf rfl rfl rfl k_yX5_fieldOf ⟨Nat.le_of_ble_eq_true rfl, Nat.le_of_ble_eq_true rfl⟩) 0 5 rfl rfl rfl rfl hl.1 rfl rfl dX5_hasPlan_23 ⟨Nat.le_of_ble_eq_true rfl, Nat.le_of_ble_eq_true rfl⟩ (fun H locs hP hS => ?_)
        refine z_iald (v := nI (ow (sl n))) hx hb hK.1 hP 1 0 rfl rfl (k := sl n) (by omega) (by decide) rfl dX5_hasPlan_26 ?_
        refine z_iast (g := upd c1 n (nI (ow (sl n)))) hx hb hK.1 hP hD hS 2 0 rfl rfl (k := n) (by omega) (by decide) (fun _ _ => rfl) dX5_hasPlan_27 (fun H locs hP hD hS => ?_)
        have hP : va_P D vwCl [(M, .inr (5, [.int thr, .ref m1, .ref m2, .ref m3, .ref m4, .ref m5, .int fa, .int qt, .int (nI nn), .ref m6, .ref m7, .ref m8, .ref m9, .ref m10, .ref m11, .ref m12, .ref m13, .ref m14, .ref m15, .int mam])), (m4, .inl (cy.1, 32, .inl (fun z => nI (ow z)))), (m9, .inl (cy.1, 12, .inl (upd c1 n (nI (ow (sl n)))))), (m7, .inl (cy.1, 12, .inl (fun z => nI (sl z % 8)))), (m8, .inl (cy.1, 12, .inl (fun z => nI (sl z / 8))))] H := hP
        have hD : va_D (zIn [(M, .inr (5, [.int thr, .ref m1, .ref m2, .ref m3, .ref m4, .ref m5, .int fa, .int qt, .int (nI nn), .ref m6, .ref m7, .ref m8, .ref m9, .ref m10, .ref m11, .ref m12, .ref m13, .ref m14, .ref m15, .int mam])), (m4, .inl (cy.1, 32, .inl (fun z => nI (ow z)))), (m9, .inl (cy.1, 12, .inl my)), (m7, .inl (cy.1, 12, .inl (fun z => nI (sl z % 8)))), (m8, .inl (cy.1, 12, .inl (fun z => nI (sl z / 8))))]) [(M, .inr (5, [.int thr, .ref m1, .ref m2, .ref m3, .ref m4, .ref m5, .int fa, .int qt, .int (nI nn), .ref m6, .ref m7, .ref m8, .ref m9, .ref m10, .ref m11, .ref m12, .ref m13, .ref m14, .ref m15, .int mam])), (m4, .inl (cy.1, 32, .inl (fun z => nI (ow z)))), (m9, .inl (cy.1, 12, .inl (upd c1 n (nI (ow (sl n)))))), (m7, .inl (cy.1, 12, .inl (fun z => nI (sl z % 8)))), (m8, .inl (cy.1, 12, .inl (fun z => nI (sl z / 8))))] := hD
        refine lv_iload_n hx hb dX5_hasPlan_28 rfl (lv_at hl 1 rfl) ?_
        refine lv_if_eq (tgt := 45) hx hb dX5_hasPlan_29 (by decide) (fun cb2 => ?_) (fun cb2 => ?_)
        · have cb2 : (A) = false := bI_t0 cb2
          refine lv_iconst (v := nI 0) hx hb dX5_hasPlan_45 (by decide) ?_
          refine lv_istore_n (lv' := [(1, .int (nI 0)), (0, .ref M), (2, .int (nI n))]) hx hb dX5_hasPlan_46 rfl hl (by decide) rfl (fun ls hl => ?_)
          refine lv_iinc (v := nI (n + 1)) (lv' := [(2, .int (nI (n + 1))), (1, .int (nI 0)), (0, .ref M)]) hx hb dX5_hasPlan_47 hl (k := 2) rfl (z_inc _) (by decide) rfl (fun ls hl => ?_)
          refine lv_goto (tgt := 4) hx hb dX5_hasPlan_50 (by decide) ?_
          exact ih_lo (n + 1) false (upd c1 n (nI (ow (sl n)))) (by omega) (by omega) (by rw [cb2] at hA; exact (decide_eq_false (fun z => of_decide_eq_false hA.symm (fun k hk => z k (by omega)))).symm) (lt_s (fun k hk => by unfold upd; rw [if_neg (by omega)]; exact hcp k hk) (by unfold upd; rw [if_pos rfl])) _ _ _ hP hD hS (lv_sub hl [2, 1, 0] rfl)
        · have cb2 : (A) = true := bI_f0 cb2
          refine lv_aload_n hx hb dX5_hasPlan_32 rfl (lv_at hl 0 rfl) ?_
          refine va_get (D := D) (ci := 5) (v := .ref m9) (C := RX5) (T := TX5) (N := 20) hx hb hts in_wsX5_hasPlan_X5 hown hK.1 hP 0 rfl rfl 12 (by decide) (hts _ lk304_wsX5_hasPlan) (fun _ h9 => h9) rfl dX5_hasPlan_33 ?_
          refine lv_iload_n hx hb dX5_hasPlan_36 rfl (lv_at hl 2 rfl) ?_
          refine z_iald (v := nI (ow (sl n))) hx hb hK.1 hP 2 0 rfl rfl (k := n) (by omega) (by decide) (by unfold upd; rw [if_pos rfl]) dX5_hasPlan_37 ?_
          refine lv_if_eq (tgt := 45) hx hb dX5_hasPlan_38 (by decide) (fun cb3 => ?_) (fun cb3 => ?_)
          · have cb3 : (ow (sl n)) = 0 := zn_eq_t (a := (ow (sl n))) (b := 0) (by omega) (by omega) cb3
            refine lv_iconst (v := nI 0) hx hb dX5_hasPlan_45 (by decide) ?_
            refine lv_istore_n (lv' := [(1, .int (nI 0)), (0, .ref M), (2, .int (nI n))]) hx hb dX5_hasPlan_46 rfl hl (by decide) rfl (fun ls hl => ?_)
            refine lv_iinc (v := nI (n + 1)) (lv' := [(2, .int (nI (n + 1))), (1, .int (nI 0)), (0, .ref M)]) hx hb dX5_hasPlan_47 hl (k := 2) rfl (z_inc _) (by decide) rfl (fun ls hl => ?_)
            refine lv_goto (tgt := 4) hx hb dX5_hasPlan_50 (by decide) ?_
            exact ih_lo (n + 1) false (upd c1 n (nI (ow (sl n)))) (by omega) (by omega) (decide_eq_false (fun z => z n (by omega) cb3)).symm (lt_s (fun k hk => by unfold upd; rw [if_neg (by omega)]; exact hcp k hk) (by unfold upd; rw [if_pos rfl])) _ _ _ hP hD hS (lv_sub hl [2, 1, 0] rfl)
          · have cb3 : ¬ ((ow (sl n)) = 0) := zn_eq_f (a := (ow (sl n))) (b := 0) (by omega) (by omega) cb3
            refine lv_iconst (v := nI 1) hx hb dX5_hasPlan_41 (by decide) ?_
            refine lv_goto (tgt := 46) hx hb dX5_hasPlan_42 (by decide) ?_
            refine lv_istore_n (lv' := [(1, .int (nI 1)), (0, .ref M), (2, .int (nI n))]) hx hb dX5_hasPlan_46 rfl hl (by decide) rfl (fun ls hl => ?_)
            refine lv_iinc (v := nI (n + 1)) (lv' := [(2, .int (nI (n + 1))), (1, .int (nI 1)), (0, .ref M)]) hx hb dX5_hasPlan_47 hl (k := 2) rfl (z_inc _) (by decide) rfl (fun ls hl => ?_)
            refine lv_goto (tgt := 4) hx hb dX5_hasPlan_50 (by decide) ?_
            exact ih_lo (n + 1) true (upd c1 n (nI (ow (sl n)))) (by omega) (by omega) (by rw [cb2] at hA; exact (decide_eq_true (lt_s (of_decide_eq_true hA.symm) cb3)).symm) (lt_s (fun k hk => by unfold upd; rw [if_neg (by omega)]; exact hcp k hk) (by unfold upd; rw [if_pos rfl])) _ _ _ hP hD hS (lv_sub hl [2, 1, 0] rfl)
  exact lo (nn + 1) 0 true my (by omega) (by omega) (decide_eq_true (fun k hk => absurd hk (by omega))).symm (fun k hk => absurd hk (by omega)) _ _ _ hP hD hS (lv_sub hl [2, 1, 0] rfl)
theorem k_yX5_tries : yX5_tries.cls = RX5 ∧ yX5_tries.cls ≠ "java/lang/invoke/MethodHandle" ∧ yX5_tries.cls ≠ "java/lang/invoke/VarHandle" ∧ (parseMethodDescriptor yX5_tries.desc).map (fun d => d.parameters.length) = some 0 := by decide +kernel
set_option maxRecDepth 20000 in
theorem lk308_wsX5_laysPlan : Cond.fieldLink RX5 81 "QueryGatewayModel" "nodes" "I" ∈ wsX5_laysPlan := by decide +kernel
set_option maxRecDepth 20000 in
theorem in_wsX5_laysPlan_X5 : ∀ w ∈ wsX50, w ∈ wsX5_laysPlan := by decide +kernel
set_option maxRecDepth 20000 in
theorem lk310_wsX5_laysPlan : Cond.fieldLink RX5 35 "QueryGatewayModel" "may" "[I" ∈ wsX5_laysPlan := by decide +kernel
set_option maxRecDepth 20000 in
theorem lk311_wsX5_laysPlan : Cond.fieldLink RX5 41 "QueryGatewayModel" "from" "[I" ∈ wsX5_laysPlan := by decide +kernel
abbrev rmX5_laysPlan : Room := { frames := 3, cells := 0, slots := 0, locals := 73 }
set_option maxHeartbeats 4000000 in
set_option maxRecDepth 100000 in
theorem c_X5_laysPlan {l : Launch} {D : va_G} {cy : zCy} {M m1 m2 m3 m4 m5 m6 m7 m8 m9 m10 m11 m12 m13 m14 m15 nn : Nat} {thr fa qt mam : Int32} {my fw ab fr : Nat → Int32} {c0 : Nat → Nat} (hn : nn ≤ 12) (hT : zTree nn ab) (hch : ∀ n, n < nn → my n = nI (c0 n) ∧ c0 n < 16) (h0 : ∀ m, m < nn → ∃ s, s < 4 ∧ (c0 m).testBit s = true) : zW ((Nat → Int32) × (Nat → Int32) × (Nat → Int32)) l yX5_laysPlan wsX5_laysPlan rmX5_laysPlan D cy [(M, .inr (5, [.int thr, .ref m1, .ref m2, .ref m3, .ref m4, .ref m5, .int fa, .int qt, .int (nI nn), .ref m6, .ref m7, .ref m8, .ref m9, .ref m10, .ref m11, .ref m12, .ref m13, .ref m14, .ref m15, .int mam])), (m9, .inl (cy.1, 12, .inl my)), (m10, .inl (cy.1, 48, .inl fw)), (m6, .inl (cy.1, 12, .inl ab)), (m11, .inl (cy.1, 12, .inl fr))] [.ref M] (fun r u => r = nI (zTot nn ab c0) ∧ ∀ n, n < nn → u.2.2 n = nI (zSV nn ab c0 n)) (fun u => [(M, .inr (5, [.int thr, .ref m1, .ref m2, .ref m3, .ref m4, .ref m5, .int fa, .int qt, .int (nI nn), .ref m6, .ref m7, .ref m8, .ref m9, .ref m10, .ref m11, .ref m12, .ref m13, .ref m14, .ref m15, .int mam])), (m9, .inl (cy.1, 12, .inl u.1)), (m10, .inl (cy.1, 48, .inl u.2.1)), (m6, .inl (cy.1, 12, .inl ab)), (m11, .inl (cy.1, 12, .inl u.2.2))]) := by
  refine zW.of (cc := cX5_laysPlan) (maxL := 6) (ret := (some .int)) (by decide) rfl rfl ?_
  intro p e s m below meth c ls C hP hK hD hl
  obtain ⟨hx, hb, hr, hml, hts, hown, hlocks⟩ := C
  have hS : va_S (zIn [(M, .inr (5, [.int thr, .ref m1, .ref m2, .ref m3, .ref m4, .ref m5, .int fa, .int qt, .int (nI nn), .ref m6, .ref m7, .ref m8, .ref m9, .ref m10, .ref m11, .ref m12, .ref m13, .ref m14, .ref m15, .int mam])), (m9, .inl (cy.1, 12, .inl my)), (m10, .inl (cy.1, 48, .inl fw)), (m6, .inl (cy.1, 12, .inl ab)), (m11, .inl (cy.1, 12, .inl fr))]) s.heap s.heap [] := va_S.rf
  have hl : lv_has ls 6 [(0, .ref M)] := hl
  refine lv_aload_n hx hb dX5_laysPlan_0 rfl (lv_at hl 0 rfl) ?_
  refine z_callVW (b := M) (As := []) (rest := []) [(m11, .inl (cy.1, 12, .inl fr))] ⟨hx, hb, hml, hown, hts⟩ hK hP hD hS (c_X5_tries (ch := c0) hn hT hch) (cwV 0 hts gX5_laysPlan_X5_tries rfl rfl rfl k_yX5_tries ⟨Nat.le_of_ble_eq_true rfl, Nat.le_of_ble_eq_true rfl⟩) [0, 1, 2, 3] [4] rfl rfl rfl (fun _ => rfl) 0 5 rfl rfl rfl rfl hl.1 rfl rfl dX5_laysPlan_1 ⟨Nat.le_of_ble_eq_true rfl, Nat.le_of_ble_eq_true rfl⟩ (fun rr2 hb0 H locs hp1 hP hD hS => ?_)
  have hP : va_P D vwCl [(m11, .inl (cy.1, 12, .inl fr)), (M, .inr (5, [.int thr, .ref m1, .ref m2, .ref m3, .ref m4, .ref m5, .int fa, .int qt, .int (nI nn), .ref m6, .ref m7, .ref m8, .ref m9, .ref m10, .ref m11, .ref m12, .ref m13, .ref m14, .ref m15, .int mam])), (m9, .inl (cy.1, 12, .inl my)), (m10, .inl (cy.1, 48, .inl hb0)), (m6, .inl (cy.1, 12, .inl ab))] H := hP
  have hD : va_D (zIn [(M, .inr (5, [.int thr, .ref m1, .ref m2, .ref m3, .ref m4, .ref m5, .int fa, .int qt, .int (nI nn), .ref m6, .ref m7, .ref m8, .ref m9, .ref m10, .ref m11, .ref m12, .ref m13, .ref m14, .ref m15, .int mam])), (m9, .inl (cy.1, 12, .inl my)), (m10, .inl (cy.1, 48, .inl fw)), (m6, .inl (cy.1, 12, .inl ab)), (m11, .inl (cy.1, 12, .inl fr))]) [(m11, .inl (cy.1, 12, .inl fr)), (M, .inr (5, [.int thr, .ref m1, .ref m2, .ref m3, .ref m4, .ref m5, .int fa, .int qt, .int (nI nn), .ref m6, .ref m7, .ref m8, .ref m9, .ref m10, .ref m11, .ref m12, .ref m13, .ref m14, .ref m15, .int mam])), (m9, .inl (cy.1, 12, .inl my)), (m10, .inl (cy.1, 48, .inl hb0)), (m6, .inl (cy.1, 12, .inl ab))] := hD
  refine z_top (y := nI (zTot nn ab c0)) hp1 ?_
  refine lv_istore_n (lv' := [(1, .int (nI (zTot nn ab c0))), (0, .ref M)]) hx hb dX5_laysPlan_4 rfl hl (by decide) rfl (fun ls hl => ?_)
  refine lv_iconst (v := nI 0) hx hb dX5_laysPlan_5 (by decide) ?_
  refine lv_istore_n (lv' := [(2, .int (nI 0)), (1, .int (nI (zTot nn ab c0))), (0, .ref M)]) hx hb dX5_laysPlan_6 rfl hl (by decide) rfl (fun ls hl => ?_)
  have hP := hP.sub (ws' := [(M, .inr (5, [.int thr, .ref m1, .ref m2, .ref m3, .ref m4, .ref m5, .int fa, .int qt, .int (nI nn), .ref m6, .ref m7, .ref m8, .ref m9, .ref m10, .ref m11, .ref m12, .ref m13, .ref m14, .ref m15, .int mam])), (m9, .inl (cy.1, 12, .inl my)), (m10, .inl (cy.1, 48, .inl hb0)), (m6, .inl (cy.1, 12, .inl ab)), (m11, .inl (cy.1, 12, .inl fr))]) [1, 2, 3, 4, 0] rfl
  have hD := hD.sub (ws' := [(M, .inr (5, [.int thr, .ref m1, .ref m2, .ref m3, .ref m4, .ref m5, .int fa, .int qt, .int (nI nn), .ref m6, .ref m7, .ref m8, .ref m9, .ref m10, .ref m11, .ref m12, .ref m13, .ref m14, .ref m15, .int mam])), (m9, .inl (cy.1, 12, .inl my)), (m10, .inl (cy.1, 48, .inl hb0)), (m6, .inl (cy.1, 12, .inl ab)), (m11, .inl (cy.1, 12, .inl fr))]) [1, 2, 3, 4, 0] (by decide) rfl
  have lo : ∀ (fuel : Nat) (n : Nat) (my1 fw1 fr1 : Nat → Int32), nn + 1 ≤ n + fuel → n ≤ nn → (∀ k, k < nn → my1 k = nI ((zSeq nn ab c0 n).1 k)) → (∀ k, k < n → fr1 k = nI (zSV nn ab c0 k)) → ∀ (H : Heap) (locs : List Loc) (ls : Array Slot), va_P D vwCl [(M, .inr (5, [.int thr, .ref m1, .ref m2, .ref m3, .ref m4, .ref m5, .int fa, .int qt, .int (nI nn), .ref m6, .ref m7, .ref m8, .ref m9, .ref m10, .ref m11, .ref m12, .ref m13, .ref m14, .ref m15, .int mam])), (m9, .inl (cy.1, 12, .inl my1)), (m10, .inl (cy.1, 48, .inl fw1)), (m6, .inl (cy.1, 12, .inl ab)), (m11, .inl (cy.1, 12, .inl fr1))] H → va_D (zIn [(M, .inr (5, [.int thr, .ref m1, .ref m2, .ref m3, .ref m4, .ref m5, .int fa, .int qt, .int (nI nn), .ref m6, .ref m7, .ref m8, .ref m9, .ref m10, .ref m11, .ref m12, .ref m13, .ref m14, .ref m15, .int mam])), (m9, .inl (cy.1, 12, .inl my)), (m10, .inl (cy.1, 48, .inl fw)), (m6, .inl (cy.1, 12, .inl ab)), (m11, .inl (cy.1, 12, .inl fr))]) [(M, .inr (5, [.int thr, .ref m1, .ref m2, .ref m3, .ref m4, .ref m5, .int fa, .int qt, .int (nI nn), .ref m6, .ref m7, .ref m8, .ref m9, .ref m10, .ref m11, .ref m12, .ref m13, .ref m14, .ref m15, .int mam])), (m9, .inl (cy.1, 12, .inl my1)), (m10, .inl (cy.1, 48, .inl fw1)), (m6, .inl (cy.1, 12, .inl ab)), (m11, .inl (cy.1, 12, .inl fr1))] → va_S (zIn [(M, .inr (5, [.int thr, .ref m1, .ref m2, .ref m3, .ref m4, .ref m5, .int fa, .int qt, .int (nI nn), .ref m6, .ref m7, .ref m8, .ref m9, .ref m10, .ref m11, .ref m12, .ref m13, .ref m14, .ref m15, .int mam])), (m9, .inl (cy.1, 12, .inl my)), (m10, .inl (cy.1, 48, .inl fw)), (m6, .inl (cy.1, 12, .inl ab)), (m11, .inl (cy.1, 12, .inl fr))]) s.heap H locs → lv_has ls 6 [(0, .ref M), (1, .int (nI (zTot nn ab c0))), (2, .int (nI n))] → W p l e rmX5_laysPlan s m [.ref M].toArray below meth c H locs 0 0 (zWQ ((Nat → Int32) × (Nat → Int32) × (Nat → Int32)) D below [.ref M].toArray s [(M, .inr (5, [.int thr, .ref m1, .ref m2, .ref m3, .ref m4, .ref m5, .int fa, .int qt, .int (nI nn), .ref m6, .ref m7, .ref m8, .ref m9, .ref m10, .ref m11, .ref m12, .ref m13, .ref m14, .ref m15, .int mam])), (m9, .inl (cy.1, 12, .inl my)), (m10, .inl (cy.1, 48, .inl fw)), (m6, .inl (cy.1, 12, .inl ab)), (m11, .inl (cy.1, 12, .inl fr))] (fun r u => r = nI (zTot nn ab c0) ∧ ∀ n, n < nn → u.2.2 n = nI (zSV nn ab c0 n)) (fun u => [(M, .inr (5, [.int thr, .ref m1, .ref m2, .ref m3, .ref m4, .ref m5, .int fa, .int qt, .int (nI nn), .ref m6, .ref m7, .ref m8, .ref m9, .ref m10, .ref m11, .ref m12, .ref m13, .ref m14, .ref m15, .int mam])), (m9, .inl (cy.1, 12, .inl u.1)), (m10, .inl (cy.1, 48, .inl u.2.1)), (m6, .inl (cy.1, 12, .inl ab)), (m11, .inl (cy.1, 12, .inl u.2.2))])) (F0 m 7 ls []) := by
    intro fuel
    induction fuel with
    | zero => intro n my1 fw1 fr1 hfu hi hch1 hfr; exact absurd hfu (by omega)
    | succ fuel ih_lo =>
      intro n my1 fw1 fr1 hfu hi hch1 hfr H locs ls hP hD hS hl
      refine lv_iload_n hx hb dX5_laysPlan_7 rfl (lv_at hl 2 rfl) ?_
      refine lv_aload_n hx hb dX5_laysPlan_8 rfl (lv_at hl 0 rfl) ?_
      refine va_get (D := D) (ci := 5) (v := .int (nI nn)) (C := RX5) (T := TX5) (N := 20) hx hb hts in_wsX5_laysPlan_X5 hown hK.1 hP 0 rfl rfl 8 (by decide) (hts _ lk308_wsX5_laysPlan) (fun _ h9 => h9) rfl dX5_laysPlan_9 ?_
      refine lv_icmp_ge (tgt := 97) hx hb dX5_laysPlan_12 (by decide) (fun cb3 => ?_) (fun cb3 => ?_)
      · have cb3 : nn ≤ n := zn_ge_t (a := n) (b := nn) (by omega) (by omega) cb3
        refine lv_iload_n hx hb dX5_laysPlan_97 rfl (lv_at hl 1 rfl) ?_
        exact z_iretW (my1, fw1, fr1) hx hb hr hlocks hS dX5_laysPlan_98 hP ⟨rfl, fun k hk => hfr k (by omega)⟩
      · have cb3 : ¬ (nn ≤ n) := zn_ge_f (a := n) (b := nn) (by omega) (by omega) cb3
        have hlt16 := zSeq_lt (pl := ab) (fun k hk => (hch k hk).2) n
        have hI := zSeq_inv hT hn h0 n (by omega)
        have hgd : ∀ t, t < 4 → (zGood nn ab c0 (zSeq nn ab c0 n).1 (zSeq nn ab c0 n).2 n t = true ↔ ((zSeq nn ab c0 n).1 n &&& 2 ^ t ≠ 0 ∧ zTot nn ab (zTry (zSeq nn ab c0 n).1 n t) = zTot nn ab c0)) := fun t ht => by unfold zGood; rw [decide_eq_true_iff]; exact hI.test hT hn h0 (by omega) ht
        refine lv_aload_n hx hb dX5_laysPlan_15 rfl (lv_at hl 0 rfl) ?_
        refine va_get (D := D) (ci := 5) (v := .ref m9) (C := RX5) (T := TX5) (N := 20) hx hb hts in_wsX5_laysPlan_X5 hown hK.1 hP 0 rfl rfl 12 (by decide) (hts _ lk310_wsX5_laysPlan) (fun _ h9 => h9) rfl dX5_laysPlan_16 ?_
        refine lv_iload_n hx hb dX5_laysPlan_19 rfl (lv_at hl 2 rfl) ?_
        refine z_iald (v := nI ((zSeq nn ab c0 n).1 n)) hx hb hK.1 hP 1 0 rfl rfl (k := n) (by omega) (by decide) (hch1 n (by omega)) dX5_laysPlan_20 ?_
        refine lv_istore_n (lv' := [(3, .int (nI ((zSeq nn ab c0 n).1 n))), (0, .ref M), (1, .int (nI (zTot nn ab c0))), (2, .int (nI n))]) hx hb dX5_laysPlan_21 rfl hl (by decide) rfl (fun ls hl => ?_)
        refine lv_iconst (v := (-1 : Int32)) hx hb dX5_laysPlan_22 (by decide) ?_
        refine lv_istore (lv' := [(4, .int ((-1 : Int32))), (3, .int (nI ((zSeq nn ab c0 n).1 n))), (0, .ref M), (1, .int (nI (zTot nn ab c0))), (2, .int (nI n))]) hx hb dX5_laysPlan_23 hl (by decide) rfl (fun ls hl => ?_)
        refine lv_iconst (v := nI 0) hx hb dX5_laysPlan_25 (by decide) ?_
        refine lv_istore (lv' := [(5, .int (nI 0)), (4, .int ((-1 : Int32))), (3, .int (nI ((zSeq nn ab c0 n).1 n))), (0, .ref M), (1, .int (nI (zTot nn ab c0))), (2, .int (nI n))]) hx hb dX5_laysPlan_26 hl (by decide) rfl (fun ls hl => ?_)
        have li : ∀ (fuel : Nat) (v : Nat) (FD : Int32) (my2 fw2 : Nat → Int32), 5 ≤ v + fuel → v ≤ 4 → (FD = -1 → ∀ t, t < v → ¬ ((zSeq nn ab c0 n).1 n &&& 2 ^ t ≠ 0 ∧ zTot nn ab (zTry (zSeq nn ab c0 n).1 n t) = zTot nn ab c0)) → (¬ FD = -1 → 1 ≤ v ∧ FD = nI (v - 1) ∧ ((zSeq nn ab c0 n).1 n &&& 2 ^ ((v - 1)) ≠ 0 ∧ zTot nn ab (zTry (zSeq nn ab c0 n).1 n ((v - 1))) = zTot nn ab c0) ∧ ∀ t, t < v - 1 → ¬ ((zSeq nn ab c0 n).1 n &&& 2 ^ t ≠ 0 ∧ zTot nn ab (zTry (zSeq nn ab c0 n).1 n t) = zTot nn ab c0)) → (∀ k, k < nn → k ≠ n → my2 k = nI ((zSeq nn ab c0 n).1 k)) → (1 ≤ v → my2 n = nI ((zSeq nn ab c0 n).1 n &&& 2 ^ (v - 1))) → ∀ (H : Heap) (locs : List Loc) (ls : Array Slot), va_P D vwCl [(M, .inr (5, [.int thr, .ref m1, .ref m2, .ref m3, .ref m4, .ref m5, .int fa, .int qt, .int (nI nn), .ref m6, .ref m7, .ref m8, .ref m9, .ref m10, .ref m11, .ref m12, .ref m13, .ref m14, .ref m15, .int mam])), (m9, .inl (cy.1, 12, .inl my2)), (m10, .inl (cy.1, 48, .inl fw2)), (m6, .inl (cy.1, 12, .inl ab)), (m11, .inl (cy.1, 12, .inl fr1))] H → va_D (zIn [(M, .inr (5, [.int thr, .ref m1, .ref m2, .ref m3, .ref m4, .ref m5, .int fa, .int qt, .int (nI nn), .ref m6, .ref m7, .ref m8, .ref m9, .ref m10, .ref m11, .ref m12, .ref m13, .ref m14, .ref m15, .int mam])), (m9, .inl (cy.1, 12, .inl my)), (m10, .inl (cy.1, 48, .inl fw)), (m6, .inl (cy.1, 12, .inl ab)), (m11, .inl (cy.1, 12, .inl fr))]) [(M, .inr (5, [.int thr, .ref m1, .ref m2, .ref m3, .ref m4, .ref m5, .int fa, .int qt, .int (nI nn), .ref m6, .ref m7, .ref m8, .ref m9, .ref m10, .ref m11, .ref m12, .ref m13, .ref m14, .ref m15, .int mam])), (m9, .inl (cy.1, 12, .inl my2)), (m10, .inl (cy.1, 48, .inl fw2)), (m6, .inl (cy.1, 12, .inl ab)), (m11, .inl (cy.1, 12, .inl fr1))] → va_S (zIn [(M, .inr (5, [.int thr, .ref m1, .ref m2, .ref m3, .ref m4, .ref m5, .int fa, .int qt, .int (nI nn), .ref m6, .ref m7, .ref m8, .ref m9, .ref m10, .ref m11, .ref m12, .ref m13, .ref m14, .ref m15, .int mam])), (m9, .inl (cy.1, 12, .inl my)), (m10, .inl (cy.1, 48, .inl fw)), (m6, .inl (cy.1, 12, .inl ab)), (m11, .inl (cy.1, 12, .inl fr))]) s.heap H locs → lv_has ls 6 [(0, .ref M), (1, .int (nI (zTot nn ab c0))), (2, .int (nI n)), (3, .int (nI ((zSeq nn ab c0 n).1 n))), (4, .int FD), (5, .int (nI v))] → W p l e rmX5_laysPlan s m [.ref M].toArray below meth c H locs 0 0 (zWQ ((Nat → Int32) × (Nat → Int32) × (Nat → Int32)) D below [.ref M].toArray s [(M, .inr (5, [.int thr, .ref m1, .ref m2, .ref m3, .ref m4, .ref m5, .int fa, .int qt, .int (nI nn), .ref m6, .ref m7, .ref m8, .ref m9, .ref m10, .ref m11, .ref m12, .ref m13, .ref m14, .ref m15, .int mam])), (m9, .inl (cy.1, 12, .inl my)), (m10, .inl (cy.1, 48, .inl fw)), (m6, .inl (cy.1, 12, .inl ab)), (m11, .inl (cy.1, 12, .inl fr))] (fun r u => r = nI (zTot nn ab c0) ∧ ∀ n, n < nn → u.2.2 n = nI (zSV nn ab c0 n)) (fun u => [(M, .inr (5, [.int thr, .ref m1, .ref m2, .ref m3, .ref m4, .ref m5, .int fa, .int qt, .int (nI nn), .ref m6, .ref m7, .ref m8, .ref m9, .ref m10, .ref m11, .ref m12, .ref m13, .ref m14, .ref m15, .int mam])), (m9, .inl (cy.1, 12, .inl u.1)), (m10, .inl (cy.1, 48, .inl u.2.1)), (m6, .inl (cy.1, 12, .inl ab)), (m11, .inl (cy.1, 12, .inl u.2.2))])) (F0 m 28 ls []) := by
          intro fuel
          induction fuel with
          | zero => intro v FD my2 fw2 hfu hv hno hyes hch2 hat; exact absurd hfu (by omega)
          | succ fuel ih_li =>
            intro v FD my2 fw2 hfu hv hno hyes hch2 hat H locs ls hP hD hS hl
            refine lv_iload hx hb dX5_laysPlan_28 (lv_at hl 5 rfl) ?_
            refine lv_iconst (v := nI 4) hx hb dX5_laysPlan_30 (by decide) ?_
            refine lv_icmp_ge (tgt := 83) hx hb dX5_laysPlan_31 (by decide) (fun cb4 => ?_) (fun cb4 => ?_)
            · have cb4 : 4 ≤ v := zn_ge_t (a := v) (b := 4) (by omega) (by omega) cb4
              have hFn : ¬ FD = -1 := fun z => by
                obtain ⟨t, ht, e⟩ := hI.some hT hn h0 (by omega)
                exact hno z t (by omega) ((hI.test hT hn h0 (by omega) ht).mp e)
              have hex : FD = nI (zSV nn ab c0 n) ∧ my2 n = nI ((zSeq nn ab c0 n).1 n &&& 2 ^ zSV nn ab c0 n) := by
                obtain ⟨y1, y2, y3, y4⟩ := hyes hFn
                have e : zSV nn ab c0 n = v - 1 := zPick_eq (by omega) ((hgd (v - 1) (by omega)).mpr y3) (fun t ht hb => y4 t ht ((hgd t (by omega)).mp hb))
                rw [e]
                exact ⟨y2, hat y1⟩
              refine lv_aload_n hx hb dX5_laysPlan_83 rfl (lv_at hl 0 rfl) ?_
              refine va_get (D := D) (ci := 5) (v := .ref m11) (C := RX5) (T := TX5) (N := 20) hx hb hts in_wsX5_laysPlan_X5 hown hK.1 hP 0 rfl rfl 14 (by decide) (hts _ lk311_wsX5_laysPlan) (fun _ h9 => h9) rfl dX5_laysPlan_84 ?_
              refine lv_iload_n hx hb dX5_laysPlan_87 rfl (lv_at hl 2 rfl) ?_
              refine lv_iload hx hb dX5_laysPlan_88 (lv_at hl 4 rfl) ?_
              refine z_iast (g := upd fr1 n FD) hx hb hK.1 hP hD hS 4 0 rfl rfl (k := n) (by omega) (by decide) (fun _ _ => rfl) dX5_laysPlan_90 (fun H locs hP hD hS => ?_)
              have hP : va_P D vwCl [(M, .inr (5, [.int thr, .ref m1, .ref m2, .ref m3, .ref m4, .ref m5, .int fa, .int qt, .int (nI nn), .ref m6, .ref m7, .ref m8, .ref m9, .ref m10, .ref m11, .ref m12, .ref m13, .ref m14, .ref m15, .int mam])), (m9, .inl (cy.1, 12, .inl my2)), (m10, .inl (cy.1, 48, .inl fw2)), (m6, .inl (cy.1, 12, .inl ab)), (m11, .inl (cy.1, 12, .inl (upd fr1 n FD)))] H := hP
              have hD : va_D (zIn [(M, .inr (5, [.int thr, .ref m1, .ref m2, .ref m3, .ref m4, .ref m5, .int fa, .int qt, .int (nI nn), .ref m6, .ref m7, .ref m8, .ref m9, .ref m10, .ref m11, .ref m12, .ref m13, .ref m14, .ref m15, .int mam])), (m9, .inl (cy.1, 12, .inl my)), (m10, .inl (cy.1, 48, .inl fw)), (m6, .inl (cy.1, 12, .inl ab)), (m11, .inl (cy.1, 12, .inl fr))]) [(M, .inr (5, [.int thr, .ref m1, .ref m2, .ref m3, .ref m4, .ref m5, .int fa, .int qt, .int (nI nn), .ref m6, .ref m7, .ref m8, .ref m9, .ref m10, .ref m11, .ref m12, .ref m13, .ref m14, .ref m15, .int mam])), (m9, .inl (cy.1, 12, .inl my2)), (m10, .inl (cy.1, 48, .inl fw2)), (m6, .inl (cy.1, 12, .inl ab)), (m11, .inl (cy.1, 12, .inl (upd fr1 n FD)))] := hD
              refine lv_iinc (v := nI (n + 1)) (lv' := [(2, .int (nI (n + 1))), (0, .ref M), (1, .int (nI (zTot nn ab c0))), (3, .int (nI ((zSeq nn ab c0 n).1 n))), (4, .int FD), (5, .int (nI v))]) hx hb dX5_laysPlan_91 hl (k := 2) rfl (z_inc _) (by decide) rfl (fun ls hl => ?_)
              refine lv_goto (tgt := 7) hx hb dX5_laysPlan_94 (by decide) ?_
              exact ih_lo (n + 1) my2 fw2 (upd fr1 n FD) (by omega) (by omega) (fun k hk => by show my2 k = nI (zTry (zSeq nn ab c0 n).1 n (zSV nn ab c0 n) k); unfold zTry va_up; by_cases e : k = n; (subst e; rw [if_pos rfl]; exact hex.2); (rw [if_neg e]; exact hch2 k hk e)) (lt_s (fun k hk => by unfold upd; rw [if_neg (by omega)]; exact hfr k hk) (by unfold upd; rw [if_pos rfl]; exact hex.1)) _ _ _ hP hD hS (lv_sub hl [1, 2, 0] rfl)
            · have cb4 : ¬ (4 ≤ v) := zn_ge_f (a := v) (b := 4) (by omega) (by omega) cb4
              refine lv_iload hx hb dX5_laysPlan_34 (lv_at hl 4 rfl) ?_
              refine lv_iconst (v := (-1 : Int32)) hx hb dX5_laysPlan_36 (by decide) ?_
              refine lv_icmp_ne (tgt := 83) hx hb dX5_laysPlan_37 (by decide) (fun cb5 => ?_) (fun cb5 => ?_)
              · skip
                have hFn := cb5
                have hex : FD = nI (zSV nn ab c0 n) ∧ my2 n = nI ((zSeq nn ab c0 n).1 n &&& 2 ^ zSV nn ab c0 n) := by
                  obtain ⟨y1, y2, y3, y4⟩ := hyes hFn
                  have e : zSV nn ab c0 n = v - 1 := zPick_eq (by omega) ((hgd (v - 1) (by omega)).mpr y3) (fun t ht hb => y4 t ht ((hgd t (by omega)).mp hb))
                  rw [e]
                  exact ⟨y2, hat y1⟩
                refine lv_aload_n hx hb dX5_laysPlan_83 rfl (lv_at hl 0 rfl) ?_
                refine va_get (D := D) (ci := 5) (v := .ref m11) (C := RX5) (T := TX5) (N := 20) hx hb hts in_wsX5_laysPlan_X5 hown hK.1 hP 0 rfl rfl 14 (by decide) (hts _ lk311_wsX5_laysPlan) (fun _ h9 => h9) rfl dX5_laysPlan_84 ?_
                refine lv_iload_n hx hb dX5_laysPlan_87 rfl (lv_at hl 2 rfl) ?_
                refine lv_iload hx hb dX5_laysPlan_88 (lv_at hl 4 rfl) ?_
                refine z_iast (g := upd fr1 n FD) hx hb hK.1 hP hD hS 4 0 rfl rfl (k := n) (by omega) (by decide) (fun _ _ => rfl) dX5_laysPlan_90 (fun H locs hP hD hS => ?_)
                have hP : va_P D vwCl [(M, .inr (5, [.int thr, .ref m1, .ref m2, .ref m3, .ref m4, .ref m5, .int fa, .int qt, .int (nI nn), .ref m6, .ref m7, .ref m8, .ref m9, .ref m10, .ref m11, .ref m12, .ref m13, .ref m14, .ref m15, .int mam])), (m9, .inl (cy.1, 12, .inl my2)), (m10, .inl (cy.1, 48, .inl fw2)), (m6, .inl (cy.1, 12, .inl ab)), (m11, .inl (cy.1, 12, .inl (upd fr1 n FD)))] H := hP
                have hD : va_D (zIn [(M, .inr (5, [.int thr, .ref m1, .ref m2, .ref m3, .ref m4, .ref m5, .int fa, .int qt, .int (nI nn), .ref m6, .ref m7, .ref m8, .ref m9, .ref m10, .ref m11, .ref m12, .ref m13, .ref m14, .ref m15, .int mam])), (m9, .inl (cy.1, 12, .inl my)), (m10, .inl (cy.1, 48, .inl fw)), (m6, .inl (cy.1, 12, .inl ab)), (m11, .inl (cy.1, 12, .inl fr))]) [(M, .inr (5, [.int thr, .ref m1, .ref m2, .ref m3, .ref m4, .ref m5, .int fa, .int qt, .int (nI nn), .ref m6, .ref m7, .ref m8, .ref m9, .ref m10, .ref m11, .ref m12, .ref m13, .ref m14, .ref m15, .int mam])), (m9, .inl (cy.1, 12, .inl my2)), (m10, .inl (cy.1, 48, .inl fw2)), (m6, .inl (cy.1, 12, .inl ab)), (m11, .inl (cy.1, 12, .inl (upd fr1 n FD)))] := hD
                refine lv_iinc (v := nI (n + 1)) (lv' := [(2, .int (nI (n + 1))), (0, .ref M), (1, .int (nI (zTot nn ab c0))), (3, .int (nI ((zSeq nn ab c0 n).1 n))), (4, .int FD), (5, .int (nI v))]) hx hb dX5_laysPlan_91 hl (k := 2) rfl (z_inc _) (by decide) rfl (fun ls hl => ?_)
                refine lv_goto (tgt := 7) hx hb dX5_laysPlan_94 (by decide) ?_
                exact ih_lo (n + 1) my2 fw2 (upd fr1 n FD) (by omega) (by omega) (fun k hk => by show my2 k = nI (zTry (zSeq nn ab c0 n).1 n (zSV nn ab c0 n) k); unfold zTry va_up; by_cases e : k = n; (subst e; rw [if_pos rfl]; exact hex.2); (rw [if_neg e]; exact hch2 k hk e)) (lt_s (fun k hk => by unfold upd; rw [if_neg (by omega)]; exact hfr k hk) (by unfold upd; rw [if_pos rfl]; exact hex.1)) _ _ _ hP hD hS (lv_sub hl [1, 2, 0] rfl)
              · skip
                have hFD := cb5
                refine lv_aload_n hx hb dX5_laysPlan_40 rfl (lv_at hl 0 rfl) ?_
                refine va_get (D := D) (ci := 5) (v := .ref m9) (C := RX5) (T := TX5) (N := 20) hx hb hts in_wsX5_laysPlan_X5 hown hK.1 hP 0 rfl rfl 12 (by decide) (hts _ lk310_wsX5_laysPlan) (fun _ h9 => h9) rfl dX5_laysPlan_41 ?_
                refine lv_iload_n hx hb dX5_laysPlan_44 rfl (lv_at hl 2 rfl) ?_
                refine lv_iload_n hx hb dX5_laysPlan_45 rfl (lv_at hl 3 rfl) ?_
                refine lv_iconst (v := nI 1) hx hb dX5_laysPlan_46 (by decide) ?_
                refine lv_iload hx hb dX5_laysPlan_47 (lv_at hl 5 rfl) ?_
                refine lv_ishl hx hb dX5_laysPlan_49 ?_
                refine z_top (y := nI (2 ^ v)) (z_shl1 v (by omega)) ?_
                refine lv_iand hx hb dX5_laysPlan_50 ?_
                refine z_top (y := nI ((zSeq nn ab c0 n).1 n &&& 2 ^ v)) (z_and16 _ (hlt16 n (by omega)) _ (z_pow16 v (by omega))) ?_
                refine z_iast (g := upd my2 n (nI ((zSeq nn ab c0 n).1 n &&& 2 ^ v))) hx hb hK.1 hP hD hS 1 0 rfl rfl (k := n) (by omega) (by decide) (fun _ _ => rfl) dX5_laysPlan_51 (fun H locs hP hD hS => ?_)
                have hP : va_P D vwCl [(M, .inr (5, [.int thr, .ref m1, .ref m2, .ref m3, .ref m4, .ref m5, .int fa, .int qt, .int (nI nn), .ref m6, .ref m7, .ref m8, .ref m9, .ref m10, .ref m11, .ref m12, .ref m13, .ref m14, .ref m15, .int mam])), (m9, .inl (cy.1, 12, .inl (upd my2 n (nI ((zSeq nn ab c0 n).1 n &&& 2 ^ v))))), (m10, .inl (cy.1, 48, .inl fw2)), (m6, .inl (cy.1, 12, .inl ab)), (m11, .inl (cy.1, 12, .inl fr1))] H := hP
                have hD : va_D (zIn [(M, .inr (5, [.int thr, .ref m1, .ref m2, .ref m3, .ref m4, .ref m5, .int fa, .int qt, .int (nI nn), .ref m6, .ref m7, .ref m8, .ref m9, .ref m10, .ref m11, .ref m12, .ref m13, .ref m14, .ref m15, .int mam])), (m9, .inl (cy.1, 12, .inl my)), (m10, .inl (cy.1, 48, .inl fw)), (m6, .inl (cy.1, 12, .inl ab)), (m11, .inl (cy.1, 12, .inl fr))]) [(M, .inr (5, [.int thr, .ref m1, .ref m2, .ref m3, .ref m4, .ref m5, .int fa, .int qt, .int (nI nn), .ref m6, .ref m7, .ref m8, .ref m9, .ref m10, .ref m11, .ref m12, .ref m13, .ref m14, .ref m15, .int mam])), (m9, .inl (cy.1, 12, .inl (upd my2 n (nI ((zSeq nn ab c0 n).1 n &&& 2 ^ v))))), (m10, .inl (cy.1, 48, .inl fw2)), (m6, .inl (cy.1, 12, .inl ab)), (m11, .inl (cy.1, 12, .inl fr1))] := hD
                refine lv_aload_n hx hb dX5_laysPlan_52 rfl (lv_at hl 0 rfl) ?_
                refine va_get (D := D) (ci := 5) (v := .ref m9) (C := RX5) (T := TX5) (N := 20) hx hb hts in_wsX5_laysPlan_X5 hown hK.1 hP 0 rfl rfl 12 (by decide) (hts _ lk310_wsX5_laysPlan) (fun _ h9 => h9) rfl dX5_laysPlan_53 ?_
                refine lv_iload_n hx hb dX5_laysPlan_56 rfl (lv_at hl 2 rfl) ?_
                refine z_iald (v := (nI ((zSeq nn ab c0 n).1 n &&& 2 ^ v))) hx hb hK.1 hP 1 0 rfl rfl (k := n) (by omega) (by decide) (by unfold upd; rw [if_pos rfl]) dX5_laysPlan_57 ?_
                refine lv_if_eq (tgt := 74) hx hb dX5_laysPlan_58 (by decide) (fun cb6 => ?_) (fun cb6 => ?_)
                · skip
                  have hg9 : ¬ ((zSeq nn ab c0 n).1 n &&& 2 ^ v ≠ 0 ∧ zTot nn ab (zTry (zSeq nn ab c0 n).1 n v) = zTot nn ab c0) := fun z => z.1 ((z_nI0 (z_andlt _ (hlt16 n (by omega)))).mp cb6)
                  refine lv_iconst (v := (-1 : Int32)) hx hb dX5_laysPlan_74 (by decide) ?_
                  refine lv_istore (lv' := [(4, .int ((-1 : Int32))), (0, .ref M), (1, .int (nI (zTot nn ab c0))), (2, .int (nI n)), (3, .int (nI ((zSeq nn ab c0 n).1 n))), (5, .int (nI v))]) hx hb dX5_laysPlan_75 hl (by decide) rfl (fun ls hl => ?_)
                  refine lv_iinc (v := nI (v + 1)) (lv' := [(5, .int (nI (v + 1))), (4, .int ((-1 : Int32))), (0, .ref M), (1, .int (nI (zTot nn ab c0))), (2, .int (nI n)), (3, .int (nI ((zSeq nn ab c0 n).1 n)))]) hx hb dX5_laysPlan_77 hl (k := 5) rfl (z_inc _) (by decide) rfl (fun ls hl => ?_)
                  refine lv_goto (tgt := 28) hx hb dX5_laysPlan_80 (by decide) ?_
                  exact ih_li (v + 1) ((-1 : Int32)) (upd my2 n (nI ((zSeq nn ab c0 n).1 n &&& 2 ^ v))) fw2 (by omega) (by omega) (fun _ => lt_s (hno hFD) hg9) (fun z => absurd rfl z) (fun k hk hkn => by unfold upd; rw [if_neg hkn]; exact hch2 k hk hkn) (fun _ => by unfold upd; rw [if_pos rfl, Nat.add_sub_cancel]) _ _ _ hP hD hS (lv_sub hl [2, 3, 4, 5, 1, 0] rfl)
                · skip
                  have hchT : ∀ k, k < nn → upd my2 n (nI ((zSeq nn ab c0 n).1 n &&& 2 ^ v)) k = nI (zTry (zSeq nn ab c0 n).1 n v k) ∧ zTry (zSeq nn ab c0 n).1 n v k < 16 := fun k hk => by
                    unfold upd zTry va_up
                    by_cases e : k = n
                    · subst e; rw [if_pos rfl, if_pos rfl]; exact ⟨rfl, z_andlt _ (hlt16 k hk)⟩
                    · rw [if_neg e, if_neg e]; exact ⟨hch2 k hk e, hlt16 k hk⟩
                  refine lv_aload_n hx hb dX5_laysPlan_61 rfl (lv_at hl 0 rfl) ?_
                  refine z_callVW (b := M) (As := []) (rest := []) [(m11, .inl (cy.1, 12, .inl fr1))] ⟨hx, hb, hml, hown, hts⟩ hK hP hD hS (c_X5_tries (ch := (zTry (zSeq nn ab c0 n).1 n v)) hn hT hchT) (cwV 0 hts gX5_laysPlan_X5_tries rfl rfl rfl k_yX5_tries ⟨Nat.le_of_ble_eq_true rfl, Nat.le_of_ble_eq_true rfl⟩) [0, 1, 2, 3] [4] rfl rfl rfl (fun _ => rfl) 0 5 rfl rfl rfl rfl hl.1 rfl rfl dX5_laysPlan_62 ⟨Nat.le_of_ble_eq_true rfl, Nat.le_of_ble_eq_true rfl⟩ (fun rr8 fw3 H locs hp7 hP hD hS => ?_)
                  have hP : va_P D vwCl [(m11, .inl (cy.1, 12, .inl fr1)), (M, .inr (5, [.int thr, .ref m1, .ref m2, .ref m3, .ref m4, .ref m5, .int fa, .int qt, .int (nI nn), .ref m6, .ref m7, .ref m8, .ref m9, .ref m10, .ref m11, .ref m12, .ref m13, .ref m14, .ref m15, .int mam])), (m9, .inl (cy.1, 12, .inl (upd my2 n (nI ((zSeq nn ab c0 n).1 n &&& 2 ^ v))))), (m10, .inl (cy.1, 48, .inl fw3)), (m6, .inl (cy.1, 12, .inl ab))] H := hP
                  have hD : va_D (zIn [(M, .inr (5, [.int thr, .ref m1, .ref m2, .ref m3, .ref m4, .ref m5, .int fa, .int qt, .int (nI nn), .ref m6, .ref m7, .ref m8, .ref m9, .ref m10, .ref m11, .ref m12, .ref m13, .ref m14, .ref m15, .int mam])), (m9, .inl (cy.1, 12, .inl my)), (m10, .inl (cy.1, 48, .inl fw)), (m6, .inl (cy.1, 12, .inl ab)), (m11, .inl (cy.1, 12, .inl fr))]) [(m11, .inl (cy.1, 12, .inl fr1)), (M, .inr (5, [.int thr, .ref m1, .ref m2, .ref m3, .ref m4, .ref m5, .int fa, .int qt, .int (nI nn), .ref m6, .ref m7, .ref m8, .ref m9, .ref m10, .ref m11, .ref m12, .ref m13, .ref m14, .ref m15, .int mam])), (m9, .inl (cy.1, 12, .inl (upd my2 n (nI ((zSeq nn ab c0 n).1 n &&& 2 ^ v))))), (m10, .inl (cy.1, 48, .inl fw3)), (m6, .inl (cy.1, 12, .inl ab))] := hD
                  refine z_top (y := nI (zTot nn ab (zTry (zSeq nn ab c0 n).1 n v))) hp7 ?_
                  have hca : zTot nn ab (zTry (zSeq nn ab c0 n).1 n v) ≤ 1000 := zA_cap
                  have hcb : zTot nn ab c0 ≤ 1000 := zA_cap
                  refine lv_iload_n hx hb dX5_laysPlan_65 rfl (lv_at hl 1 rfl) ?_
                  refine lv_icmp_ne (tgt := 74) hx hb dX5_laysPlan_66 (by decide) (fun cb9 => ?_) (fun cb9 => ?_)
                  · have cb9 : ¬ ((zTot nn ab (zTry (zSeq nn ab c0 n).1 n v)) = (zTot nn ab c0)) := zn_ne_f (a := (zTot nn ab (zTry (zSeq nn ab c0 n).1 n v))) (b := (zTot nn ab c0)) (by omega) (by omega) cb9
                    have hg9 : ¬ ((zSeq nn ab c0 n).1 n &&& 2 ^ v ≠ 0 ∧ zTot nn ab (zTry (zSeq nn ab c0 n).1 n v) = zTot nn ab c0) := fun z => cb9 z.2
                    refine lv_iconst (v := (-1 : Int32)) hx hb dX5_laysPlan_74 (by decide) ?_
                    refine lv_istore (lv' := [(4, .int ((-1 : Int32))), (0, .ref M), (1, .int (nI (zTot nn ab c0))), (2, .int (nI n)), (3, .int (nI ((zSeq nn ab c0 n).1 n))), (5, .int (nI v))]) hx hb dX5_laysPlan_75 hl (by decide) rfl (fun ls hl => ?_)
                    have hP := hP.sub (ws' := [(M, .inr (5, [.int thr, .ref m1, .ref m2, .ref m3, .ref m4, .ref m5, .int fa, .int qt, .int (nI nn), .ref m6, .ref m7, .ref m8, .ref m9, .ref m10, .ref m11, .ref m12, .ref m13, .ref m14, .ref m15, .int mam])), (m9, .inl (cy.1, 12, .inl (upd my2 n (nI ((zSeq nn ab c0 n).1 n &&& 2 ^ v))))), (m10, .inl (cy.1, 48, .inl fw3)), (m6, .inl (cy.1, 12, .inl ab)), (m11, .inl (cy.1, 12, .inl fr1))]) [1, 2, 3, 4, 0] rfl
                    have hD := hD.sub (ws' := [(M, .inr (5, [.int thr, .ref m1, .ref m2, .ref m3, .ref m4, .ref m5, .int fa, .int qt, .int (nI nn), .ref m6, .ref m7, .ref m8, .ref m9, .ref m10, .ref m11, .ref m12, .ref m13, .ref m14, .ref m15, .int mam])), (m9, .inl (cy.1, 12, .inl (upd my2 n (nI ((zSeq nn ab c0 n).1 n &&& 2 ^ v))))), (m10, .inl (cy.1, 48, .inl fw3)), (m6, .inl (cy.1, 12, .inl ab)), (m11, .inl (cy.1, 12, .inl fr1))]) [1, 2, 3, 4, 0] (by decide) rfl
                    refine lv_iinc (v := nI (v + 1)) (lv' := [(5, .int (nI (v + 1))), (4, .int ((-1 : Int32))), (0, .ref M), (1, .int (nI (zTot nn ab c0))), (2, .int (nI n)), (3, .int (nI ((zSeq nn ab c0 n).1 n)))]) hx hb dX5_laysPlan_77 hl (k := 5) rfl (z_inc _) (by decide) rfl (fun ls hl => ?_)
                    refine lv_goto (tgt := 28) hx hb dX5_laysPlan_80 (by decide) ?_
                    exact ih_li (v + 1) ((-1 : Int32)) (upd my2 n (nI ((zSeq nn ab c0 n).1 n &&& 2 ^ v))) fw3 (by omega) (by omega) (fun _ => lt_s (hno hFD) hg9) (fun z => absurd rfl z) (fun k hk hkn => by unfold upd; rw [if_neg hkn]; exact hch2 k hk hkn) (fun _ => by unfold upd; rw [if_pos rfl, Nat.add_sub_cancel]) _ _ _ hP hD hS (lv_sub hl [2, 3, 4, 5, 1, 0] rfl)
                  · have cb9 : (zTot nn ab (zTry (zSeq nn ab c0 n).1 n v)) = (zTot nn ab c0) := zn_ne_t (a := (zTot nn ab (zTry (zSeq nn ab c0 n).1 n v))) (b := (zTot nn ab c0)) (by omega) (by omega) cb9
                    have hg9 : ((zSeq nn ab c0 n).1 n &&& 2 ^ v ≠ 0 ∧ zTot nn ab (zTry (zSeq nn ab c0 n).1 n v) = zTot nn ab c0) := ⟨fun z => cb6 ((z_nI0 (z_andlt _ (hlt16 n (by omega)))).mpr z), cb9⟩
                    refine lv_iload hx hb dX5_laysPlan_69 (lv_at hl 5 rfl) ?_
                    refine lv_goto (tgt := 75) hx hb dX5_laysPlan_71 (by decide) ?_
                    refine lv_istore (lv' := [(4, .int (nI v)), (0, .ref M), (1, .int (nI (zTot nn ab c0))), (2, .int (nI n)), (3, .int (nI ((zSeq nn ab c0 n).1 n))), (5, .int (nI v))]) hx hb dX5_laysPlan_75 hl (by decide) rfl (fun ls hl => ?_)
                    have hP := hP.sub (ws' := [(M, .inr (5, [.int thr, .ref m1, .ref m2, .ref m3, .ref m4, .ref m5, .int fa, .int qt, .int (nI nn), .ref m6, .ref m7, .ref m8, .ref m9, .ref m10, .ref m11, .ref m12, .ref m13, .ref m14, .ref m15, .int mam])), (m9, .inl (cy.1, 12, .inl (upd my2 n (nI ((zSeq nn ab c0 n).1 n &&& 2 ^ v))))), (m10, .inl (cy.1, 48, .inl fw3)), (m6, .inl (cy.1, 12, .inl ab)), (m11, .inl (cy.1, 12, .inl fr1))]) [1, 2, 3, 4, 0] rfl
                    have hD := hD.sub (ws' := [(M, .inr (5, [.int thr, .ref m1, .ref m2, .ref m3, .ref m4, .ref m5, .int fa, .int qt, .int (nI nn), .ref m6, .ref m7, .ref m8, .ref m9, .ref m10, .ref m11, .ref m12, .ref m13, .ref m14, .ref m15, .int mam])), (m9, .inl (cy.1, 12, .inl (upd my2 n (nI ((zSeq nn ab c0 n).1 n &&& 2 ^ v))))), (m10, .inl (cy.1, 48, .inl fw3)), (m6, .inl (cy.1, 12, .inl ab)), (m11, .inl (cy.1, 12, .inl fr1))]) [1, 2, 3, 4, 0] (by decide) rfl
                    refine lv_iinc (v := nI (v + 1)) (lv' := [(5, .int (nI (v + 1))), (4, .int (nI v)), (0, .ref M), (1, .int (nI (zTot nn ab c0))), (2, .int (nI n)), (3, .int (nI ((zSeq nn ab c0 n).1 n)))]) hx hb dX5_laysPlan_77 hl (k := 5) rfl (z_inc _) (by decide) rfl (fun ls hl => ?_)
                    refine lv_goto (tgt := 28) hx hb dX5_laysPlan_80 (by decide) ?_
                    exact ih_li (v + 1) (nI v) (upd my2 n (nI ((zSeq nn ab c0 n).1 n &&& 2 ^ v))) fw3 (by omega) (by omega) (fun z => absurd z (nI_m1 (by omega))) (fun _ => ⟨by omega, by rw [Nat.add_sub_cancel], by rw [Nat.add_sub_cancel]; exact hg9, fun t ht => hno hFD t (by omega)⟩) (fun k hk hkn => by unfold upd; rw [if_neg hkn]; exact hch2 k hk hkn) (fun _ => by unfold upd; rw [if_pos rfl, Nat.add_sub_cancel]) _ _ _ hP hD hS (lv_sub hl [2, 3, 4, 5, 1, 0] rfl)
        exact li (5) 0 (-1) my1 fw1 (by omega) (by omega) (fun _ t ht => absurd ht (by omega)) (fun z => absurd rfl z) (fun k hk _ => hch1 k hk) (fun z => absurd z (by omega)) _ _ _ hP hD hS (lv_sub hl [3, 4, 5, 2, 1, 0] rfl)
  exact lo (nn + 1) 0 my hb0 fr (by omega) (by omega) (fun k hk => (hch k hk).1) (fun k hk => absurd hk (by omega)) _ _ _ hP hD hS (lv_sub hl [2, 1, 0] rfl)
