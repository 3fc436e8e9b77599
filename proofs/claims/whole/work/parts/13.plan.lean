theorem z_min {a b : Nat} (ha : a < 2 ^ 31) (hb : b < 2 ^ 31) : (if nI b < nI a then nI b else nI a) = nI (min a b) := by
  by_cases h : b < a
  · rw [if_pos ((nI_ltI hb ha).mpr h), Nat.min_eq_right (by omega)]
  · rw [if_neg (fun z => h ((nI_ltI hb ha).mp z)), Nat.min_eq_left (by omega)]
theorem z_and16 : ∀ a, a < 16 → ∀ b, b < 16 → nI a &&& nI b = nI (a &&& b) := by decide +kernel
theorem z_andlt {a : Nat} (b : Nat) (h : a < 16) : a &&& b < 16 := Nat.lt_of_le_of_lt Nat.and_le_left h
theorem z_pow16 : ∀ s, s < 4 → 2 ^ s < 16 := by decide
theorem z_keep : ∀ S, S < 16 → nI S &&& (nI 0 ^^^ (-1 : Int32)) = nI S := by decide +kernel
theorem zrem_lt {hm S : Nat} (hS : S < 16) : zrem hm S < 16 := by
  unfold zrem
  split
  · rename_i h; exact zset_lt _ _ hS _ h
  · exact hS
theorem zHU_le {pl : Nat → Int32} {c : Nat → Nat} {h : Nat → Nat → Nat} {x : Int32} {S : Nat} : ∀ n, zHU pl c h x S n ≤ 1000 * n
  | 0 => Nat.le_refl _
  | n + 1 => by
    have ih := zHU_le (pl := pl) (c := c) (h := h) (x := x) (S := S) n
    have := zF4_cap (c n) (h n) S 4
    unfold zHU
    split <;> omega
theorem z_bc : ∀ k, k < 16 → ((((((((nI k - (((nI k).toUInt32 >>> ((nI 1).toUInt32 &&& Int32.toUInt32 31)).toInt32 &&& 1431655765)) &&& 858993459) + ((((nI k - (((nI k).toUInt32 >>> ((nI 1).toUInt32 &&& Int32.toUInt32 31)).toInt32 &&& 1431655765))).toUInt32 >>> ((nI 2).toUInt32 &&& Int32.toUInt32 31)).toInt32 &&& 858993459)) + (((((nI k - (((nI k).toUInt32 >>> ((nI 1).toUInt32 &&& Int32.toUInt32 31)).toInt32 &&& 1431655765)) &&& 858993459) + ((((nI k - (((nI k).toUInt32 >>> ((nI 1).toUInt32 &&& Int32.toUInt32 31)).toInt32 &&& 1431655765))).toUInt32 >>> ((nI 2).toUInt32 &&& Int32.toUInt32 31)).toInt32 &&& 858993459))).toUInt32 >>> ((nI 4).toUInt32 &&& Int32.toUInt32 31)).toInt32) &&& 252645135) + (((((((nI k - (((nI k).toUInt32 >>> ((nI 1).toUInt32 &&& Int32.toUInt32 31)).toInt32 &&& 1431655765)) &&& 858993459) + ((((nI k - (((nI k).toUInt32 >>> ((nI 1).toUInt32 &&& Int32.toUInt32 31)).toInt32 &&& 1431655765))).toUInt32 >>> ((nI 2).toUInt32 &&& Int32.toUInt32 31)).toInt32 &&& 858993459)) + (((((nI k - (((nI k).toUInt32 >>> ((nI 1).toUInt32 &&& Int32.toUInt32 31)).toInt32 &&& 1431655765)) &&& 858993459) + ((((nI k - (((nI k).toUInt32 >>> ((nI 1).toUInt32 &&& Int32.toUInt32 31)).toInt32 &&& 1431655765))).toUInt32 >>> ((nI 2).toUInt32 &&& Int32.toUInt32 31)).toInt32 &&& 858993459))).toUInt32 >>> ((nI 4).toUInt32 &&& Int32.toUInt32 31)).toInt32) &&& 252645135)).toUInt32 >>> ((nI 8).toUInt32 &&& Int32.toUInt32 31)).toInt32) + ((((((((nI k - (((nI k).toUInt32 >>> ((nI 1).toUInt32 &&& Int32.toUInt32 31)).toInt32 &&& 1431655765)) &&& 858993459) + ((((nI k - (((nI k).toUInt32 >>> ((nI 1).toUInt32 &&& Int32.toUInt32 31)).toInt32 &&& 1431655765))).toUInt32 >>> ((nI 2).toUInt32 &&& Int32.toUInt32 31)).toInt32 &&& 858993459)) + (((((nI k - (((nI k).toUInt32 >>> ((nI 1).toUInt32 &&& Int32.toUInt32 31)).toInt32 &&& 1431655765)) &&& 858993459) + ((((nI k - (((nI k).toUInt32 >>> ((nI 1).toUInt32 &&& Int32.toUInt32 31)).toInt32 &&& 1431655765))).toUInt32 >>> ((nI 2).toUInt32 &&& Int32.toUInt32 31)).toInt32 &&& 858993459))).toUInt32 >>> ((nI 4).toUInt32 &&& Int32.toUInt32 31)).toInt32) &&& 252645135) + (((((((nI k - (((nI k).toUInt32 >>> ((nI 1).toUInt32 &&& Int32.toUInt32 31)).toInt32 &&& 1431655765)) &&& 858993459) + ((((nI k - (((nI k).toUInt32 >>> ((nI 1).toUInt32 &&& Int32.toUInt32 31)).toInt32 &&& 1431655765))).toUInt32 >>> ((nI 2).toUInt32 &&& Int32.toUInt32 31)).toInt32 &&& 858993459)) + (((((nI k - (((nI k).toUInt32 >>> ((nI 1).toUInt32 &&& Int32.toUInt32 31)).toInt32 &&& 1431655765)) &&& 858993459) + ((((nI k - (((nI k).toUInt32 >>> ((nI 1).toUInt32 &&& Int32.toUInt32 31)).toInt32 &&& 1431655765))).toUInt32 >>> ((nI 2).toUInt32 &&& Int32.toUInt32 31)).toInt32 &&& 858993459))).toUInt32 >>> ((nI 4).toUInt32 &&& Int32.toUInt32 31)).toInt32) &&& 252645135)).toUInt32 >>> ((nI 8).toUInt32 &&& Int32.toUInt32 31)).toInt32)).toUInt32 >>> ((nI 16).toUInt32 &&& Int32.toUInt32 31)).toInt32) &&& nI 63) = nI (zpop k) := by decide +kernel
set_option maxRecDepth 20000 in
theorem lk75_wsJ6_bitCount_0f7a4 : Cond.constant RJ6 265 (1431655765) ∈ wsJ6_bitCount_0f7a4 := by decide +kernel
set_option maxRecDepth 20000 in
theorem lk76_wsJ6_bitCount_0f7a4 : Cond.constant RJ6 266 (858993459) ∈ wsJ6_bitCount_0f7a4 := by decide +kernel
set_option maxRecDepth 20000 in
theorem lk77_wsJ6_bitCount_0f7a4 : Cond.constant RJ6 267 (252645135) ∈ wsJ6_bitCount_0f7a4 := by decide +kernel
abbrev rmJ6_bitCount_0f7a4 : Room := { frames := 0, cells := 0, slots := 0, locals := 0 }
set_option maxHeartbeats 4000000 in
set_option maxRecDepth 100000 in
theorem c_J6_bitCount {l : Launch} {D : va_G} {cy : zCy} {w : va_W} {k : Nat} (hk : k < 16) : zR l yJ6_bitCount_0f7a4 wsJ6_bitCount_0f7a4 rmJ6_bitCount_0f7a4 D cy w [.int (nI k)] (nI (zpop k)) := by
  refine zR.of (cc := cJ6_bitCount_0f7a4) (maxL := 1) (ret := (some .int)) (by decide) rfl rfl ?_
  intro p e s m below meth c ls C hP hK hl
  obtain ⟨hx, hb, hr, hml, hts, hown, hlocks⟩ := C
  have hS : va_S zF s.heap s.heap [] := va_S.rf
  have hl : lv_has ls 1 [(0, .int (nI k))] := hl
  refine lv_iload_n hx hb dJ6_bitCount_0f7a4_0 rfl (lv_at hl 0 rfl) ?_
  refine lv_iload_n hx hb dJ6_bitCount_0f7a4_1 rfl (lv_at hl 0 rfl) ?_
  refine lv_iconst (v := nI 1) hx hb dJ6_bitCount_0f7a4_2 (by decide) ?_
  refine lv_iushr (v := ((nI k).toUInt32 >>> ((nI 1).toUInt32 &&& Int32.toUInt32 31)).toInt32) hx hb dJ6_bitCount_0f7a4_3 rfl ?_
  refine lv_topi (fun vx1 evx1 => ?_)
  refine lv_ldcw (v := 1431655765) hx hb hown (hts _ lk75_wsJ6_bitCount_0f7a4) dJ6_bitCount_0f7a4_4 ?_
  refine lv_iand hx hb dJ6_bitCount_0f7a4_7 ?_
  refine lv_topi (fun vx2 evx2 => ?_)
  refine lv_isub hx hb dJ6_bitCount_0f7a4_8 ?_
  refine lv_topi (fun vx3 evx3 => ?_)
  refine lv_istore_n (lv' := [(0, .int vx3)]) hx hb dJ6_bitCount_0f7a4_9 rfl hl (by decide) rfl (fun ls hl => ?_)
  refine lv_iload_n hx hb dJ6_bitCount_0f7a4_10 rfl (lv_at hl 0 rfl) ?_
  refine lv_ldcw (v := 858993459) hx hb hown (hts _ lk76_wsJ6_bitCount_0f7a4) dJ6_bitCount_0f7a4_11 ?_
  refine lv_iand hx hb dJ6_bitCount_0f7a4_14 ?_
  refine lv_topi (fun vx4 evx4 => ?_)
  refine lv_iload_n hx hb dJ6_bitCount_0f7a4_15 rfl (lv_at hl 0 rfl) ?_
  refine lv_iconst (v := nI 2) hx hb dJ6_bitCount_0f7a4_16 (by decide) ?_
  refine lv_iushr (v := ((vx3).toUInt32 >>> ((nI 2).toUInt32 &&& Int32.toUInt32 31)).toInt32) hx hb dJ6_bitCount_0f7a4_17 rfl ?_
  refine lv_topi (fun vx5 evx5 => ?_)
  refine lv_ldcw (v := 858993459) hx hb hown (hts _ lk76_wsJ6_bitCount_0f7a4) dJ6_bitCount_0f7a4_18 ?_
  refine lv_iand hx hb dJ6_bitCount_0f7a4_21 ?_
  refine lv_topi (fun vx6 evx6 => ?_)
  refine lv_iadd hx hb dJ6_bitCount_0f7a4_22 ?_
  refine lv_topi (fun vx7 evx7 => ?_)
  refine lv_istore_n (lv' := [(0, .int vx7)]) hx hb dJ6_bitCount_0f7a4_23 rfl hl (by decide) rfl (fun ls hl => ?_)
  refine lv_iload_n hx hb dJ6_bitCount_0f7a4_24 rfl (lv_at hl 0 rfl) ?_
  refine lv_iload_n hx hb dJ6_bitCount_0f7a4_25 rfl (lv_at hl 0 rfl) ?_
  refine lv_iconst (v := nI 4) hx hb dJ6_bitCount_0f7a4_26 (by decide) ?_
  refine lv_iushr (v := ((vx7).toUInt32 >>> ((nI 4).toUInt32 &&& Int32.toUInt32 31)).toInt32) hx hb dJ6_bitCount_0f7a4_27 rfl ?_
  refine lv_topi (fun vx8 evx8 => ?_)
  refine lv_iadd hx hb dJ6_bitCount_0f7a4_28 ?_
  refine lv_topi (fun vx9 evx9 => ?_)
  refine lv_ldcw (v := 252645135) hx hb hown (hts _ lk77_wsJ6_bitCount_0f7a4) dJ6_bitCount_0f7a4_29 ?_
  refine lv_iand hx hb dJ6_bitCount_0f7a4_32 ?_
  refine lv_topi (fun vx10 evx10 => ?_)
  refine lv_istore_n (lv' := [(0, .int vx10)]) hx hb dJ6_bitCount_0f7a4_33 rfl hl (by decide) rfl (fun ls hl => ?_)
  refine lv_iload_n hx hb dJ6_bitCount_0f7a4_34 rfl (lv_at hl 0 rfl) ?_
  refine lv_iload_n hx hb dJ6_bitCount_0f7a4_35 rfl (lv_at hl 0 rfl) ?_
  refine lv_bipush (v := nI 8) hx hb dJ6_bitCount_0f7a4_36 (by decide) ?_
  refine lv_iushr (v := ((vx10).toUInt32 >>> ((nI 8).toUInt32 &&& Int32.toUInt32 31)).toInt32) hx hb dJ6_bitCount_0f7a4_38 rfl ?_
  refine lv_topi (fun vx11 evx11 => ?_)
  refine lv_iadd hx hb dJ6_bitCount_0f7a4_39 ?_
  refine lv_topi (fun vx12 evx12 => ?_)
  refine lv_istore_n (lv' := [(0, .int vx12)]) hx hb dJ6_bitCount_0f7a4_40 rfl hl (by decide) rfl (fun ls hl => ?_)
  refine lv_iload_n hx hb dJ6_bitCount_0f7a4_41 rfl (lv_at hl 0 rfl) ?_
  refine lv_iload_n hx hb dJ6_bitCount_0f7a4_42 rfl (lv_at hl 0 rfl) ?_
  refine lv_bipush (v := nI 16) hx hb dJ6_bitCount_0f7a4_43 (by decide) ?_
  refine lv_iushr (v := ((vx12).toUInt32 >>> ((nI 16).toUInt32 &&& Int32.toUInt32 31)).toInt32) hx hb dJ6_bitCount_0f7a4_45 rfl ?_
  refine lv_topi (fun vx13 evx13 => ?_)
  refine lv_iadd hx hb dJ6_bitCount_0f7a4_46 ?_
  refine lv_topi (fun vx14 evx14 => ?_)
  refine lv_istore_n (lv' := [(0, .int vx14)]) hx hb dJ6_bitCount_0f7a4_47 rfl hl (by decide) rfl (fun ls hl => ?_)
  refine lv_iload_n hx hb dJ6_bitCount_0f7a4_48 rfl (lv_at hl 0 rfl) ?_
  refine lv_bipush (v := nI 63) hx hb dJ6_bitCount_0f7a4_49 (by decide) ?_
  refine lv_iand hx hb dJ6_bitCount_0f7a4_51 ?_
  refine lv_topi (fun vx15 evx15 => ?_)
  exact z_iret hx hb hr hlocks hS dJ6_bitCount_0f7a4_52 (by subst_vars; exact z_bc k hk)
set_option maxRecDepth 20000 in
theorem lk78_wsX2_hopsUnder : Cond.fieldLink RX2 72 "QueryGateway$Plan" "count" "I" ∈ wsX2_hopsUnder := by decide +kernel
set_option maxRecDepth 20000 in
theorem in_wsX2_hopsUnder_X2 : ∀ w ∈ wsX20, w ∈ wsX2_hopsUnder := by decide +kernel
set_option maxRecDepth 20000 in
theorem lk80_wsX2_hopsUnder : Cond.fieldLink RX2 19 "QueryGateway$Plan" "places" "[I" ∈ wsX2_hopsUnder := by decide +kernel
set_option maxRecDepth 20000 in
theorem lk81_wsX2_hopsUnder : Cond.fieldLink RX2 23 "QueryGateway$Plan" "choices" "[I" ∈ wsX2_hopsUnder := by decide +kernel
set_option maxRecDepth 20000 in
theorem lk82_wsX2_hopsUnder : Cond.initialized RX4 ∈ wsX2_hopsUnder := by decide +kernel
set_option maxRecDepth 20000 in
theorem lk83_wsX2_hopsUnder : Cond.static yX4_bit ∈ wsX2_hopsUnder := by decide +kernel
set_option maxRecDepth 20000 in
theorem lk84_wsX2_hopsUnder : Cond.fieldLink RX2 26 "QueryGateway$Plan" "hopsBelow" "[I" ∈ wsX2_hopsUnder := by decide +kernel
set_option maxRecDepth 20000 in
theorem lk85_wsX2_hopsUnder : Cond.methodLink RX2 67 Lib.Math.min.name ∈ wsX2_hopsUnder := by decide +kernel
set_option maxRecDepth 20000 in
theorem lk86_wsX2_hopsUnder : Cond.static Lib.Math.min.name ∈ wsX2_hopsUnder := by decide +kernel
set_option maxRecDepth 20000 in
theorem lk87_wsX2_hopsUnder : Cond.initialized "java/lang/Math" ∈ wsX2_hopsUnder := by decide +kernel
set_option maxRecDepth 20000 in
theorem lk88_wsX2_hopsUnder : Cond.code Lib.Math.min.name Lib.Math.min.code 2 (some .int) ∈ wsX2_hopsUnder := by decide +kernel
abbrev rmX2_hopsUnder : Room := { frames := 1, cells := 0, slots := 0, locals := 20 }
set_option maxHeartbeats 4000000 in
set_option maxRecDepth 100000 in
theorem c_X2_hopsUnder {l : Launch} {D : va_G} {cy : zCy} {w : va_W} {i P g q p1 p2 p3 p4 cn : Nat} {ln kn th : Int32} (hp : w[i]? = some (P, .inr (2, [.ref g, .ref q, .ref p1, .ref p2, .ref p3, .ref p4, .int (nI cn), .int ln, .int kn, .int th]))) {i1 i2 i3 : Nat} {pl chA hbA : Nat → Int32} (h1 : w[i1]? = some (p1, .inl (cy.1, 12, .inl pl))) (h2 : w[i2]? = some (p2, .inl (cy.1, 12, .inl chA))) (h3 : w[i3]? = some (p3, .inl (cy.1, 48, .inl hbA))) {ch : Nat → Nat} {h : Nat → Nat → Nat} {x : Int32} (hcn : cn ≤ 12) (hch : ∀ n, n < cn → chA n = nI (ch n) ∧ ch n < 16) (hhb : ∀ n, n < cn → pl n = x → ∀ s, s < 4 → hbA (n * 4 + s) = nI (h n s) ∧ h n s ≤ 1000) {S : Nat} (hS16 : S < 16) : zR l yX2_hopsUnder wsX2_hopsUnder rmX2_hopsUnder D cy w [.ref P, .int x, .int (nI S)] (nI (zHU pl ch h x S cn)) := by
  refine zR.of (cc := cX2_hopsUnder) (maxL := 7) (ret := (some .int)) (by decide) rfl rfl ?_
  intro p e s m below meth c ls C hP hK hl
  obtain ⟨hx, hb, hr, hml, hts, hown, hlocks⟩ := C
  have hS : va_S zF s.heap s.heap [] := va_S.rf
  have hl : lv_has ls 7 [(0, .ref P), (1, .int x), (2, .int (nI S))] := hl
  refine lv_iconst (v := nI 0) hx hb dX2_hopsUnder_0 (by decide) ?_
  refine lv_istore_n (lv' := [(3, .int (nI 0)), (0, .ref P), (1, .int x), (2, .int (nI S))]) hx hb dX2_hopsUnder_1 rfl hl (by decide) rfl (fun ls hl => ?_)
  refine lv_iconst (v := nI 0) hx hb dX2_hopsUnder_2 (by decide) ?_
  refine lv_istore (lv' := [(4, .int (nI 0)), (3, .int (nI 0)), (0, .ref P), (1, .int x), (2, .int (nI S))]) hx hb dX2_hopsUnder_3 hl (by decide) rfl (fun ls hl => ?_)
  have lo : ∀ (fuel : Nat) (n t : Nat), cn + 1 ≤ n + fuel → n ≤ cn → t = zHU pl ch h x S n → ∀ (H : Heap) (locs : List Loc) (ls : Array Slot), va_P D vwCl w H → va_S zF s.heap H locs → lv_has ls 7 [(0, .ref P), (1, .int x), (2, .int (nI S)), (3, .int (nI t)), (4, .int (nI n))] → W p l e rmX2_hopsUnder s m [.ref P, .int x, .int (nI S)].toArray below meth c H locs 0 0 (zRQ below [.ref P, .int x, .int (nI S)].toArray s (nI (zHU pl ch h x S cn))) (F0 m 5 ls []) := by
    intro fuel
    induction fuel with
    | zero => intro n t hfu hi ht; exact absurd hfu (by omega)
    | succ fuel ih_lo =>
      intro n t hfu hi ht H locs ls hP hS hl
      refine lv_iload hx hb dX2_hopsUnder_5 (lv_at hl 4 rfl) ?_
      refine lv_aload_n hx hb dX2_hopsUnder_7 rfl (lv_at hl 0 rfl) ?_
      refine va_get (D := D) (ci := 2) (v := .int (nI cn)) (C := RX2) (T := TX2) (N := 10) hx hb hts in_wsX2_hopsUnder_X2 hown hK.1 hP i hp rfl 6 (by decide) (hts _ lk78_wsX2_hopsUnder) (fun _ h9 => h9) rfl dX2_hopsUnder_8 ?_
      refine lv_icmp_ge (tgt := 93) hx hb dX2_hopsUnder_11 (by decide) (fun cb1 => ?_) (fun cb1 => ?_)
      · have cb1 : cn ≤ n := zn_ge_t (a := n) (b := cn) (by omega) (by omega) cb1
        refine lv_iload_n hx hb dX2_hopsUnder_93 rfl (lv_at hl 3 rfl) ?_
        exact z_iret hx hb hr hlocks hS dX2_hopsUnder_94 (by obtain rfl : n = cn := (by omega); rw [ht])
      · have cb1 : ¬ (cn ≤ n) := zn_ge_f (a := n) (b := cn) (by omega) (by omega) cb1
        refine lv_aload_n hx hb dX2_hopsUnder_14 rfl (lv_at hl 0 rfl) ?_
        refine va_get (D := D) (ci := 2) (v := .ref p1) (C := RX2) (T := TX2) (N := 10) hx hb hts in_wsX2_hopsUnder_X2 hown hK.1 hP i hp rfl 2 (by decide) (hts _ lk80_wsX2_hopsUnder) (fun _ h9 => h9) rfl dX2_hopsUnder_15 ?_
        refine lv_iload hx hb dX2_hopsUnder_18 (lv_at hl 4 rfl) ?_
        refine z_iald (v := pl n) hx hb hK.1 hP i1 0 h1 rfl (k := n) (by omega) (by decide) rfl dX2_hopsUnder_20 ?_
        refine lv_iload_n hx hb dX2_hopsUnder_21 rfl (lv_at hl 1 rfl) ?_
        refine lv_icmp_ne (tgt := 87) hx hb dX2_hopsUnder_22 (by decide) (fun cb2 => ?_) (fun cb2 => ?_)
        · skip
          refine lv_iinc (v := nI (n + 1)) (lv' := [(4, .int (nI (n + 1))), (0, .ref P), (1, .int x), (2, .int (nI S)), (3, .int (nI t))]) hx hb dX2_hopsUnder_87 hl (k := 4) rfl (z_inc _) (by decide) rfl (fun ls hl => ?_)
          refine lv_goto (tgt := 5) hx hb dX2_hopsUnder_90 (by decide) ?_
          exact ih_lo (n + 1) (t) (by omega) (by omega) (by unfold zHU; rw [if_neg cb2, ← ht]; rfl) _ _ _ hP hS (lv_sub hl [1, 2, 3, 4, 0] rfl)
        · skip
          refine lv_sipush (v := nI 1000) hx hb dX2_hopsUnder_25 (by decide) ?_
          refine lv_istore (lv' := [(5, .int (nI 1000)), (0, .ref P), (1, .int x), (2, .int (nI S)), (3, .int (nI t)), (4, .int (nI n))]) hx hb dX2_hopsUnder_28 hl (by decide) rfl (fun ls hl => ?_)
          refine lv_iconst (v := nI 0) hx hb dX2_hopsUnder_30 (by decide) ?_
          refine lv_istore (lv' := [(6, .int (nI 0)), (5, .int (nI 1000)), (0, .ref P), (1, .int x), (2, .int (nI S)), (3, .int (nI t)), (4, .int (nI n))]) hx hb dX2_hopsUnder_31 hl (by decide) rfl (fun ls hl => ?_)
          have li : ∀ (fuel : Nat) (v f : Nat), 5 ≤ v + fuel → v ≤ 4 → f = zF4 (ch n) (h n) S v → ∀ (H : Heap) (locs : List Loc) (ls : Array Slot), va_P D vwCl w H → va_S zF s.heap H locs → lv_has ls 7 [(0, .ref P), (1, .int x), (2, .int (nI S)), (3, .int (nI t)), (4, .int (nI n)), (5, .int (nI f)), (6, .int (nI v))] → W p l e rmX2_hopsUnder s m [.ref P, .int x, .int (nI S)].toArray below meth c H locs 0 0 (zRQ below [.ref P, .int x, .int (nI S)].toArray s (nI (zHU pl ch h x S cn))) (F0 m 33 ls []) := by
            intro fuel
            induction fuel with
            | zero => intro v f hfu hs hf; exact absurd hfu (by omega)
            | succ fuel ih_li =>
              intro v f hfu hs hf H locs ls hP hS hl
              have hfl : f ≤ 1000 := by rw [hf]; exact zF4_cap _ _ _ _
              refine lv_iload hx hb dX2_hopsUnder_33 (lv_at hl 6 rfl) ?_
              refine lv_iconst (v := nI 4) hx hb dX2_hopsUnder_35 (by decide) ?_
              refine lv_icmp_ge (tgt := 82) hx hb dX2_hopsUnder_36 (by decide) (fun cb3 => ?_) (fun cb3 => ?_)
              · have cb3 : 4 ≤ v := zn_ge_t (a := v) (b := 4) (by omega) (by omega) cb3
                refine lv_iload_n hx hb dX2_hopsUnder_82 rfl (lv_at hl 3 rfl) ?_
                refine lv_iload hx hb dX2_hopsUnder_83 (lv_at hl 5 rfl) ?_
                refine lv_iadd hx hb dX2_hopsUnder_85 ?_
                refine z_top (y := nI (t + f)) (nI_add _ _) ?_
                refine lv_istore_n (lv' := [(3, .int (nI (t + f))), (0, .ref P), (1, .int x), (2, .int (nI S)), (4, .int (nI n)), (5, .int (nI f)), (6, .int (nI v))]) hx hb dX2_hopsUnder_86 rfl hl (by decide) rfl (fun ls hl => ?_)
                refine lv_iinc (v := nI (n + 1)) (lv' := [(4, .int (nI (n + 1))), (3, .int (nI (t + f))), (0, .ref P), (1, .int x), (2, .int (nI S)), (5, .int (nI f)), (6, .int (nI v))]) hx hb dX2_hopsUnder_87 hl (k := 4) rfl (z_inc _) (by decide) rfl (fun ls hl => ?_)
                refine lv_goto (tgt := 5) hx hb dX2_hopsUnder_90 (by decide) ?_
                exact ih_lo (n + 1) (t + f) (by omega) (by omega) (by unfold zHU; rw [if_pos cb2, ← ht]; obtain rfl : v = 4 := (by omega); rw [hf]) _ _ _ hP hS (lv_sub hl [2, 3, 4, 1, 0] rfl)
              · have cb3 : ¬ (4 ≤ v) := zn_ge_f (a := v) (b := 4) (by omega) (by omega) cb3
                refine lv_iload_n hx hb dX2_hopsUnder_39 rfl (lv_at hl 2 rfl) ?_
                refine lv_aload_n hx hb dX2_hopsUnder_40 rfl (lv_at hl 0 rfl) ?_
                refine va_get (D := D) (ci := 2) (v := .ref p2) (C := RX2) (T := TX2) (N := 10) hx hb hts in_wsX2_hopsUnder_X2 hown hK.1 hP i hp rfl 3 (by decide) (hts _ lk81_wsX2_hopsUnder) (fun _ h9 => h9) rfl dX2_hopsUnder_41 ?_
                refine lv_iload hx hb dX2_hopsUnder_44 (lv_at hl 4 rfl) ?_
                refine z_iald (v := nI (ch n)) hx hb hK.1 hP i2 0 h2 rfl (k := n) (by omega) (by decide) (hch n (by omega)).1 dX2_hopsUnder_46 ?_
                refine lv_iand hx hb dX2_hopsUnder_47 ?_
                refine z_top (y := nI (S &&& ch n)) (z_and16 _ hS16 _ (hch n (by omega)).2) ?_
                refine lv_iload hx hb dX2_hopsUnder_48 (lv_at hl 6 rfl) ?_
                refine z_callSN (As := [.int (nI v)]) (rest := [.int (nI (S &&& ch n))]) ⟨hx, hb, hml, hown, hts⟩ hK hP hS (c_X4_bit (k := v) (by omega)) ⟨va_cnB 1 hts gX2_hopsUnder_X4_bit_n90 rfl rfl rfl hK.2.2.2.2.2.2.1 (hts _ lk82_wsX2_hopsUnder) k_yX4_bit ⟨Nat.le_of_ble_eq_true rfl, Nat.le_of_ble_eq_true rfl⟩, hts _ lk83_wsX2_hopsUnder, trivial⟩ rfl hl.1 rfl rfl dX2_hopsUnder_50 ⟨Nat.le_of_ble_eq_true rfl, Nat.le_of_ble_eq_true rfl⟩ (fun H locs hP hS => ?_)
                refine lv_iand hx hb dX2_hopsUnder_53 ?_
                refine z_top (y := (nI (S &&& ch n) &&& nI (2 ^ v))) rfl ?_
                refine lv_if_eq (tgt := 76) hx hb dX2_hopsUnder_54 (by decide) (fun cb4 => ?_) (fun cb4 => ?_)
                · skip
                  have hbt := z_bitF _ (z_andlt _ hS16) _ (by omega) cb4
                  refine lv_iinc (v := nI (v + 1)) (lv' := [(6, .int (nI (v + 1))), (0, .ref P), (1, .int x), (2, .int (nI S)), (3, .int (nI t)), (4, .int (nI n)), (5, .int (nI f))]) hx hb dX2_hopsUnder_76 hl (k := 6) rfl (z_inc _) (by decide) rfl (fun ls hl => ?_)
                  refine lv_goto (tgt := 33) hx hb dX2_hopsUnder_79 (by decide) ?_
                  exact ih_li (v + 1) (f) (by omega) (by omega) (by unfold zF4; rw [hbt, hf]; rfl) _ _ _ hP hS (lv_sub hl [1, 2, 3, 4, 5, 6, 0] rfl)
                · skip
                  have hbt := z_bitT _ (z_andlt _ hS16) _ (by omega) cb4
                  refine lv_iload hx hb dX2_hopsUnder_57 (lv_at hl 5 rfl) ?_
                  refine lv_aload_n hx hb dX2_hopsUnder_59 rfl (lv_at hl 0 rfl) ?_
                  refine va_get (D := D) (ci := 2) (v := .ref p3) (C := RX2) (T := TX2) (N := 10) hx hb hts in_wsX2_hopsUnder_X2 hown hK.1 hP i hp rfl 4 (by decide) (hts _ lk84_wsX2_hopsUnder) (fun _ h9 => h9) rfl dX2_hopsUnder_60 ?_
                  refine lv_iload hx hb dX2_hopsUnder_63 (lv_at hl 4 rfl) ?_
                  refine lv_iconst (v := nI 4) hx hb dX2_hopsUnder_65 (by decide) ?_
                  refine lv_imul hx hb dX2_hopsUnder_66 ?_
                  refine z_top (y := nI (n * 4)) (pk_mul _ _) ?_
                  refine lv_iload hx hb dX2_hopsUnder_67 (lv_at hl 6 rfl) ?_
                  refine lv_iadd hx hb dX2_hopsUnder_69 ?_
                  refine z_top (y := nI ((n * 4) + v)) (nI_add _ _) ?_
                  refine z_iald (v := nI (h n v)) hx hb hK.1 hP i3 0 h3 rfl (k := (n * 4) + v) (by omega) (by decide) (hhb n (by omega) cb2 v (by omega)).1 dX2_hopsUnder_70 ?_
                  have hb1 := (hhb n (by omega) cb2 v (by omega)).2
                  refine va_mmin hx hb (hml.trans hl.1.symm) hown (hts _ lk85_wsX2_hopsUnder) (hts _ lk86_wsX2_hopsUnder) (hts _ lk87_wsX2_hopsUnder) (hts _ lk88_wsX2_hopsUnder) (by decide) (Nat.le_of_ble_eq_true rfl) (Nat.le_of_ble_eq_true rfl) (Nat.le_of_ble_eq_true rfl) dX2_hopsUnder_71 ?_
                  refine z_top (y := nI (min f (h n v))) (z_min (by omega) (by omega)) ?_
                  refine lv_istore (lv' := [(5, .int (nI (min f (h n v)))), (0, .ref P), (1, .int x), (2, .int (nI S)), (3, .int (nI t)), (4, .int (nI n)), (6, .int (nI v))]) hx hb dX2_hopsUnder_74 hl (by decide) rfl (fun ls hl => ?_)
                  refine lv_iinc (v := nI (v + 1)) (lv' := [(6, .int (nI (v + 1))), (5, .int (nI (min f (h n v)))), (0, .ref P), (1, .int x), (2, .int (nI S)), (3, .int (nI t)), (4, .int (nI n))]) hx hb dX2_hopsUnder_76 hl (k := 6) rfl (z_inc _) (by decide) rfl (fun ls hl => ?_)
                  refine lv_goto (tgt := 33) hx hb dX2_hopsUnder_79 (by decide) ?_
                  exact ih_li (v + 1) (min f (h n v)) (by omega) (by omega) (by unfold zF4; rw [hbt, hf]; rfl) _ _ _ hP hS (lv_sub hl [2, 3, 4, 5, 6, 1, 0] rfl)
          exact li (5) 0 1000 (by omega) (by omega) rfl _ _ _ hP hS (lv_sub hl [2, 3, 4, 5, 6, 1, 0] rfl)
  exact lo (cn + 1) 0 0 (by omega) (by omega) rfl _ _ _ hP hS (lv_sub hl [2, 3, 4, 1, 0] rfl)
set_option maxRecDepth 20000 in
theorem lk89_wsX2_hopsAt : Cond.initialized RX4 ∈ wsX2_hopsAt := by decide +kernel
set_option maxRecDepth 20000 in
theorem lk90_wsX2_hopsAt : Cond.static yX4_bit ∈ wsX2_hopsAt := by decide +kernel
theorem k_yJ6_bitCount_0f7a4 : yJ6_bitCount_0f7a4.cls ≠ "java/lang/invoke/MethodHandle" ∧ yJ6_bitCount_0f7a4.cls ≠ "java/lang/invoke/VarHandle" ∧ (parseMethodDescriptor yJ6_bitCount_0f7a4.desc).map (fun d => d.parameters.length) = some 1 := by decide +kernel
theorem k_yX2_hopsUnder : yX2_hopsUnder.cls = RX2 ∧ yX2_hopsUnder.cls ≠ "java/lang/invoke/MethodHandle" ∧ yX2_hopsUnder.cls ≠ "java/lang/invoke/VarHandle" ∧ (parseMethodDescriptor yX2_hopsUnder.desc).map (fun d => d.parameters.length) = some 2 := by decide +kernel
set_option maxRecDepth 20000 in
theorem lk93_wsX2_hopsAt : Cond.methodLink RX2 67 Lib.Math.min.name ∈ wsX2_hopsAt := by decide +kernel
set_option maxRecDepth 20000 in
theorem lk94_wsX2_hopsAt : Cond.static Lib.Math.min.name ∈ wsX2_hopsAt := by decide +kernel
set_option maxRecDepth 20000 in
theorem lk95_wsX2_hopsAt : Cond.initialized "java/lang/Math" ∈ wsX2_hopsAt := by decide +kernel
set_option maxRecDepth 20000 in
theorem lk96_wsX2_hopsAt : Cond.code Lib.Math.min.name Lib.Math.min.code 2 (some .int) ∈ wsX2_hopsAt := by decide +kernel
abbrev rmX2_hopsAt : Room := { frames := 2, cells := 0, slots := 0, locals := 46 }
set_option maxHeartbeats 4000000 in
set_option maxRecDepth 100000 in
theorem c_X2_hopsAt_h {l : Launch} {D : va_G} {cy : zCy} {w : va_W} {i P g q p1 p2 p3 p4 cn : Nat} {ln kn th : Int32} (hp : w[i]? = some (P, .inr (2, [.ref g, .ref q, .ref p1, .ref p2, .ref p3, .ref p4, .int (nI cn), .int ln, .int kn, .int th]))) {i1 i2 i3 : Nat} {pl chA hbA : Nat → Int32} (h1 : w[i1]? = some (p1, .inl (cy.1, 12, .inl pl))) (h2 : w[i2]? = some (p2, .inl (cy.1, 12, .inl chA))) (h3 : w[i3]? = some (p3, .inl (cy.1, 48, .inl hbA))) {ch : Nat → Nat} {h : Nat → Nat → Nat} {x : Int32} (hcn : cn ≤ 12) (hch : ∀ n, n < cn → chA n = nI (ch n) ∧ ch n < 16) (hhb : ∀ n, n < cn → pl n = x → ∀ s, s < 4 → hbA (n * 4 + s) = nI (h n s) ∧ h n s ≤ 1000) {hm : Nat} (hhm : hm < 4) : zR l yX2_hopsAt wsX2_hopsAt rmX2_hopsAt D cy w [.ref P, .int x, .int (nI hm)] (nI (zA cn pl ch h x hm)) := by
  refine zR.of (cc := cX2_hopsAt) (maxL := 6) (ret := (some .int)) (by decide) rfl rfl ?_
  intro p e s m below meth c ls C hP hK hl
  obtain ⟨hx, hb, hr, hml, hts, hown, hlocks⟩ := C
  have hS : va_S zF s.heap s.heap [] := va_S.rf
  have hl : lv_has ls 6 [(0, .ref P), (1, .int x), (2, .int (nI hm))] := hl
  refine lv_sipush (v := nI 1000) hx hb dX2_hopsAt_0 (by decide) ?_
  refine lv_istore_n (lv' := [(3, .int (nI 1000)), (0, .ref P), (1, .int x), (2, .int (nI hm))]) hx hb dX2_hopsAt_3 rfl hl (by decide) rfl (fun ls hl => ?_)
  refine lv_iconst (v := nI 0) hx hb dX2_hopsAt_4 (by decide) ?_
  refine lv_istore (lv' := [(4, .int (nI 0)), (3, .int (nI 1000)), (0, .ref P), (1, .int x), (2, .int (nI hm))]) hx hb dX2_hopsAt_5 hl (by decide) rfl (fun ls hl => ?_)
  have lo : ∀ (fuel : Nat) (v f : Nat), 17 ≤ v + fuel → v ≤ 16 → (f = zMin (fun S => zpop (zrem hm S) + zHU pl ch h x S cn) v) → ∀ (H : Heap) (locs : List Loc) (ls : Array Slot), va_P D vwCl w H → va_S zF s.heap H locs → lv_has ls 6 [(0, .ref P), (1, .int x), (2, .int (nI hm)), (3, .int (nI f)), (4, .int (nI v))] → W p l e rmX2_hopsAt s m [.ref P, .int x, .int (nI hm)].toArray below meth c H locs 0 0 (zRQ below [.ref P, .int x, .int (nI hm)].toArray s (nI (zA cn pl ch h x hm))) (F0 m 7 ls []) := by
    intro fuel
    induction fuel with
    | zero => intro v f hfu hv hf; exact absurd hfu (by omega)
    | succ fuel ih_lo =>
      intro v f hfu hv hf H locs ls hP hS hl
      have hfl : f ≤ 1000 := by rw [hf]; exact zMin_le_cap _ _
      refine lv_iload hx hb dX2_hopsAt_7 (lv_at hl 4 rfl) ?_
      refine lv_bipush (v := nI 16) hx hb dX2_hopsAt_9 (by decide) ?_
      refine lv_icmp_ge (tgt := 53) hx hb dX2_hopsAt_11 (by decide) (fun cb1 => ?_) (fun cb1 => ?_)
      · have cb1 : 16 ≤ v := zn_ge_t (a := v) (b := 16) (by omega) (by omega) cb1
        refine lv_iload_n hx hb dX2_hopsAt_53 rfl (lv_at hl 3 rfl) ?_
        exact z_iret hx hb hr hlocks hS dX2_hopsAt_54 (by obtain rfl : v = 16 := (by omega); rw [hf]; rfl)
      · have cb1 : ¬ (16 ≤ v) := zn_ge_f (a := v) (b := 16) (by omega) (by omega) cb1
        refine lv_iload_n hx hb dX2_hopsAt_14 rfl (lv_at hl 3 rfl) ?_
        refine lv_if_le (tgt := 53) hx hb dX2_hopsAt_15 (by decide) (fun cb2 => ?_) (fun cb2 => ?_)
        · have cb2 : f ≤ 0 := zn_le_t (a := f) (b := 0) (by omega) (by omega) cb2
          refine lv_iload_n hx hb dX2_hopsAt_53 rfl (lv_at hl 3 rfl) ?_
          exact z_iret hx hb hr hlocks hS dX2_hopsAt_54 (by have h00 : f = 0 := (by omega); rw [h00] at hf ⊢; exact congrArg nI (zMin_zero (m := 16) hv hf.symm).symm)
        · have cb2 : ¬ (f ≤ 0) := zn_le_f (a := f) (b := 0) (by omega) (by omega) cb2
          refine lv_iload hx hb dX2_hopsAt_18 (lv_at hl 4 rfl) ?_
          refine lv_iload_n hx hb dX2_hopsAt_20 rfl (lv_at hl 2 rfl) ?_
          refine z_callSN (As := [.int (nI hm)]) (rest := [.int (nI v)]) ⟨hx, hb, hml, hown, hts⟩ hK hP hS (c_X4_bit (k := hm) (by omega)) ⟨va_cnB 1 hts gX2_hopsAt_X4_bit_n90 rfl rfl rfl hK.2.2.2.2.2.2.1 (hts _ lk89_wsX2_hopsAt) k_yX4_bit ⟨Nat.le_of_ble_eq_true rfl, Nat.le_of_ble_eq_true rfl⟩, hts _ lk90_wsX2_hopsAt, trivial⟩ rfl hl.1 rfl rfl dX2_hopsAt_21 ⟨Nat.le_of_ble_eq_true rfl, Nat.le_of_ble_eq_true rfl⟩ (fun H locs hP hS => ?_)
          refine lv_iconst (v := (-1 : Int32)) hx hb dX2_hopsAt_24 (by decide) ?_
          refine lv_ixor hx hb dX2_hopsAt_25 ?_
          refine z_top (y := (nI (2 ^ hm) ^^^ (-1 : Int32))) rfl ?_
          refine lv_iand hx hb dX2_hopsAt_26 ?_
          refine z_top (y := nI (zrem hm v)) (by rw [zrem, if_pos hhm]; exact z_andn _ (by omega) _ hhm) ?_
          refine z_callS (As := [.int (nI (zrem hm v))]) (rest := []) ⟨hx, hb, hml, hown, hts⟩ hK hP hS (c_J6_bitCount (k := zrem hm v) (by first | omega | exact zrem_lt (by omega))) (va_cwS 1 hts gX2_hopsAt_J6_bitCount_0f7a4 rfl rfl rfl k_yJ6_bitCount_0f7a4 ⟨Nat.le_of_ble_eq_true rfl, Nat.le_of_ble_eq_true rfl⟩) rfl hl.1 rfl rfl dX2_hopsAt_27 ⟨Nat.le_of_ble_eq_true rfl, Nat.le_of_ble_eq_true rfl⟩ (fun H locs hP hS => ?_)
          refine lv_aload_n hx hb dX2_hopsAt_30 rfl (lv_at hl 0 rfl) ?_
          refine lv_iload_n hx hb dX2_hopsAt_31 rfl (lv_at hl 1 rfl) ?_
          refine lv_iload hx hb dX2_hopsAt_32 (lv_at hl 4 rfl) ?_
          refine z_callV (b := P) (As := [.int x, .int (nI v)]) (rest := [.int (nI (zpop (zrem hm v)))]) ⟨hx, hb, hml, hown, hts⟩ hK hP hS (c_X2_hopsUnder hp h1 h2 h3 hcn hch hhb (S := v) (by omega)) (cwV 2 hts gX2_hopsAt_X2_hopsUnder rfl rfl rfl k_yX2_hopsUnder ⟨Nat.le_of_ble_eq_true rfl, Nat.le_of_ble_eq_true rfl⟩) i 2 hp rfl rfl rfl hl.1 rfl rfl dX2_hopsAt_34 ⟨Nat.le_of_ble_eq_true rfl, Nat.le_of_ble_eq_true rfl⟩ (fun H locs hP hS => ?_)
          refine lv_iadd hx hb dX2_hopsAt_37 ?_
          refine z_top (y := nI ((zpop (zrem hm v)) + (zHU pl ch h x v cn))) (nI_add _ _) ?_
          refine lv_istore (lv' := [(5, .int (nI ((zpop (zrem hm v)) + (zHU pl ch h x v cn)))), (0, .ref P), (1, .int x), (2, .int (nI hm)), (3, .int (nI f)), (4, .int (nI v))]) hx hb dX2_hopsAt_38 hl (by decide) rfl (fun ls hl => ?_)
          refine lv_iload_n hx hb dX2_hopsAt_40 rfl (lv_at hl 4 rfl) ?_
          refine lv_iload hx hb dX2_hopsAt_41 (lv_at hl 0 rfl) ?_
          have hb1 := zHU_le (pl := pl) (c := ch) (h := h) (x := x) (S := v) cn
          have hb2 := zpop_le (zrem hm v)
          refine va_mmin hx hb (hml.trans hl.1.symm) hown (hts _ lk93_wsX2_hopsAt) (hts _ lk94_wsX2_hopsAt) (hts _ lk95_wsX2_hopsAt) (hts _ lk96_wsX2_hopsAt) (by decide) (Nat.le_of_ble_eq_true rfl) (Nat.le_of_ble_eq_true rfl) (Nat.le_of_ble_eq_true rfl) dX2_hopsAt_43 ?_
          refine z_top (y := nI (min f (zpop (zrem hm v) + zHU pl ch h x v cn))) (z_min (by omega) (by omega)) ?_
          refine lv_istore_n (lv' := [(3, .int (nI (min f (zpop (zrem hm v) + zHU pl ch h x v cn)))), (5, .int (nI ((zpop (zrem hm v)) + (zHU pl ch h x v cn)))), (0, .ref P), (1, .int x), (2, .int (nI hm)), (4, .int (nI v))]) hx hb dX2_hopsAt_46 rfl hl (by decide) rfl (fun ls hl => ?_)
          refine lv_iinc (v := nI (v + 1)) (lv' := [(4, .int (nI (v + 1))), (3, .int (nI (min f (zpop (zrem hm v) + zHU pl ch h x v cn)))), (5, .int (nI ((zpop (zrem hm v)) + (zHU pl ch h x v cn)))), (0, .ref P), (1, .int x), (2, .int (nI hm))]) hx hb dX2_hopsAt_47 hl (k := 5) rfl (z_inc _) (by decide) rfl (fun ls hl => ?_)
          refine lv_goto (tgt := 7) hx hb dX2_hopsAt_50 (by decide) ?_
          exact ih_lo (v + 1) (min f (zpop (zrem hm v) + zHU pl ch h x v cn)) (by omega) (by omega) (by unfold zMin; rw [hf]) _ _ _ hP hS (lv_sub hl [3, 4, 5, 1, 0] rfl)
  exact lo (17) 0 1000 (by omega) (by omega) rfl _ _ _ hP hS (lv_sub hl [2, 3, 4, 1, 0] rfl)
set_option maxHeartbeats 4000000 in
set_option maxRecDepth 100000 in
theorem c_X2_hopsAt_m1 {l : Launch} {D : va_G} {cy : zCy} {w : va_W} {i P g q p1 p2 p3 p4 cn : Nat} {ln kn th : Int32} (hp : w[i]? = some (P, .inr (2, [.ref g, .ref q, .ref p1, .ref p2, .ref p3, .ref p4, .int (nI cn), .int ln, .int kn, .int th]))) {i1 i2 i3 : Nat} {pl chA hbA : Nat → Int32} (h1 : w[i1]? = some (p1, .inl (cy.1, 12, .inl pl))) (h2 : w[i2]? = some (p2, .inl (cy.1, 12, .inl chA))) (h3 : w[i3]? = some (p3, .inl (cy.1, 48, .inl hbA))) {ch : Nat → Nat} {h : Nat → Nat → Nat} {x : Int32} (hcn : cn ≤ 12) (hch : ∀ n, n < cn → chA n = nI (ch n) ∧ ch n < 16) (hhb : ∀ n, n < cn → pl n = x → ∀ s, s < 4 → hbA (n * 4 + s) = nI (h n s) ∧ h n s ≤ 1000)  : zR l yX2_hopsAt wsX2_hopsAt rmX2_hopsAt D cy w [.ref P, .int x, .int ((-1 : Int32))] (nI (zA cn pl ch h x 4)) := by
  refine zR.of (cc := cX2_hopsAt) (maxL := 6) (ret := (some .int)) (by decide) rfl rfl ?_
  intro p e s m below meth c ls C hP hK hl
  obtain ⟨hx, hb, hr, hml, hts, hown, hlocks⟩ := C
  have hS : va_S zF s.heap s.heap [] := va_S.rf
  have hl : lv_has ls 6 [(0, .ref P), (1, .int x), (2, .int ((-1 : Int32)))] := hl
  refine lv_sipush (v := nI 1000) hx hb dX2_hopsAt_0 (by decide) ?_
  refine lv_istore_n (lv' := [(3, .int (nI 1000)), (0, .ref P), (1, .int x), (2, .int ((-1 : Int32)))]) hx hb dX2_hopsAt_3 rfl hl (by decide) rfl (fun ls hl => ?_)
  refine lv_iconst (v := nI 0) hx hb dX2_hopsAt_4 (by decide) ?_
  refine lv_istore (lv' := [(4, .int (nI 0)), (3, .int (nI 1000)), (0, .ref P), (1, .int x), (2, .int ((-1 : Int32)))]) hx hb dX2_hopsAt_5 hl (by decide) rfl (fun ls hl => ?_)
  have lo : ∀ (fuel : Nat) (v f : Nat), 17 ≤ v + fuel → v ≤ 16 → (f = zMin (fun S => zpop (zrem 4 S) + zHU pl ch h x S cn) v) → ∀ (H : Heap) (locs : List Loc) (ls : Array Slot), va_P D vwCl w H → va_S zF s.heap H locs → lv_has ls 6 [(0, .ref P), (1, .int x), (2, .int ((-1 : Int32))), (3, .int (nI f)), (4, .int (nI v))] → W p l e rmX2_hopsAt s m [.ref P, .int x, .int ((-1 : Int32))].toArray below meth c H locs 0 0 (zRQ below [.ref P, .int x, .int ((-1 : Int32))].toArray s (nI (zA cn pl ch h x 4))) (F0 m 7 ls []) := by
    intro fuel
    induction fuel with
    | zero => intro v f hfu hv hf; exact absurd hfu (by omega)
    | succ fuel ih_lo =>
      intro v f hfu hv hf H locs ls hP hS hl
      have hfl : f ≤ 1000 := by rw [hf]; exact zMin_le_cap _ _
      refine lv_iload hx hb dX2_hopsAt_7 (lv_at hl 4 rfl) ?_
      refine lv_bipush (v := nI 16) hx hb dX2_hopsAt_9 (by decide) ?_
      refine lv_icmp_ge (tgt := 53) hx hb dX2_hopsAt_11 (by decide) (fun cb1 => ?_) (fun cb1 => ?_)
      · have cb1 : 16 ≤ v := zn_ge_t (a := v) (b := 16) (by omega) (by omega) cb1
        refine lv_iload_n hx hb dX2_hopsAt_53 rfl (lv_at hl 3 rfl) ?_
        exact z_iret hx hb hr hlocks hS dX2_hopsAt_54 (by obtain rfl : v = 16 := (by omega); rw [hf]; rfl)
      · have cb1 : ¬ (16 ≤ v) := zn_ge_f (a := v) (b := 16) (by omega) (by omega) cb1
        refine lv_iload_n hx hb dX2_hopsAt_14 rfl (lv_at hl 3 rfl) ?_
        refine lv_if_le (tgt := 53) hx hb dX2_hopsAt_15 (by decide) (fun cb2 => ?_) (fun cb2 => ?_)
        · have cb2 : f ≤ 0 := zn_le_t (a := f) (b := 0) (by omega) (by omega) cb2
          refine lv_iload_n hx hb dX2_hopsAt_53 rfl (lv_at hl 3 rfl) ?_
          exact z_iret hx hb hr hlocks hS dX2_hopsAt_54 (by have h00 : f = 0 := (by omega); rw [h00] at hf ⊢; exact congrArg nI (zMin_zero (m := 16) hv hf.symm).symm)
        · have cb2 : ¬ (f ≤ 0) := zn_le_f (a := f) (b := 0) (by omega) (by omega) cb2
          refine lv_iload hx hb dX2_hopsAt_18 (lv_at hl 4 rfl) ?_
          refine lv_iload_n hx hb dX2_hopsAt_20 rfl (lv_at hl 2 rfl) ?_
          refine z_callSN (As := [.int ((-1 : Int32))]) (rest := [.int (nI v)]) ⟨hx, hb, hml, hown, hts⟩ hK hP hS (c_X4_bit_m1) ⟨va_cnB 1 hts gX2_hopsAt_X4_bit_n90 rfl rfl rfl hK.2.2.2.2.2.2.1 (hts _ lk89_wsX2_hopsAt) k_yX4_bit ⟨Nat.le_of_ble_eq_true rfl, Nat.le_of_ble_eq_true rfl⟩, hts _ lk90_wsX2_hopsAt, trivial⟩ rfl hl.1 rfl rfl dX2_hopsAt_21 ⟨Nat.le_of_ble_eq_true rfl, Nat.le_of_ble_eq_true rfl⟩ (fun H locs hP hS => ?_)
          refine lv_iconst (v := (-1 : Int32)) hx hb dX2_hopsAt_24 (by decide) ?_
          refine lv_ixor hx hb dX2_hopsAt_25 ?_
          refine z_top (y := (nI 0 ^^^ (-1 : Int32))) rfl ?_
          refine lv_iand hx hb dX2_hopsAt_26 ?_
          refine z_top (y := nI (zrem 4 v)) (z_keep v (by omega)) ?_
          refine z_callS (As := [.int (nI (zrem 4 v))]) (rest := []) ⟨hx, hb, hml, hown, hts⟩ hK hP hS (c_J6_bitCount (k := zrem 4 v) (by first | omega | exact zrem_lt (by omega))) (va_cwS 1 hts gX2_hopsAt_J6_bitCount_0f7a4 rfl rfl rfl k_yJ6_bitCount_0f7a4 ⟨Nat.le_of_ble_eq_true rfl, Nat.le_of_ble_eq_true rfl⟩) rfl hl.1 rfl rfl dX2_hopsAt_27 ⟨Nat.le_of_ble_eq_true rfl, Nat.le_of_ble_eq_true rfl⟩ (fun H locs hP hS => ?_)
          refine lv_aload_n hx hb dX2_hopsAt_30 rfl (lv_at hl 0 rfl) ?_
          refine lv_iload_n hx hb dX2_hopsAt_31 rfl (lv_at hl 1 rfl) ?_
          refine lv_iload hx hb dX2_hopsAt_32 (lv_at hl 4 rfl) ?_
          refine z_callV (b := P) (As := [.int x, .int (nI v)]) (rest := [.int (nI (zpop (zrem 4 v)))]) ⟨hx, hb, hml, hown, hts⟩ hK hP hS (c_X2_hopsUnder hp h1 h2 h3 hcn hch hhb (S := v) (by omega)) (cwV 2 hts gX2_hopsAt_X2_hopsUnder rfl rfl rfl k_yX2_hopsUnder ⟨Nat.le_of_ble_eq_true rfl, Nat.le_of_ble_eq_true rfl⟩) i 2 hp rfl rfl rfl hl.1 rfl rfl dX2_hopsAt_34 ⟨Nat.le_of_ble_eq_true rfl, Nat.le_of_ble_eq_true rfl⟩ (fun H locs hP hS => ?_)
          refine lv_iadd hx hb dX2_hopsAt_37 ?_
          refine z_top (y := nI ((zpop (zrem 4 v)) + (zHU pl ch h x v cn))) (nI_add _ _) ?_
          refine lv_istore (lv' := [(5, .int (nI ((zpop (zrem 4 v)) + (zHU pl ch h x v cn)))), (0, .ref P), (1, .int x), (2, .int ((-1 : Int32))), (3, .int (nI f)), (4, .int (nI v))]) hx hb dX2_hopsAt_38 hl (by decide) rfl (fun ls hl => ?_)
          refine lv_iload_n hx hb dX2_hopsAt_40 rfl (lv_at hl 4 rfl) ?_
          refine lv_iload hx hb dX2_hopsAt_41 (lv_at hl 0 rfl) ?_
          have hb1 := zHU_le (pl := pl) (c := ch) (h := h) (x := x) (S := v) cn
          have hb2 := zpop_le (zrem 4 v)
          refine va_mmin hx hb (hml.trans hl.1.symm) hown (hts _ lk93_wsX2_hopsAt) (hts _ lk94_wsX2_hopsAt) (hts _ lk95_wsX2_hopsAt) (hts _ lk96_wsX2_hopsAt) (by decide) (Nat.le_of_ble_eq_true rfl) (Nat.le_of_ble_eq_true rfl) (Nat.le_of_ble_eq_true rfl) dX2_hopsAt_43 ?_
          refine z_top (y := nI (min f (zpop (zrem 4 v) + zHU pl ch h x v cn))) (z_min (by omega) (by omega)) ?_
          refine lv_istore_n (lv' := [(3, .int (nI (min f (zpop (zrem 4 v) + zHU pl ch h x v cn)))), (5, .int (nI ((zpop (zrem 4 v)) + (zHU pl ch h x v cn)))), (0, .ref P), (1, .int x), (2, .int ((-1 : Int32))), (4, .int (nI v))]) hx hb dX2_hopsAt_46 rfl hl (by decide) rfl (fun ls hl => ?_)
          refine lv_iinc (v := nI (v + 1)) (lv' := [(4, .int (nI (v + 1))), (3, .int (nI (min f (zpop (zrem 4 v) + zHU pl ch h x v cn)))), (5, .int (nI ((zpop (zrem 4 v)) + (zHU pl ch h x v cn)))), (0, .ref P), (1, .int x), (2, .int ((-1 : Int32)))]) hx hb dX2_hopsAt_47 hl (k := 5) rfl (z_inc _) (by decide) rfl (fun ls hl => ?_)
          refine lv_goto (tgt := 7) hx hb dX2_hopsAt_50 (by decide) ?_
          exact ih_lo (v + 1) (min f (zpop (zrem 4 v) + zHU pl ch h x v cn)) (by omega) (by omega) (by unfold zMin; rw [hf]) _ _ _ hP hS (lv_sub hl [3, 4, 5, 1, 0] rfl)
  exact lo (17) 0 1000 (by omega) (by omega) rfl _ _ _ hP hS (lv_sub hl [2, 3, 4, 1, 0] rfl)
theorem c_X2_hopsAt_t {l : Launch} {D : va_G} {cy : zCy} {w : va_W} {i P g q p1 p2 p3 p4 cn : Nat} {ln kn th : Int32} (hp : w[i]? = some (P, .inr (2, [.ref g, .ref q, .ref p1, .ref p2, .ref p3, .ref p4, .int (nI cn), .int ln, .int kn, .int th]))) {i1 i2 i3 : Nat} {pl chA hbA : Nat → Int32} (h1 : w[i1]? = some (p1, .inl (cy.1, 12, .inl pl))) (h2 : w[i2]? = some (p2, .inl (cy.1, 12, .inl chA))) (h3 : w[i3]? = some (p3, .inl (cy.1, 48, .inl hbA))) {ch : Nat → Nat} (hcn : cn ≤ 12) (hT : zTree cn pl) (hch : ∀ n, n < cn → chA n = nI (ch n) ∧ ch n < 16) {j v : Nat} (hj : j < cn) (hv : v < 4) (hhb : ∀ n, j < n → n < cn → ∀ s, s < 4 → hbA (n * 4 + s) = nI (zH cn pl ch n s)) : zR l yX2_hopsAt wsX2_hopsAt rmX2_hopsAt D cy w [.ref P, .int (nI j), .int (nI v)] (nI (zH cn pl ch j v)) := by
  rw [zH_fix hT hcn hj]
  exact c_X2_hopsAt_h hp h1 h2 h3 hcn hch (fun n hn hpl s hs => ⟨hhb n (hT.lt hcn hn hj hpl) hn s hs, zH_cap hT hcn hn s⟩) hv
theorem z_dnT {j : Nat} (hj : j < 2 ^ 31) (h : (nI j - 1).toInt < 0) : j = 0 := by
  apply Classical.byContradiction
  intro h0
  obtain ⟨k, rfl⟩ : ∃ k, j = k + 1 := ⟨j - 1, by omega⟩
  rw [nI_pred, nI_toInt (by omega)] at h
  omega
theorem z_dnF {j : Nat} (h : ¬ (nI j - 1).toInt < 0) : ∃ k, j = k + 1 := by
  refine ⟨j - 1, ?_⟩
  have : j ≠ 0 := fun e => by subst e; exact h (by decide)
  omega
set_option maxRecDepth 20000 in
theorem lk97_wsX2_countHopsBelow : Cond.fieldLink RX2 72 "QueryGateway$Plan" "count" "I" ∈ wsX2_countHopsBelow := by decide +kernel
set_option maxRecDepth 20000 in
theorem in_wsX2_countHopsBelow_X2 : ∀ w ∈ wsX20, w ∈ wsX2_countHopsBelow := by decide +kernel
set_option maxRecDepth 20000 in
theorem lk99_wsX2_countHopsBelow : Cond.fieldLink RX2 26 "QueryGateway$Plan" "hopsBelow" "[I" ∈ wsX2_countHopsBelow := by decide +kernel
theorem k_yX2_hopsAt : yX2_hopsAt.cls = RX2 ∧ yX2_hopsAt.cls ≠ "java/lang/invoke/MethodHandle" ∧ yX2_hopsAt.cls ≠ "java/lang/invoke/VarHandle" ∧ (parseMethodDescriptor yX2_hopsAt.desc).map (fun d => d.parameters.length) = some 2 := by decide +kernel
abbrev rmX2_countHopsBelow : Room := { frames := 3, cells := 0, slots := 0, locals := 71 }
set_option maxHeartbeats 4000000 in
set_option maxRecDepth 100000 in
theorem c_X2_countHopsBelow {l : Launch} {D : va_G} {cy : zCy} {P g q p1 p2 p3 p4 cn : Nat} {ln kn th : Int32} {pl chA hbA : Nat → Int32} {ch : Nat → Nat} (hcn : cn ≤ 12) (hT : zTree cn pl) (hch : ∀ n, n < cn → chA n = nI (ch n) ∧ ch n < 16) : zV (Nat → Int32) l yX2_countHopsBelow wsX2_countHopsBelow rmX2_countHopsBelow D cy [(P, .inr (2, [.ref g, .ref q, .ref p1, .ref p2, .ref p3, .ref p4, .int (nI cn), .int ln, .int kn, .int th])), (p1, .inl (cy.1, 12, .inl pl)), (p2, .inl (cy.1, 12, .inl chA)), (p3, .inl (cy.1, 48, .inl hbA))] [.ref P] (fun u => ∀ n, n < cn → ∀ v, v < 4 → u (n * 4 + v) = nI (zH cn pl ch n v)) (fun u => [(P, .inr (2, [.ref g, .ref q, .ref p1, .ref p2, .ref p3, .ref p4, .int (nI cn), .int ln, .int kn, .int th])), (p1, .inl (cy.1, 12, .inl pl)), (p2, .inl (cy.1, 12, .inl chA)), (p3, .inl (cy.1, 48, .inl u))]) := by
  refine zV.of (cc := cX2_countHopsBelow) (maxL := 3) (ret := none) (by decide) rfl rfl ?_
  intro p e s m below meth c ls C hP hK hD hl
  obtain ⟨hx, hb, hr, hml, hts, hown, hlocks⟩ := C
  have hS : va_S (zIn [(P, .inr (2, [.ref g, .ref q, .ref p1, .ref p2, .ref p3, .ref p4, .int (nI cn), .int ln, .int kn, .int th])), (p1, .inl (cy.1, 12, .inl pl)), (p2, .inl (cy.1, 12, .inl chA)), (p3, .inl (cy.1, 48, .inl hbA))]) s.heap s.heap [] := va_S.rf
  have hl : lv_has ls 3 [(0, .ref P)] := hl
  refine lv_aload_n hx hb dX2_countHopsBelow_0 rfl (lv_at hl 0 rfl) ?_
  refine va_get (D := D) (ci := 2) (v := .int (nI cn)) (C := RX2) (T := TX2) (N := 10) hx hb hts in_wsX2_countHopsBelow_X2 hown hK.1 hP 0 rfl rfl 6 (by decide) (hts _ lk97_wsX2_countHopsBelow) (fun _ h9 => h9) rfl dX2_countHopsBelow_1 ?_
  refine lv_iconst (v := nI 1) hx hb dX2_countHopsBelow_4 (by decide) ?_
  refine lv_isub hx hb dX2_countHopsBelow_5 ?_
  refine z_top (y := (nI cn - 1)) rfl ?_
  refine lv_istore_n (lv' := [(1, .int ((nI cn - 1))), (0, .ref P)]) hx hb dX2_countHopsBelow_6 rfl hl (by decide) rfl (fun ls hl => ?_)
  have lo : ∀ (fuel : Nat) (j : Nat) (u : Nat → Int32), j + 1 ≤ fuel → j ≤ cn → (∀ n, j ≤ n → n < cn → ∀ v, v < 4 → u (n * 4 + v) = nI (zH cn pl ch n v)) → ∀ (H : Heap) (locs : List Loc) (ls : Array Slot), va_P D vwCl [(P, .inr (2, [.ref g, .ref q, .ref p1, .ref p2, .ref p3, .ref p4, .int (nI cn), .int ln, .int kn, .int th])), (p1, .inl (cy.1, 12, .inl pl)), (p2, .inl (cy.1, 12, .inl chA)), (p3, .inl (cy.1, 48, .inl u))] H → va_D (zIn [(P, .inr (2, [.ref g, .ref q, .ref p1, .ref p2, .ref p3, .ref p4, .int (nI cn), .int ln, .int kn, .int th])), (p1, .inl (cy.1, 12, .inl pl)), (p2, .inl (cy.1, 12, .inl chA)), (p3, .inl (cy.1, 48, .inl hbA))]) [(P, .inr (2, [.ref g, .ref q, .ref p1, .ref p2, .ref p3, .ref p4, .int (nI cn), .int ln, .int kn, .int th])), (p1, .inl (cy.1, 12, .inl pl)), (p2, .inl (cy.1, 12, .inl chA)), (p3, .inl (cy.1, 48, .inl u))] → va_S (zIn [(P, .inr (2, [.ref g, .ref q, .ref p1, .ref p2, .ref p3, .ref p4, .int (nI cn), .int ln, .int kn, .int th])), (p1, .inl (cy.1, 12, .inl pl)), (p2, .inl (cy.1, 12, .inl chA)), (p3, .inl (cy.1, 48, .inl hbA))]) s.heap H locs → lv_has ls 3 [(0, .ref P), (1, .int ((nI j - 1)))] → W p l e rmX2_countHopsBelow s m [.ref P].toArray below meth c H locs 0 0 (zVQ (Nat → Int32) D below [.ref P].toArray s [(P, .inr (2, [.ref g, .ref q, .ref p1, .ref p2, .ref p3, .ref p4, .int (nI cn), .int ln, .int kn, .int th])), (p1, .inl (cy.1, 12, .inl pl)), (p2, .inl (cy.1, 12, .inl chA)), (p3, .inl (cy.1, 48, .inl hbA))] (fun u => ∀ n, n < cn → ∀ v, v < 4 → u (n * 4 + v) = nI (zH cn pl ch n v)) (fun u => [(P, .inr (2, [.ref g, .ref q, .ref p1, .ref p2, .ref p3, .ref p4, .int (nI cn), .int ln, .int kn, .int th])), (p1, .inl (cy.1, 12, .inl pl)), (p2, .inl (cy.1, 12, .inl chA)), (p3, .inl (cy.1, 48, .inl u))])) (F0 m 7 ls []) := by
    intro fuel
    induction fuel with
    | zero => intro j u hfu hj hdone0; exact absurd hfu (by omega)
    | succ fuel ih_lo =>
      intro j u hfu hj hdone0 H locs ls hP hD hS hl
      refine lv_iload_n hx hb dX2_countHopsBelow_7 rfl (lv_at hl 1 rfl) ?_
      refine lv_if_lt (tgt := 46) hx hb dX2_countHopsBelow_8 (by decide) (fun cb1 => ?_) (fun cb1 => ?_)
      · have cb1 : ((nI j - 1)).toInt < ((0 : Nat) : Int) := ziIN_lt_t (b := 0) (by omega) cb1
        have hj0 := z_dnT (by omega) cb1
        exact z_vret u hx hb hr hlocks hS dX2_countHopsBelow_46 hP (fun n h1 v hv => hdone0 n (by omega) h1 v hv)
      · have cb1 : ¬ (((nI j - 1)).toInt < ((0 : Nat) : Int)) := ziIN_lt_f (b := 0) (by omega) cb1
        obtain ⟨j1, rfl⟩ := z_dnF cb1
        rw [nI_pred] at hl
        refine lv_iconst (v := nI 0) hx hb dX2_countHopsBelow_11 (by decide) ?_
        refine lv_istore_n (lv' := [(2, .int (nI 0)), (0, .ref P), (1, .int (nI j1))]) hx hb dX2_countHopsBelow_12 rfl hl (by decide) rfl (fun ls hl => ?_)
        have li : ∀ (fuel : Nat) (v : Nat) (u2 : Nat → Int32), 5 ≤ v + fuel → v ≤ 4 → (∀ t, t < v → u2 (j1 * 4 + t) = nI (zH cn pl ch j1 t)) → (∀ n, j1 < n → n < cn → ∀ t, t < 4 → u2 (n * 4 + t) = nI (zH cn pl ch n t)) → ∀ (H : Heap) (locs : List Loc) (ls : Array Slot), va_P D vwCl [(P, .inr (2, [.ref g, .ref q, .ref p1, .ref p2, .ref p3, .ref p4, .int (nI cn), .int ln, .int kn, .int th])), (p1, .inl (cy.1, 12, .inl pl)), (p2, .inl (cy.1, 12, .inl chA)), (p3, .inl (cy.1, 48, .inl u2))] H → va_D (zIn [(P, .inr (2, [.ref g, .ref q, .ref p1, .ref p2, .ref p3, .ref p4, .int (nI cn), .int ln, .int kn, .int th])), (p1, .inl (cy.1, 12, .inl pl)), (p2, .inl (cy.1, 12, .inl chA)), (p3, .inl (cy.1, 48, .inl hbA))]) [(P, .inr (2, [.ref g, .ref q, .ref p1, .ref p2, .ref p3, .ref p4, .int (nI cn), .int ln, .int kn, .int th])), (p1, .inl (cy.1, 12, .inl pl)), (p2, .inl (cy.1, 12, .inl chA)), (p3, .inl (cy.1, 48, .inl u2))] → va_S (zIn [(P, .inr (2, [.ref g, .ref q, .ref p1, .ref p2, .ref p3, .ref p4, .int (nI cn), .int ln, .int kn, .int th])), (p1, .inl (cy.1, 12, .inl pl)), (p2, .inl (cy.1, 12, .inl chA)), (p3, .inl (cy.1, 48, .inl hbA))]) s.heap H locs → lv_has ls 3 [(0, .ref P), (1, .int (nI j1)), (2, .int (nI v))] → W p l e rmX2_countHopsBelow s m [.ref P].toArray below meth c H locs 0 0 (zVQ (Nat → Int32) D below [.ref P].toArray s [(P, .inr (2, [.ref g, .ref q, .ref p1, .ref p2, .ref p3, .ref p4, .int (nI cn), .int ln, .int kn, .int th])), (p1, .inl (cy.1, 12, .inl pl)), (p2, .inl (cy.1, 12, .inl chA)), (p3, .inl (cy.1, 48, .inl hbA))] (fun u => ∀ n, n < cn → ∀ v, v < 4 → u (n * 4 + v) = nI (zH cn pl ch n v)) (fun u => [(P, .inr (2, [.ref g, .ref q, .ref p1, .ref p2, .ref p3, .ref p4, .int (nI cn), .int ln, .int kn, .int th])), (p1, .inl (cy.1, 12, .inl pl)), (p2, .inl (cy.1, 12, .inl chA)), (p3, .inl (cy.1, 48, .inl u))])) (F0 m 13 ls []) := by
          intro fuel
          induction fuel with
          | zero => intro v u2 hfu hv hrow hdone; exact absurd hfu (by omega)
          | succ fuel ih_li =>
            intro v u2 hfu hv hrow hdone H locs ls hP hD hS hl
            refine lv_iload_n hx hb dX2_countHopsBelow_13 rfl (lv_at hl 2 rfl) ?_
            refine lv_iconst (v := nI 4) hx hb dX2_countHopsBelow_14 (by decide) ?_
            refine lv_icmp_ge (tgt := 40) hx hb dX2_countHopsBelow_15 (by decide) (fun cb2 => ?_) (fun cb2 => ?_)
            · have cb2 : 4 ≤ v := zn_ge_t (a := v) (b := 4) (by omega) (by omega) cb2
              refine lv_iinc (v := nI j1 - 1) (lv' := [(1, .int (nI j1 - 1)), (0, .ref P), (2, .int (nI v))]) hx hb dX2_countHopsBelow_40 hl (k := 1) rfl (z_dec _) (by decide) rfl (fun ls hl => ?_)
              refine lv_goto (tgt := 7) hx hb dX2_countHopsBelow_43 (by decide) ?_
              exact ih_lo j1 u2 (by omega) (by omega) (fun n h1 h2 v hv => by
                  rcases Nat.lt_or_ge j1 n with z | z
                  · exact hdone n z h2 v hv
                  · obtain rfl : n = j1 := (by omega)
                    exact hrow v (by omega)) _ _ _ hP hD hS (lv_sub hl [1, 0] rfl)
            · have cb2 : ¬ (4 ≤ v) := zn_ge_f (a := v) (b := 4) (by omega) (by omega) cb2
              refine lv_aload_n hx hb dX2_countHopsBelow_18 rfl (lv_at hl 0 rfl) ?_
              refine va_get (D := D) (ci := 2) (v := .ref p3) (C := RX2) (T := TX2) (N := 10) hx hb hts in_wsX2_countHopsBelow_X2 hown hK.1 hP 0 rfl rfl 4 (by decide) (hts _ lk99_wsX2_countHopsBelow) (fun _ h9 => h9) rfl dX2_countHopsBelow_19 ?_
              refine lv_iload_n hx hb dX2_countHopsBelow_22 rfl (lv_at hl 1 rfl) ?_
              refine lv_iconst (v := nI 4) hx hb dX2_countHopsBelow_23 (by decide) ?_
              refine lv_imul hx hb dX2_countHopsBelow_24 ?_
              refine z_top (y := nI (j1 * 4)) (pk_mul _ _) ?_
              refine lv_iload_n hx hb dX2_countHopsBelow_25 rfl (lv_at hl 2 rfl) ?_
              refine lv_iadd hx hb dX2_countHopsBelow_26 ?_
              refine z_top (y := nI ((j1 * 4) + v)) (nI_add _ _) ?_
              refine lv_aload_n hx hb dX2_countHopsBelow_27 rfl (lv_at hl 0 rfl) ?_
              refine lv_iload_n hx hb dX2_countHopsBelow_28 rfl (lv_at hl 1 rfl) ?_
              refine lv_iload_n hx hb dX2_countHopsBelow_29 rfl (lv_at hl 2 rfl) ?_
              refine z_callV (b := P) (As := [.int (nI j1), .int (nI v)]) (rest := [.int (nI ((j1 * 4) + v)), .ref p3]) ⟨hx, hb, hml, hown, hts⟩ hK hP hS (c_X2_hopsAt_t (i := 0) (i1 := 1) (i2 := 2) (i3 := 3) rfl rfl rfl rfl hcn hT hch (j := j1) (v := v) (by omega) (by omega) hdone) (cwV 2 hts gX2_countHopsBelow_X2_hopsAt rfl rfl rfl k_yX2_hopsAt ⟨Nat.le_of_ble_eq_true rfl, Nat.le_of_ble_eq_true rfl⟩) 0 2 rfl rfl rfl rfl hl.1 rfl rfl dX2_countHopsBelow_30 ⟨Nat.le_of_ble_eq_true rfl, Nat.le_of_ble_eq_true rfl⟩ (fun H locs hP hS => ?_)
              refine z_iast (g := upd u2 ((j1 * 4) + v) (nI (zH cn pl ch j1 v))) hx hb hK.1 hP hD hS 3 0 rfl rfl (k := (j1 * 4) + v) (by omega) (by decide) (fun _ _ => rfl) dX2_countHopsBelow_33 (fun H locs hP hD hS => ?_)
              have hP : va_P D vwCl [(P, .inr (2, [.ref g, .ref q, .ref p1, .ref p2, .ref p3, .ref p4, .int (nI cn), .int ln, .int kn, .int th])), (p1, .inl (cy.1, 12, .inl pl)), (p2, .inl (cy.1, 12, .inl chA)), (p3, .inl (cy.1, 48, .inl (upd u2 ((j1 * 4) + v) (nI (zH cn pl ch j1 v)))))] H := hP
              have hD : va_D (zIn [(P, .inr (2, [.ref g, .ref q, .ref p1, .ref p2, .ref p3, .ref p4, .int (nI cn), .int ln, .int kn, .int th])), (p1, .inl (cy.1, 12, .inl pl)), (p2, .inl (cy.1, 12, .inl chA)), (p3, .inl (cy.1, 48, .inl hbA))]) [(P, .inr (2, [.ref g, .ref q, .ref p1, .ref p2, .ref p3, .ref p4, .int (nI cn), .int ln, .int kn, .int th])), (p1, .inl (cy.1, 12, .inl pl)), (p2, .inl (cy.1, 12, .inl chA)), (p3, .inl (cy.1, 48, .inl (upd u2 ((j1 * 4) + v) (nI (zH cn pl ch j1 v)))))] := hD
              refine lv_iinc (v := nI (v + 1)) (lv' := [(2, .int (nI (v + 1))), (0, .ref P), (1, .int (nI j1))]) hx hb dX2_countHopsBelow_34 hl (k := 2) rfl (z_inc _) (by decide) rfl (fun ls hl => ?_)
              refine lv_goto (tgt := 13) hx hb dX2_countHopsBelow_37 (by decide) ?_
              exact ih_li (v + 1) (upd u2 (j1 * 4 + v) (nI (zH cn pl ch j1 v))) (by omega) (by omega) (lt_s (fun t ht => by unfold upd; rw [if_neg (by omega)]; exact hrow t ht) (by unfold upd; rw [if_pos rfl])) (fun n h1 h2 t ht => by unfold upd; rw [if_neg (by omega)]; exact hdone n h1 h2 t ht) _ _ _ hP hD hS (lv_sub hl [1, 2, 0] rfl)
        exact li (5) 0 u (by omega) (by omega) (fun t ht => absurd ht (by omega)) (fun n h1 h2 t ht => hdone0 n (by omega) h2 t ht) _ _ _ hP hD hS (lv_sub hl [1, 2, 0] rfl)
  exact lo (cn + 1) cn hbA (by omega) (by omega) (fun n h1 h2 => absurd h1 (by omega)) _ _ _ hP hD hS (lv_sub hl [1, 0] rfl)
set_option maxRecDepth 20000 in
theorem lk101_wsX2_serviceOf : Cond.fieldLink RX2 15 "QueryGateway$Plan" "query" "LQueryGateway$Query;" ∈ wsX2_serviceOf := by decide +kernel
set_option maxRecDepth 20000 in
theorem in_wsX2_serviceOf_X2 : ∀ w ∈ wsX20, w ∈ wsX2_serviceOf := by decide +kernel
set_option maxRecDepth 20000 in
theorem lk103_wsX2_serviceOf : Cond.fieldLink RX2 29 "QueryGateway$Plan" "services" "[I" ∈ wsX2_serviceOf := by decide +kernel
abbrev rmX2_serviceOf : Room := { frames := 1, cells := 0, slots := 0, locals := 21 }
set_option maxHeartbeats 4000000 in
set_option maxRecDepth 100000 in
theorem c_X2_serviceOf {l : Launch} {D : va_G} {cy : zCy} {w : va_W} {i P g q p1 p2 p3 p4 : Nat} {cn : Int32} {ln kn th : Int32} (hp : w[i]? = some (P, .inr (2, [.ref g, .ref q, .ref p1, .ref p2, .ref p3, .ref p4, .int cn, .int ln, .int kn, .int th]))) {i4 : Nat} {svA : Nat → Int32} (h4 : w[i4]? = some (p4, .inl (cy.1, 12, .inl svA))) {iq a b nn : Nat} {ty : Int32} (hq : w[iq]? = some (q, .inr (3, [.ref a, .ref b, .int ty, .int (nI nn)]))) (hn : nn ≤ 12) {k : Nat} (hk : k < nn) : zR l yX2_serviceOf wsX2_serviceOf rmX2_serviceOf D cy w [.ref P, .int (nI k)] (svA k) := by
  refine zR.of (cc := cX2_serviceOf) (maxL := 2) (ret := (some .int)) (by decide) rfl rfl ?_
  intro p e s m below meth c ls C hP hK hl
  obtain ⟨hx, hb, hr, hml, hts, hown, hlocks⟩ := C
  have hS : va_S zF s.heap s.heap [] := va_S.rf
  have hl : lv_has ls 2 [(0, .ref P), (1, .int (nI k))] := hl
  refine lv_aload_n hx hb dX2_serviceOf_0 rfl (lv_at hl 0 rfl) ?_
  refine va_get (D := D) (ci := 2) (v := .ref q) (C := RX2) (T := TX2) (N := 10) hx hb hts in_wsX2_serviceOf_X2 hown hK.1 hP i hp rfl 1 (by decide) (hts _ lk101_wsX2_serviceOf) (fun _ h9 => h9) rfl dX2_serviceOf_1 ?_
  refine lv_iload_n hx hb dX2_serviceOf_4 rfl (lv_at hl 1 rfl) ?_
  refine z_callV (b := q) (As := [.int (nI k)]) (rest := []) ⟨hx, hb, hml, hown, hts⟩ hK hP hS (c_X3_has_in hq hn hk) (cwV 1 hts gX2_serviceOf_X3_has rfl rfl rfl k_yX3_has ⟨Nat.le_of_ble_eq_true rfl, Nat.le_of_ble_eq_true rfl⟩) iq 3 hq rfl rfl rfl hl.1 rfl rfl dX2_serviceOf_5 ⟨Nat.le_of_ble_eq_true rfl, Nat.le_of_ble_eq_true rfl⟩ (fun H locs hP hS => ?_)
  refine lv_if_eq (tgt := 20) hx hb dX2_serviceOf_8 (by decide) (fun cb1 => ?_) (fun cb1 => ?_)
  · have cb1 : 1 = 0 := zn_eq_t (a := 1) (b := 0) (by omega) (by omega) cb1
    exact absurd cb1 (by decide)
  · have cb1 : ¬ (1 = 0) := zn_eq_f (a := 1) (b := 0) (by omega) (by omega) cb1
    refine lv_aload_n hx hb dX2_serviceOf_11 rfl (lv_at hl 0 rfl) ?_
    refine va_get (D := D) (ci := 2) (v := .ref p4) (C := RX2) (T := TX2) (N := 10) hx hb hts in_wsX2_serviceOf_X2 hown hK.1 hP i hp rfl 5 (by decide) (hts _ lk103_wsX2_serviceOf) (fun _ h9 => h9) rfl dX2_serviceOf_12 ?_
    refine lv_iload_n hx hb dX2_serviceOf_15 rfl (lv_at hl 1 rfl) ?_
    refine z_iald (v := svA k) hx hb hK.1 hP i4 0 h4 rfl (k := k) (by omega) (by decide) rfl dX2_serviceOf_16 ?_
    refine lv_goto (tgt := 21) hx hb dX2_serviceOf_17 (by decide) ?_
    exact z_iret hx hb hr hlocks hS dX2_serviceOf_21 rfl
set_option maxHeartbeats 4000000 in
set_option maxRecDepth 100000 in
theorem c_X2_serviceOf_m1 {l : Launch} {D : va_G} {cy : zCy} {w : va_W} {i P g q p1 p2 p3 p4 : Nat} {cn : Int32} {ln kn th : Int32} (hp : w[i]? = some (P, .inr (2, [.ref g, .ref q, .ref p1, .ref p2, .ref p3, .ref p4, .int cn, .int ln, .int kn, .int th]))) {iq a b nn : Nat} {ty : Int32} (hq : w[iq]? = some (q, .inr (3, [.ref a, .ref b, .int ty, .int (nI nn)]))) (hn : nn ≤ 12) : zR l yX2_serviceOf wsX2_serviceOf rmX2_serviceOf D cy w [.ref P, .int ((-1 : Int32))] (-1) := by
  refine zR.of (cc := cX2_serviceOf) (maxL := 2) (ret := (some .int)) (by decide) rfl rfl ?_
  intro p e s m below meth c ls C hP hK hl
  obtain ⟨hx, hb, hr, hml, hts, hown, hlocks⟩ := C
  have hS : va_S zF s.heap s.heap [] := va_S.rf
  have hl : lv_has ls 2 [(0, .ref P), (1, .int ((-1 : Int32)))] := hl
  refine lv_aload_n hx hb dX2_serviceOf_0 rfl (lv_at hl 0 rfl) ?_
  refine va_get (D := D) (ci := 2) (v := .ref q) (C := RX2) (T := TX2) (N := 10) hx hb hts in_wsX2_serviceOf_X2 hown hK.1 hP i hp rfl 1 (by decide) (hts _ lk101_wsX2_serviceOf) (fun _ h9 => h9) rfl dX2_serviceOf_1 ?_
  refine lv_iload_n hx hb dX2_serviceOf_4 rfl (lv_at hl 1 rfl) ?_
  refine z_callV (b := q) (As := [.int ((-1 : Int32))]) (rest := []) ⟨hx, hb, hml, hown, hts⟩ hK hP hS (c_X3_has_m1 hq hn) (cwV 1 hts gX2_serviceOf_X3_has rfl rfl rfl k_yX3_has ⟨Nat.le_of_ble_eq_true rfl, Nat.le_of_ble_eq_true rfl⟩) iq 3 hq rfl rfl rfl hl.1 rfl rfl dX2_serviceOf_5 ⟨Nat.le_of_ble_eq_true rfl, Nat.le_of_ble_eq_true rfl⟩ (fun H locs hP hS => ?_)
  refine lv_if_eq (tgt := 20) hx hb dX2_serviceOf_8 (by decide) (fun cb1 => ?_) (fun cb1 => ?_)
  · have cb1 : 0 = 0 := zn_eq_t (a := 0) (b := 0) (by omega) (by omega) cb1
    refine lv_iconst (v := (-1 : Int32)) hx hb dX2_serviceOf_20 (by decide) ?_
    exact z_iret hx hb hr hlocks hS dX2_serviceOf_21 rfl
  · have cb1 : ¬ (0 = 0) := zn_eq_f (a := 0) (b := 0) (by omega) (by omega) cb1
    exact absurd cb1 (by decide)
set_option maxRecDepth 20000 in
theorem lk104_wsX2_length : Cond.fieldLink RX2 50 "QueryGateway$Plan" "length" "I" ∈ wsX2_length := by decide +kernel
set_option maxRecDepth 20000 in
theorem in_wsX2_length_X2 : ∀ w ∈ wsX20, w ∈ wsX2_length := by decide +kernel
abbrev rmX2_length : Room := { frames := 0, cells := 0, slots := 0, locals := 0 }
set_option maxHeartbeats 4000000 in
set_option maxRecDepth 100000 in
theorem c_X2_length {l : Launch} {D : va_G} {cy : zCy} {w : va_W} {i P g q p1 p2 p3 p4 : Nat} {cn : Int32} {ln kn th : Int32} (hp : w[i]? = some (P, .inr (2, [.ref g, .ref q, .ref p1, .ref p2, .ref p3, .ref p4, .int cn, .int ln, .int kn, .int th]))) : zR l yX2_length wsX2_length rmX2_length D cy w [.ref P] (ln) := by
  refine zR.of (cc := cX2_length) (maxL := 1) (ret := (some .int)) (by decide) rfl rfl ?_
  intro p e s m below meth c ls C hP hK hl
  obtain ⟨hx, hb, hr, hml, hts, hown, hlocks⟩ := C
  have hS : va_S zF s.heap s.heap [] := va_S.rf
  have hl : lv_has ls 1 [(0, .ref P)] := hl
  refine lv_aload_n hx hb dX2_length_0 rfl (lv_at hl 0 rfl) ?_
  refine va_get (D := D) (ci := 2) (v := .int ln) (C := RX2) (T := TX2) (N := 10) hx hb hts in_wsX2_length_X2 hown hK.1 hP i hp rfl 7 (by decide) (hts _ lk104_wsX2_length) (fun _ h9 => h9) rfl dX2_length_1 ?_
  exact z_iret hx hb hr hlocks hS dX2_length_4 rfl
set_option maxRecDepth 20000 in
theorem lk106_wsX2_forget : Cond.fieldLink RX2 32 "QueryGateway$Plan" "known" "Z" ∈ wsX2_forget := by decide +kernel
set_option maxRecDepth 20000 in
theorem in_wsX2_forget_X2 : ∀ w ∈ wsX20, w ∈ wsX2_forget := by decide +kernel
abbrev rmX2_forget : Room := { frames := 0, cells := 0, slots := 0, locals := 0 }
set_option maxHeartbeats 4000000 in
set_option maxRecDepth 100000 in
theorem c_X2_forget {l : Launch} {D : va_G} {cy : zCy} {P g q p1 p2 p3 p4 : Nat} {cn ln kn th : Int32} : zV (Unit) l yX2_forget wsX2_forget rmX2_forget D cy [(P, .inr (2, [.ref g, .ref q, .ref p1, .ref p2, .ref p3, .ref p4, .int cn, .int ln, .int kn, .int th]))] [.ref P] (fun _ => True) (fun _ => [(P, .inr (2, [.ref g, .ref q, .ref p1, .ref p2, .ref p3, .ref p4, .int cn, .int ln, .int (nI 0), .int th]))]) := by
  refine zV.of (cc := cX2_forget) (maxL := 1) (ret := none) (by decide) rfl rfl ?_
  intro p e s m below meth c ls C hP hK hD hl
  obtain ⟨hx, hb, hr, hml, hts, hown, hlocks⟩ := C
  have hS : va_S (zIn [(P, .inr (2, [.ref g, .ref q, .ref p1, .ref p2, .ref p3, .ref p4, .int cn, .int ln, .int kn, .int th]))]) s.heap s.heap [] := va_S.rf
  have hl : lv_has ls 1 [(0, .ref P)] := hl
  refine lv_aload_n hx hb dX2_forget_0 rfl (lv_at hl 0 rfl) ?_
  refine lv_iconst (v := nI 0) hx hb dX2_forget_1 (by decide) ?_
  refine va_put (D := D) (ci := 2) (v := .int (nI 0)) (ty := .boolean) (C := RX2) (T := TX2) (N := 10) hx hb hts in_wsX2_forget_X2 tyX2 tyX2_ok nmX2 hown hK.1 hP hD hS 0 rfl rfl 8 (by decide) (hts _ lk106_wsX2_forget) (fun _ h9 => h9) rfl (by decide +kernel) (z_narB (by decide)) rfl (Nat.le_of_ble_eq_true rfl) dX2_forget_2 (fun H locs hP hD hS => ?_)
  have hP : va_P D vwCl [(P, .inr (2, [.ref g, .ref q, .ref p1, .ref p2, .ref p3, .ref p4, .int cn, .int ln, .int (nI 0), .int th]))] H := hP
  have hD : va_D (zIn [(P, .inr (2, [.ref g, .ref q, .ref p1, .ref p2, .ref p3, .ref p4, .int cn, .int ln, .int kn, .int th]))]) [(P, .inr (2, [.ref g, .ref q, .ref p1, .ref p2, .ref p3, .ref p4, .int cn, .int ln, .int (nI 0), .int th]))] := hD
  exact z_vret () hx hb hr hlocks hS dX2_forget_5 hP trivial
