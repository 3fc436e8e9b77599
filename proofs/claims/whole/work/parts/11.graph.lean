def zset (b : Bool) (o v : Nat) : Nat := if b then o ||| 2 ^ v else o &&& (15 ^^^ 2 ^ v)
theorem z_or : ∀ o, o < 16 → ∀ v, v < 4 → nI o ||| nI (2 ^ v) = nI (zset true o v) := by decide +kernel
theorem z_andn : ∀ o, o < 16 → ∀ v, v < 4 → nI o &&& (nI (2 ^ v) ^^^ (-1 : Int32)) = nI (zset false o v) := by decide +kernel
theorem z_bitF : ∀ o, o < 16 → ∀ v, v < 4 → nI o &&& nI (2 ^ v) = 0 → o.testBit v = false := by decide +kernel
theorem z_bitT : ∀ o, o < 16 → ∀ v, v < 4 → ¬ nI o &&& nI (2 ^ v) = 0 → o.testBit v = true := by decide +kernel
theorem zset_lt : ∀ b o, o < 16 → ∀ v, v < 4 → zset b o v < 16 := by intro b; cases b <;> decide +kernel
def zup2 (f : Nat → Nat → Int32) (s k : Nat) (v : Int32) : Nat → Nat → Int32 := fun a b => if a = s ∧ b = k then v else f a b
theorem z_up2 (f : Nat → Nat → Int32) {s k : Nat} (v : Int32) (hk : k < 20) (j : Nat) : upd (fun j => f (j / 20) (j % 20)) (s * 20 + k) v j = zup2 f s k v (j / 20) (j % 20) := by
  unfold upd zup2
  by_cases h : j = s * 20 + k
  · rw [if_pos h, if_pos (by omega)]
  · rw [if_neg h, if_neg (by omega)]
set_option maxRecDepth 20000 in
theorem lk22_wsX1_fieldsOf : Cond.initialized RX4 ∈ wsX1_fieldsOf := by decide +kernel
theorem k_yX4_isType : yX4_isType.cls ≠ "java/lang/invoke/MethodHandle" ∧ yX4_isType.cls ≠ "java/lang/invoke/VarHandle" ∧ (parseMethodDescriptor yX4_isType.desc).map (fun d => d.parameters.length) = some 1 := by decide +kernel
set_option maxRecDepth 20000 in
theorem lk24_wsX1_fieldsOf : Cond.static yX4_isType ∈ wsX1_fieldsOf := by decide +kernel
set_option maxRecDepth 20000 in
theorem lk25_wsX1_fieldsOf : Cond.fieldLink RX1 9 "QueryGateway$Graph" "counts" "[I" ∈ wsX1_fieldsOf := by decide +kernel
set_option maxRecDepth 20000 in
theorem in_wsX1_fieldsOf_X1 : ∀ w ∈ wsX10, w ∈ wsX1_fieldsOf := by decide +kernel
abbrev rmX1_fieldsOf : Room := { frames := 1, cells := 0, slots := 0, locals := 20 }
set_option maxHeartbeats 4000000 in
set_option maxRecDepth 100000 in
theorem c_X1_fieldsOf {l : Launch} {D : va_G} {cy : zCy} {w : va_W} {i g a1 a2 a3 a4 a5 : Nat} {fa : Int32} (h : w[i]? = some (g, .inr (1, [.ref a1, .ref a2, .ref a3, .ref a4, .ref a5, .int fa]))) {j : Nat} {fc : Nat → Nat} (ha : w[j]? = some (a1, .inl (cy.1, 4, .inl (fun z => nI (fc z))))) {t : Nat} (ht : t < 4) : zR l yX1_fieldsOf wsX1_fieldsOf rmX1_fieldsOf D cy w [.ref g, .int (nI t)] (nI (fc t)) := by
  refine zR.of (cc := cX1_fieldsOf) (maxL := 2) (ret := (some .int)) (by decide) rfl rfl ?_
  intro p e s m below meth c ls C hP hK hl
  obtain ⟨hx, hb, hr, hml, hts, hown, hlocks⟩ := C
  have hS : va_S zF s.heap s.heap [] := va_S.rf
  have hl : lv_has ls 2 [(0, .ref g), (1, .int (nI t))] := hl
  refine lv_iload_n hx hb dX1_fieldsOf_0 rfl (lv_at hl 1 rfl) ?_
  refine z_callSN (As := [.int (nI t)]) (rest := []) ⟨hx, hb, hml, hown, hts⟩ hK hP hS (c_X4_isType_in (k := t) (by omega)) ⟨va_cnB 1 hts gX1_fieldsOf_X4_isType_n34 rfl rfl rfl hK.2.1 (hts _ lk22_wsX1_fieldsOf) k_yX4_isType ⟨Nat.le_of_ble_eq_true rfl, Nat.le_of_ble_eq_true rfl⟩, hts _ lk24_wsX1_fieldsOf, trivial⟩ rfl hl.1 rfl rfl dX1_fieldsOf_1 ⟨Nat.le_of_ble_eq_true rfl, Nat.le_of_ble_eq_true rfl⟩ (fun H locs hP hS => ?_)
  refine lv_if_eq (tgt := 16) hx hb dX1_fieldsOf_4 (by decide) (fun cb1 => ?_) (fun cb1 => ?_)
  · have cb1 : 1 = 0 := zn_eq_t (a := 1) (b := 0) (by omega) (by omega) cb1
    exact absurd cb1 (by decide)
  · have cb1 : ¬ (1 = 0) := zn_eq_f (a := 1) (b := 0) (by omega) (by omega) cb1
    refine lv_aload_n hx hb dX1_fieldsOf_7 rfl (lv_at hl 0 rfl) ?_
    refine va_get (D := D) (ci := 1) (v := .ref a1) (C := RX1) (T := TX1) (N := 6) hx hb hts in_wsX1_fieldsOf_X1 hown hK.1 hP i h rfl 0 (by decide) (hts _ lk25_wsX1_fieldsOf) (fun _ h9 => h9) rfl dX1_fieldsOf_8 ?_
    refine lv_iload_n hx hb dX1_fieldsOf_11 rfl (lv_at hl 1 rfl) ?_
    refine z_iald (v := nI (fc t)) hx hb hK.1 hP j 0 ha rfl (k := t) (by omega) (by decide) rfl dX1_fieldsOf_12 ?_
    refine lv_goto (tgt := 17) hx hb dX1_fieldsOf_13 (by decide) ?_
    exact z_iret hx hb hr hlocks hS dX1_fieldsOf_17 rfl
set_option maxRecDepth 20000 in
theorem lk27_wsX1_leadsOf : Cond.initialized RX4 ∈ wsX1_leadsOf := by decide +kernel
theorem k_yX4_isSlot : yX4_isSlot.cls ≠ "java/lang/invoke/MethodHandle" ∧ yX4_isSlot.cls ≠ "java/lang/invoke/VarHandle" ∧ (parseMethodDescriptor yX4_isSlot.desc).map (fun d => d.parameters.length) = some 1 := by decide +kernel
set_option maxRecDepth 20000 in
theorem lk29_wsX1_leadsOf : Cond.static yX4_isSlot ∈ wsX1_leadsOf := by decide +kernel
set_option maxRecDepth 20000 in
theorem lk30_wsX1_leadsOf : Cond.fieldLink RX1 15 "QueryGateway$Graph" "leads" "[I" ∈ wsX1_leadsOf := by decide +kernel
set_option maxRecDepth 20000 in
theorem in_wsX1_leadsOf_X1 : ∀ w ∈ wsX10, w ∈ wsX1_leadsOf := by decide +kernel
abbrev rmX1_leadsOf : Room := { frames := 1, cells := 0, slots := 0, locals := 20 }
set_option maxHeartbeats 4000000 in
set_option maxRecDepth 100000 in
theorem c_X1_leadsOf {l : Launch} {D : va_G} {cy : zCy} {w : va_W} {i g a1 a2 a3 a4 a5 : Nat} {fa : Int32} (h : w[i]? = some (g, .inr (1, [.ref a1, .ref a2, .ref a3, .ref a4, .ref a5, .int fa]))) {j : Nat} {ld : Nat → Int32} (ha : w[j]? = some (a2, .inl (cy.1, 32, .inl ld))) {t : Nat} (ht : t < 32) : zR l yX1_leadsOf wsX1_leadsOf rmX1_leadsOf D cy w [.ref g, .int (nI t)] (ld t) := by
  refine zR.of (cc := cX1_leadsOf) (maxL := 2) (ret := (some .int)) (by decide) rfl rfl ?_
  intro p e s m below meth c ls C hP hK hl
  obtain ⟨hx, hb, hr, hml, hts, hown, hlocks⟩ := C
  have hS : va_S zF s.heap s.heap [] := va_S.rf
  have hl : lv_has ls 2 [(0, .ref g), (1, .int (nI t))] := hl
  refine lv_iload_n hx hb dX1_leadsOf_0 rfl (lv_at hl 1 rfl) ?_
  refine z_callSN (As := [.int (nI t)]) (rest := []) ⟨hx, hb, hml, hown, hts⟩ hK hP hS (c_X4_isSlot_in (k := t) (by omega)) ⟨va_cnB 1 hts gX1_leadsOf_X4_isSlot_n46 rfl rfl rfl hK.2.2.2.1 (hts _ lk27_wsX1_leadsOf) k_yX4_isSlot ⟨Nat.le_of_ble_eq_true rfl, Nat.le_of_ble_eq_true rfl⟩, hts _ lk29_wsX1_leadsOf, trivial⟩ rfl hl.1 rfl rfl dX1_leadsOf_1 ⟨Nat.le_of_ble_eq_true rfl, Nat.le_of_ble_eq_true rfl⟩ (fun H locs hP hS => ?_)
  refine lv_if_eq (tgt := 16) hx hb dX1_leadsOf_4 (by decide) (fun cb1 => ?_) (fun cb1 => ?_)
  · have cb1 : 1 = 0 := zn_eq_t (a := 1) (b := 0) (by omega) (by omega) cb1
    exact absurd cb1 (by decide)
  · have cb1 : ¬ (1 = 0) := zn_eq_f (a := 1) (b := 0) (by omega) (by omega) cb1
    refine lv_aload_n hx hb dX1_leadsOf_7 rfl (lv_at hl 0 rfl) ?_
    refine va_get (D := D) (ci := 1) (v := .ref a2) (C := RX1) (T := TX1) (N := 6) hx hb hts in_wsX1_leadsOf_X1 hown hK.1 hP i h rfl 1 (by decide) (hts _ lk30_wsX1_leadsOf) (fun _ h9 => h9) rfl dX1_leadsOf_8 ?_
    refine lv_iload_n hx hb dX1_leadsOf_11 rfl (lv_at hl 1 rfl) ?_
    refine z_iald (v := ld t) hx hb hK.1 hP j 0 ha rfl (k := t) (by omega) (by decide) rfl dX1_leadsOf_12 ?_
    refine lv_goto (tgt := 17) hx hb dX1_leadsOf_13 (by decide) ?_
    exact z_iret hx hb hr hlocks hS dX1_leadsOf_17 rfl
set_option maxRecDepth 20000 in
theorem lk32_wsX1_ownersOf : Cond.initialized RX4 ∈ wsX1_ownersOf := by decide +kernel
set_option maxRecDepth 20000 in
theorem lk33_wsX1_ownersOf : Cond.static yX4_isSlot ∈ wsX1_ownersOf := by decide +kernel
set_option maxRecDepth 20000 in
theorem lk34_wsX1_ownersOf : Cond.fieldLink RX1 22 "QueryGateway$Graph" "owners" "[I" ∈ wsX1_ownersOf := by decide +kernel
set_option maxRecDepth 20000 in
theorem in_wsX1_ownersOf_X1 : ∀ w ∈ wsX10, w ∈ wsX1_ownersOf := by decide +kernel
abbrev rmX1_ownersOf : Room := { frames := 1, cells := 0, slots := 0, locals := 20 }
set_option maxHeartbeats 4000000 in
set_option maxRecDepth 100000 in
theorem c_X1_ownersOf {l : Launch} {D : va_G} {cy : zCy} {w : va_W} {i g a1 a2 a3 a4 a5 : Nat} {fa : Int32} (h : w[i]? = some (g, .inr (1, [.ref a1, .ref a2, .ref a3, .ref a4, .ref a5, .int fa]))) {j : Nat} {ow : Nat → Nat} (ha : w[j]? = some (a4, .inl (cy.1, 32, .inl (fun z => nI (ow z))))) {t : Nat} (ht : t < 32) : zR l yX1_ownersOf wsX1_ownersOf rmX1_ownersOf D cy w [.ref g, .int (nI t)] (nI (ow t)) := by
  refine zR.of (cc := cX1_ownersOf) (maxL := 2) (ret := (some .int)) (by decide) rfl rfl ?_
  intro p e s m below meth c ls C hP hK hl
  obtain ⟨hx, hb, hr, hml, hts, hown, hlocks⟩ := C
  have hS : va_S zF s.heap s.heap [] := va_S.rf
  have hl : lv_has ls 2 [(0, .ref g), (1, .int (nI t))] := hl
  refine lv_iload_n hx hb dX1_ownersOf_0 rfl (lv_at hl 1 rfl) ?_
  refine z_callSN (As := [.int (nI t)]) (rest := []) ⟨hx, hb, hml, hown, hts⟩ hK hP hS (c_X4_isSlot_in (k := t) (by omega)) ⟨va_cnB 1 hts gX1_ownersOf_X4_isSlot_n46 rfl rfl rfl hK.2.2.2.1 (hts _ lk32_wsX1_ownersOf) k_yX4_isSlot ⟨Nat.le_of_ble_eq_true rfl, Nat.le_of_ble_eq_true rfl⟩, hts _ lk33_wsX1_ownersOf, trivial⟩ rfl hl.1 rfl rfl dX1_ownersOf_1 ⟨Nat.le_of_ble_eq_true rfl, Nat.le_of_ble_eq_true rfl⟩ (fun H locs hP hS => ?_)
  refine lv_if_eq (tgt := 16) hx hb dX1_ownersOf_4 (by decide) (fun cb1 => ?_) (fun cb1 => ?_)
  · have cb1 : 1 = 0 := zn_eq_t (a := 1) (b := 0) (by omega) (by omega) cb1
    exact absurd cb1 (by decide)
  · have cb1 : ¬ (1 = 0) := zn_eq_f (a := 1) (b := 0) (by omega) (by omega) cb1
    refine lv_aload_n hx hb dX1_ownersOf_7 rfl (lv_at hl 0 rfl) ?_
    refine va_get (D := D) (ci := 1) (v := .ref a4) (C := RX1) (T := TX1) (N := 6) hx hb hts in_wsX1_ownersOf_X1 hown hK.1 hP i h rfl 3 (by decide) (hts _ lk34_wsX1_ownersOf) (fun _ h9 => h9) rfl dX1_ownersOf_8 ?_
    refine lv_iload_n hx hb dX1_ownersOf_11 rfl (lv_at hl 1 rfl) ?_
    refine z_iald (v := nI (ow t)) hx hb hK.1 hP j 0 ha rfl (k := t) (by omega) (by decide) rfl dX1_ownersOf_12 ?_
    refine lv_goto (tgt := 17) hx hb dX1_ownersOf_13 (by decide) ?_
    exact z_iret hx hb hr hlocks hS dX1_ownersOf_17 rfl
set_option maxRecDepth 20000 in
theorem lk36_wsX1_isRequired : Cond.initialized RX4 ∈ wsX1_isRequired := by decide +kernel
set_option maxRecDepth 20000 in
theorem lk37_wsX1_isRequired : Cond.static yX4_isSlot ∈ wsX1_isRequired := by decide +kernel
set_option maxRecDepth 20000 in
theorem lk38_wsX1_isRequired : Cond.fieldLink RX1 18 "QueryGateway$Graph" "required" "[Z" ∈ wsX1_isRequired := by decide +kernel
set_option maxRecDepth 20000 in
theorem in_wsX1_isRequired_X1 : ∀ w ∈ wsX10, w ∈ wsX1_isRequired := by decide +kernel
abbrev rmX1_isRequired : Room := { frames := 1, cells := 0, slots := 0, locals := 20 }
set_option maxHeartbeats 4000000 in
set_option maxRecDepth 100000 in
theorem c_X1_isRequired {l : Launch} {D : va_G} {cy : zCy} {w : va_W} {i g a1 a2 a3 a4 a5 : Nat} {fa : Int32} (h : w[i]? = some (g, .inr (1, [.ref a1, .ref a2, .ref a3, .ref a4, .ref a5, .int fa]))) {j : Nat} {rq : Nat → Bool} (ha : w[j]? = some (a3, .inl (cy.2.1, 32, .inl (fun z => bI (rq z))))) {t : Nat} (ht : t < 32) : zR l yX1_isRequired wsX1_isRequired rmX1_isRequired D cy w [.ref g, .int (nI t)] (bI (rq t)) := by
  refine zR.of (cc := cX1_isRequired) (maxL := 2) (ret := (some .boolean)) (by decide) rfl rfl ?_
  intro p e s m below meth c ls C hP hK hl
  obtain ⟨hx, hb, hr, hml, hts, hown, hlocks⟩ := C
  have hS : va_S zF s.heap s.heap [] := va_S.rf
  have hl : lv_has ls 2 [(0, .ref g), (1, .int (nI t))] := hl
  refine lv_iload_n hx hb dX1_isRequired_0 rfl (lv_at hl 1 rfl) ?_
  refine z_callSN (As := [.int (nI t)]) (rest := []) ⟨hx, hb, hml, hown, hts⟩ hK hP hS (c_X4_isSlot_in (k := t) (by omega)) ⟨va_cnB 1 hts gX1_isRequired_X4_isSlot_n46 rfl rfl rfl hK.2.2.2.1 (hts _ lk36_wsX1_isRequired) k_yX4_isSlot ⟨Nat.le_of_ble_eq_true rfl, Nat.le_of_ble_eq_true rfl⟩, hts _ lk37_wsX1_isRequired, trivial⟩ rfl hl.1 rfl rfl dX1_isRequired_1 ⟨Nat.le_of_ble_eq_true rfl, Nat.le_of_ble_eq_true rfl⟩ (fun H locs hP hS => ?_)
  refine lv_if_eq (tgt := 20) hx hb dX1_isRequired_4 (by decide) (fun cb1 => ?_) (fun cb1 => ?_)
  · have cb1 : 1 = 0 := zn_eq_t (a := 1) (b := 0) (by omega) (by omega) cb1
    exact absurd cb1 (by decide)
  · have cb1 : ¬ (1 = 0) := zn_eq_f (a := 1) (b := 0) (by omega) (by omega) cb1
    refine lv_aload_n hx hb dX1_isRequired_7 rfl (lv_at hl 0 rfl) ?_
    refine va_get (D := D) (ci := 1) (v := .ref a3) (C := RX1) (T := TX1) (N := 6) hx hb hts in_wsX1_isRequired_X1 hown hK.1 hP i h rfl 2 (by decide) (hts _ lk38_wsX1_isRequired) (fun _ h9 => h9) rfl dX1_isRequired_8 ?_
    refine lv_iload_n hx hb dX1_isRequired_11 rfl (lv_at hl 1 rfl) ?_
    refine z_zald (v := bI (rq t)) hx hb hK.1 hP j 1 ha rfl (k := t) (by omega) (by decide) rfl dX1_isRequired_12 ?_
    refine lv_if_eq (tgt := 20) hx hb dX1_isRequired_13 (by decide) (fun cb2 => ?_) (fun cb2 => ?_)
    · have cb2 : (rq t) = false := bI_t0 cb2
      refine lv_iconst (v := nI 0) hx hb dX1_isRequired_20 (by decide) ?_
      exact z_zret hx hb hr hlocks hS dX1_isRequired_21 (by rw [cb2]; rfl) (by decide)
    · have cb2 : (rq t) = true := bI_f0 cb2
      refine lv_iconst (v := nI 1) hx hb dX1_isRequired_16 (by decide) ?_
      refine lv_goto (tgt := 21) hx hb dX1_isRequired_17 (by decide) ?_
      exact z_zret hx hb hr hlocks hS dX1_isRequired_21 (by rw [cb2]; rfl) (by decide)
theorem k_yX1_leadsOf : yX1_leadsOf.cls = RX1 ∧ yX1_leadsOf.cls ≠ "java/lang/invoke/MethodHandle" ∧ yX1_leadsOf.cls ≠ "java/lang/invoke/VarHandle" ∧ (parseMethodDescriptor yX1_leadsOf.desc).map (fun d => d.parameters.length) = some 1 := by decide +kernel
abbrev rmX1_takes : Room := { frames := 2, cells := 0, slots := 0, locals := 41 }
set_option maxHeartbeats 4000000 in
set_option maxRecDepth 100000 in
theorem c_X1_takes {l : Launch} {D : va_G} {cy : zCy} {w : va_W} {i g a1 a2 a3 a4 a5 : Nat} {fa : Int32} (h : w[i]? = some (g, .inr (1, [.ref a1, .ref a2, .ref a3, .ref a4, .ref a5, .int fa]))) {j : Nat} {ld : Nat → Int32} (ha : w[j]? = some (a2, .inl (cy.1, 32, .inl ld))) {t : Nat} (ht : t < 32) (x : Int32) : zR l yX1_takes wsX1_takes rmX1_takes D cy w [.ref g, .int (nI t), .int x] (bI (decide (x = -1 ∨ inN (if ld t = -1 then 100 else 20) x))) := by
  refine zR.of (cc := cX1_takes) (maxL := 4) (ret := (some .boolean)) (by decide) rfl rfl ?_
  intro p e s m below meth c ls C hP hK hl
  obtain ⟨hx, hb, hr, hml, hts, hown, hlocks⟩ := C
  have hS : va_S zF s.heap s.heap [] := va_S.rf
  have hl : lv_has ls 4 [(0, .ref g), (1, .int (nI t)), (2, .int x)] := hl
  refine lv_aload_n hx hb dX1_takes_0 rfl (lv_at hl 0 rfl) ?_
  refine lv_iload_n hx hb dX1_takes_1 rfl (lv_at hl 1 rfl) ?_
  refine z_callV (b := g) (As := [.int (nI t)]) (rest := []) ⟨hx, hb, hml, hown, hts⟩ hK hP hS (c_X1_leadsOf h ha ht) (cwV 1 hts gX1_takes_X1_leadsOf rfl rfl rfl k_yX1_leadsOf ⟨Nat.le_of_ble_eq_true rfl, Nat.le_of_ble_eq_true rfl⟩) i 1 h rfl rfl rfl hl.1 rfl rfl dX1_takes_2 ⟨Nat.le_of_ble_eq_true rfl, Nat.le_of_ble_eq_true rfl⟩ (fun H locs hP hS => ?_)
  refine lv_iconst (v := (-1 : Int32)) hx hb dX1_takes_5 (by decide) ?_
  refine lv_icmp_ne (tgt := 14) hx hb dX1_takes_6 (by decide) (fun cb1 => ?_) (fun cb1 => ?_)
  · skip
    refine lv_bipush (v := nI 20) hx hb dX1_takes_14 (by decide) ?_
    refine lv_istore_n (lv' := [(3, .int (nI 20)), (0, .ref g), (1, .int (nI t)), (2, .int x)]) hx hb dX1_takes_16 rfl hl (by decide) rfl (fun ls hl => ?_)
    refine lv_iload_n hx hb dX1_takes_17 rfl (lv_at hl 3 rfl) ?_
    refine lv_iconst (v := (-1 : Int32)) hx hb dX1_takes_18 (by decide) ?_
    refine lv_icmp_eq (tgt := 31) hx hb dX1_takes_19 (by decide) (fun cb2 => ?_) (fun cb2 => ?_)
    · skip
      refine lv_iconst (v := nI 1) hx hb dX1_takes_31 (by decide) ?_
      refine lv_goto (tgt := 36) hx hb dX1_takes_32 (by decide) ?_
      exact z_zret hx hb hr hlocks hS dX1_takes_36 (bI_yes (by exact Or.inl cb2)) (by decide)
    · skip
      refine lv_iload_n hx hb dX1_takes_22 rfl (lv_at hl 3 rfl) ?_
      refine lv_if_lt (tgt := 35) hx hb dX1_takes_23 (by decide) (fun cb3 => ?_) (fun cb3 => ?_)
      · have cb3 : (x).toInt < ((0 : Nat) : Int) := ziIN_lt_t (b := 0) (by omega) cb3
        refine lv_iconst (v := nI 0) hx hb dX1_takes_35 (by decide) ?_
        exact z_zret hx hb hr hlocks hS dX1_takes_36 (bI_no (by rw [if_neg cb1]; exact fun hh => hh.elim (fun z => absurd z cb2) (fun z => by unfold inN at z; omega))) (by decide)
      · have cb3 : ¬ ((x).toInt < ((0 : Nat) : Int)) := ziIN_lt_f (b := 0) (by omega) cb3
        refine lv_iload_n hx hb dX1_takes_26 rfl (lv_at hl 3 rfl) ?_
        refine lv_iload_n hx hb dX1_takes_27 rfl (lv_at hl 0 rfl) ?_
        refine lv_icmp_ge (tgt := 35) hx hb dX1_takes_28 (by decide) (fun cb4 => ?_) (fun cb4 => ?_)
        · have cb4 : ((20 : Nat) : Int) ≤ (x).toInt := ziNI_le_t (a := 20) (by omega) cb4
          refine lv_iconst (v := nI 0) hx hb dX1_takes_35 (by decide) ?_
          exact z_zret hx hb hr hlocks hS dX1_takes_36 (bI_no (by rw [if_neg cb1]; exact fun hh => hh.elim (fun z => absurd z cb2) (fun z => by unfold inN at z; omega))) (by decide)
        · have cb4 : ¬ (((20 : Nat) : Int) ≤ (x).toInt) := ziNI_le_f (a := 20) (by omega) cb4
          refine lv_iconst (v := nI 1) hx hb dX1_takes_31 (by decide) ?_
          refine lv_goto (tgt := 36) hx hb dX1_takes_32 (by decide) ?_
          exact z_zret hx hb hr hlocks hS dX1_takes_36 (bI_yes (by rw [if_neg cb1]; exact Or.inr (by unfold inN; omega))) (by decide)
  · skip
    refine lv_bipush (v := nI 100) hx hb dX1_takes_9 (by decide) ?_
    refine lv_goto (tgt := 16) hx hb dX1_takes_11 (by decide) ?_
    refine lv_istore_n (lv' := [(3, .int (nI 100)), (0, .ref g), (1, .int (nI t)), (2, .int x)]) hx hb dX1_takes_16 rfl hl (by decide) rfl (fun ls hl => ?_)
    refine lv_iload_n hx hb dX1_takes_17 rfl (lv_at hl 3 rfl) ?_
    refine lv_iconst (v := (-1 : Int32)) hx hb dX1_takes_18 (by decide) ?_
    refine lv_icmp_eq (tgt := 31) hx hb dX1_takes_19 (by decide) (fun cb5 => ?_) (fun cb5 => ?_)
    · skip
      refine lv_iconst (v := nI 1) hx hb dX1_takes_31 (by decide) ?_
      refine lv_goto (tgt := 36) hx hb dX1_takes_32 (by decide) ?_
      exact z_zret hx hb hr hlocks hS dX1_takes_36 (bI_yes (by exact Or.inl cb5)) (by decide)
    · skip
      refine lv_iload_n hx hb dX1_takes_22 rfl (lv_at hl 3 rfl) ?_
      refine lv_if_lt (tgt := 35) hx hb dX1_takes_23 (by decide) (fun cb6 => ?_) (fun cb6 => ?_)
      · have cb6 : (x).toInt < ((0 : Nat) : Int) := ziIN_lt_t (b := 0) (by omega) cb6
        refine lv_iconst (v := nI 0) hx hb dX1_takes_35 (by decide) ?_
        exact z_zret hx hb hr hlocks hS dX1_takes_36 (bI_no (by rw [if_pos cb1]; exact fun hh => hh.elim (fun z => absurd z cb5) (fun z => by unfold inN at z; omega))) (by decide)
      · have cb6 : ¬ ((x).toInt < ((0 : Nat) : Int)) := ziIN_lt_f (b := 0) (by omega) cb6
        refine lv_iload_n hx hb dX1_takes_26 rfl (lv_at hl 3 rfl) ?_
        refine lv_iload_n hx hb dX1_takes_27 rfl (lv_at hl 0 rfl) ?_
        refine lv_icmp_ge (tgt := 35) hx hb dX1_takes_28 (by decide) (fun cb7 => ?_) (fun cb7 => ?_)
        · have cb7 : ((100 : Nat) : Int) ≤ (x).toInt := ziNI_le_t (a := 100) (by omega) cb7
          refine lv_iconst (v := nI 0) hx hb dX1_takes_35 (by decide) ?_
          exact z_zret hx hb hr hlocks hS dX1_takes_36 (bI_no (by rw [if_pos cb1]; exact fun hh => hh.elim (fun z => absurd z cb5) (fun z => by unfold inN at z; omega))) (by decide)
        · have cb7 : ¬ (((100 : Nat) : Int) ≤ (x).toInt) := ziNI_le_f (a := 100) (by omega) cb7
          refine lv_iconst (v := nI 1) hx hb dX1_takes_31 (by decide) ?_
          refine lv_goto (tgt := 36) hx hb dX1_takes_32 (by decide) ?_
          exact z_zret hx hb hr hlocks hS dX1_takes_36 (bI_yes (by rw [if_pos cb1]; exact Or.inr (by unfold inN; omega))) (by decide)
set_option maxRecDepth 20000 in
theorem lk41_wsX1_valueOf : Cond.initialized RX4 ∈ wsX1_valueOf := by decide +kernel
set_option maxRecDepth 20000 in
theorem lk42_wsX1_valueOf : Cond.static yX4_isSlot ∈ wsX1_valueOf := by decide +kernel
theorem k_yX4_isKey : yX4_isKey.cls ≠ "java/lang/invoke/MethodHandle" ∧ yX4_isKey.cls ≠ "java/lang/invoke/VarHandle" ∧ (parseMethodDescriptor yX4_isKey.desc).map (fun d => d.parameters.length) = some 1 := by decide +kernel
set_option maxRecDepth 20000 in
theorem lk44_wsX1_valueOf : Cond.static yX4_isKey ∈ wsX1_valueOf := by decide +kernel
set_option maxRecDepth 20000 in
theorem lk45_wsX1_valueOf : Cond.fieldLink RX1 25 "QueryGateway$Graph" "values" "[I" ∈ wsX1_valueOf := by decide +kernel
set_option maxRecDepth 20000 in
theorem in_wsX1_valueOf_X1 : ∀ w ∈ wsX10, w ∈ wsX1_valueOf := by decide +kernel
abbrev rmX1_valueOf : Room := { frames := 1, cells := 0, slots := 0, locals := 20 }
set_option maxHeartbeats 4000000 in
set_option maxRecDepth 100000 in
theorem c_X1_valueOf {l : Launch} {D : va_G} {cy : zCy} {w : va_W} {i g a1 a2 a3 a4 a5 : Nat} {fa : Int32} (h : w[i]? = some (g, .inr (1, [.ref a1, .ref a2, .ref a3, .ref a4, .ref a5, .int fa]))) {j : Nat} {vl : Nat → Nat → Int32} (ha : w[j]? = some (a5, .inl (cy.1, 640, .inl (fun z => vl (z / 20) (z % 20))))) {t k : Nat} (ht : t < 32) (hk : k < 20) : zR l yX1_valueOf wsX1_valueOf rmX1_valueOf D cy w [.ref g, .int (nI t), .int (nI k)] (vl t k) := by
  refine zR.of (cc := cX1_valueOf) (maxL := 3) (ret := (some .int)) (by decide) rfl rfl ?_
  intro p e s m below meth c ls C hP hK hl
  obtain ⟨hx, hb, hr, hml, hts, hown, hlocks⟩ := C
  have hS : va_S zF s.heap s.heap [] := va_S.rf
  have hl : lv_has ls 3 [(0, .ref g), (1, .int (nI t)), (2, .int (nI k))] := hl
  refine lv_iload_n hx hb dX1_valueOf_0 rfl (lv_at hl 1 rfl) ?_
  refine z_callSN (As := [.int (nI t)]) (rest := []) ⟨hx, hb, hml, hown, hts⟩ hK hP hS (c_X4_isSlot_in (k := t) (by omega)) ⟨va_cnB 1 hts gX1_valueOf_X4_isSlot_n46 rfl rfl rfl hK.2.2.2.1 (hts _ lk41_wsX1_valueOf) k_yX4_isSlot ⟨Nat.le_of_ble_eq_true rfl, Nat.le_of_ble_eq_true rfl⟩, hts _ lk42_wsX1_valueOf, trivial⟩ rfl hl.1 rfl rfl dX1_valueOf_1 ⟨Nat.le_of_ble_eq_true rfl, Nat.le_of_ble_eq_true rfl⟩ (fun H locs hP hS => ?_)
  refine lv_if_eq (tgt := 28) hx hb dX1_valueOf_4 (by decide) (fun cb1 => ?_) (fun cb1 => ?_)
  · have cb1 : 1 = 0 := zn_eq_t (a := 1) (b := 0) (by omega) (by omega) cb1
    exact absurd cb1 (by decide)
  · have cb1 : ¬ (1 = 0) := zn_eq_f (a := 1) (b := 0) (by omega) (by omega) cb1
    refine lv_iload_n hx hb dX1_valueOf_7 rfl (lv_at hl 2 rfl) ?_
    refine z_callSN (As := [.int (nI k)]) (rest := []) ⟨hx, hb, hml, hown, hts⟩ hK hP hS (c_X4_isKey_in (k := k) (by omega)) ⟨va_cnB 1 hts gX1_valueOf_X4_isKey_n55 rfl rfl rfl hK.2.2.2.2.2.1 (hts _ lk41_wsX1_valueOf) k_yX4_isKey ⟨Nat.le_of_ble_eq_true rfl, Nat.le_of_ble_eq_true rfl⟩, hts _ lk44_wsX1_valueOf, trivial⟩ rfl hl.1 rfl rfl dX1_valueOf_8 ⟨Nat.le_of_ble_eq_true rfl, Nat.le_of_ble_eq_true rfl⟩ (fun H locs hP hS => ?_)
    refine lv_if_eq (tgt := 28) hx hb dX1_valueOf_11 (by decide) (fun cb2 => ?_) (fun cb2 => ?_)
    · have cb2 : 1 = 0 := zn_eq_t (a := 1) (b := 0) (by omega) (by omega) cb2
      exact absurd cb2 (by decide)
    · have cb2 : ¬ (1 = 0) := zn_eq_f (a := 1) (b := 0) (by omega) (by omega) cb2
      refine lv_aload_n hx hb dX1_valueOf_14 rfl (lv_at hl 0 rfl) ?_
      refine va_get (D := D) (ci := 1) (v := .ref a5) (C := RX1) (T := TX1) (N := 6) hx hb hts in_wsX1_valueOf_X1 hown hK.1 hP i h rfl 4 (by decide) (hts _ lk45_wsX1_valueOf) (fun _ h9 => h9) rfl dX1_valueOf_15 ?_
      refine lv_iload_n hx hb dX1_valueOf_18 rfl (lv_at hl 1 rfl) ?_
      refine lv_bipush (v := nI 20) hx hb dX1_valueOf_19 (by decide) ?_
      refine lv_imul hx hb dX1_valueOf_21 ?_
      refine z_top (y := nI (t * 20)) (pk_mul _ _) ?_
      refine lv_iload_n hx hb dX1_valueOf_22 rfl (lv_at hl 2 rfl) ?_
      refine lv_iadd hx hb dX1_valueOf_23 ?_
      refine z_top (y := nI ((t * 20) + k)) (nI_add _ _) ?_
      refine z_iald (v := (vl t k)) hx hb hK.1 hP j 0 ha rfl (k := (t * 20) + k) (by omega) (by decide) (by show vl ((t * 20 + k) / 20) ((t * 20 + k) % 20) = vl t k; rw [show (t * 20 + k) / 20 = t by omega, show (t * 20 + k) % 20 = k by omega]) dX1_valueOf_24 ?_
      refine lv_goto (tgt := 29) hx hb dX1_valueOf_25 (by decide) ?_
      exact z_iret hx hb hr hlocks hS dX1_valueOf_29 rfl
set_option maxHeartbeats 4000000 in
set_option maxRecDepth 100000 in
theorem c_X1_valueOf_m1 {l : Launch} {D : va_G} {cy : zCy} {w : va_W} {i g a1 a2 a3 a4 a5 : Nat} {fa : Int32} (h : w[i]? = some (g, .inr (1, [.ref a1, .ref a2, .ref a3, .ref a4, .ref a5, .int fa]))) {t : Nat} (ht : t < 32) : zR l yX1_valueOf wsX1_valueOf rmX1_valueOf D cy w [.ref g, .int (nI t), .int ((-1 : Int32))] (-1) := by
  refine zR.of (cc := cX1_valueOf) (maxL := 3) (ret := (some .int)) (by decide) rfl rfl ?_
  intro p e s m below meth c ls C hP hK hl
  obtain ⟨hx, hb, hr, hml, hts, hown, hlocks⟩ := C
  have hS : va_S zF s.heap s.heap [] := va_S.rf
  have hl : lv_has ls 3 [(0, .ref g), (1, .int (nI t)), (2, .int ((-1 : Int32)))] := hl
  refine lv_iload_n hx hb dX1_valueOf_0 rfl (lv_at hl 1 rfl) ?_
  refine z_callSN (As := [.int (nI t)]) (rest := []) ⟨hx, hb, hml, hown, hts⟩ hK hP hS (c_X4_isSlot_in (k := t) (by omega)) ⟨va_cnB 1 hts gX1_valueOf_X4_isSlot_n46 rfl rfl rfl hK.2.2.2.1 (hts _ lk41_wsX1_valueOf) k_yX4_isSlot ⟨Nat.le_of_ble_eq_true rfl, Nat.le_of_ble_eq_true rfl⟩, hts _ lk42_wsX1_valueOf, trivial⟩ rfl hl.1 rfl rfl dX1_valueOf_1 ⟨Nat.le_of_ble_eq_true rfl, Nat.le_of_ble_eq_true rfl⟩ (fun H locs hP hS => ?_)
  refine lv_if_eq (tgt := 28) hx hb dX1_valueOf_4 (by decide) (fun cb1 => ?_) (fun cb1 => ?_)
  · have cb1 : 1 = 0 := zn_eq_t (a := 1) (b := 0) (by omega) (by omega) cb1
    exact absurd cb1 (by decide)
  · have cb1 : ¬ (1 = 0) := zn_eq_f (a := 1) (b := 0) (by omega) (by omega) cb1
    refine lv_iload_n hx hb dX1_valueOf_7 rfl (lv_at hl 2 rfl) ?_
    refine z_callSN (As := [.int ((-1 : Int32))]) (rest := []) ⟨hx, hb, hml, hown, hts⟩ hK hP hS (c_X4_isKey_m1) ⟨va_cnB 1 hts gX1_valueOf_X4_isKey_n55 rfl rfl rfl hK.2.2.2.2.2.1 (hts _ lk41_wsX1_valueOf) k_yX4_isKey ⟨Nat.le_of_ble_eq_true rfl, Nat.le_of_ble_eq_true rfl⟩, hts _ lk44_wsX1_valueOf, trivial⟩ rfl hl.1 rfl rfl dX1_valueOf_8 ⟨Nat.le_of_ble_eq_true rfl, Nat.le_of_ble_eq_true rfl⟩ (fun H locs hP hS => ?_)
    refine lv_if_eq (tgt := 28) hx hb dX1_valueOf_11 (by decide) (fun cb2 => ?_) (fun cb2 => ?_)
    · have cb2 : 0 = 0 := zn_eq_t (a := 0) (b := 0) (by omega) (by omega) cb2
      refine lv_iconst (v := (-1 : Int32)) hx hb dX1_valueOf_28 (by decide) ?_
      exact z_iret hx hb hr hlocks hS dX1_valueOf_29 rfl
    · have cb2 : ¬ (0 = 0) := zn_eq_f (a := 0) (b := 0) (by omega) (by omega) cb2
      exact absurd cb2 (by decide)
set_option maxRecDepth 20000 in
theorem lk47_wsX1_failures : Cond.fieldLink RX1 61 "QueryGateway$Graph" "failed" "I" ∈ wsX1_failures := by decide +kernel
set_option maxRecDepth 20000 in
theorem in_wsX1_failures_X1 : ∀ w ∈ wsX10, w ∈ wsX1_failures := by decide +kernel
abbrev rmX1_failures : Room := { frames := 0, cells := 0, slots := 0, locals := 0 }
set_option maxHeartbeats 4000000 in
set_option maxRecDepth 100000 in
theorem c_X1_failures {l : Launch} {D : va_G} {cy : zCy} {w : va_W} {i g a1 a2 a3 a4 a5 : Nat} {fa : Int32} (h : w[i]? = some (g, .inr (1, [.ref a1, .ref a2, .ref a3, .ref a4, .ref a5, .int fa]))) : zR l yX1_failures wsX1_failures rmX1_failures D cy w [.ref g] (fa) := by
  refine zR.of (cc := cX1_failures) (maxL := 1) (ret := (some .int)) (by decide) rfl rfl ?_
  intro p e s m below meth c ls C hP hK hl
  obtain ⟨hx, hb, hr, hml, hts, hown, hlocks⟩ := C
  have hS : va_S zF s.heap s.heap [] := va_S.rf
  have hl : lv_has ls 1 [(0, .ref g)] := hl
  refine lv_aload_n hx hb dX1_failures_0 rfl (lv_at hl 0 rfl) ?_
  refine va_get (D := D) (ci := 1) (v := .int fa) (C := RX1) (T := TX1) (N := 6) hx hb hts in_wsX1_failures_X1 hown hK.1 hP i h rfl 5 (by decide) (hts _ lk47_wsX1_failures) (fun _ h9 => h9) rfl dX1_failures_1 ?_
  exact z_iret hx hb hr hlocks hS dX1_failures_4 rfl
theorem k_yX1_fieldsOf : yX1_fieldsOf.cls = RX1 ∧ yX1_fieldsOf.cls ≠ "java/lang/invoke/MethodHandle" ∧ yX1_fieldsOf.cls ≠ "java/lang/invoke/VarHandle" ∧ (parseMethodDescriptor yX1_fieldsOf.desc).map (fun d => d.parameters.length) = some 1 := by decide +kernel
set_option maxRecDepth 20000 in
theorem lk50_wsX1_append : Cond.initialized RX4 ∈ wsX1_append := by decide +kernel
theorem k_yX4_slotOf : yX4_slotOf.cls ≠ "java/lang/invoke/MethodHandle" ∧ yX4_slotOf.cls ≠ "java/lang/invoke/VarHandle" ∧ (parseMethodDescriptor yX4_slotOf.desc).map (fun d => d.parameters.length) = some 2 := by decide +kernel
set_option maxRecDepth 20000 in
theorem lk52_wsX1_append : Cond.static yX4_slotOf ∈ wsX1_append := by decide +kernel
set_option maxRecDepth 20000 in
theorem lk53_wsX1_append : Cond.static yX4_isType ∈ wsX1_append := by decide +kernel
set_option maxRecDepth 20000 in
theorem lk54_wsX1_append : Cond.static yX4_isSlot ∈ wsX1_append := by decide +kernel
set_option maxRecDepth 20000 in
theorem lk55_wsX1_append : Cond.fieldLink RX1 15 "QueryGateway$Graph" "leads" "[I" ∈ wsX1_append := by decide +kernel
set_option maxRecDepth 20000 in
theorem in_wsX1_append_X1 : ∀ w ∈ wsX10, w ∈ wsX1_append := by decide +kernel
set_option maxRecDepth 20000 in
theorem lk57_wsX1_append : Cond.fieldLink RX1 18 "QueryGateway$Graph" "required" "[Z" ∈ wsX1_append := by decide +kernel
set_option maxRecDepth 20000 in
theorem lk58_wsX1_append : Cond.fieldLink RX1 9 "QueryGateway$Graph" "counts" "[I" ∈ wsX1_append := by decide +kernel
abbrev rmX1_append : Room := { frames := 2, cells := 0, slots := 0, locals := 41 }
set_option maxHeartbeats 4000000 in
set_option maxRecDepth 100000 in
theorem c_X1_append {l : Launch} {D : va_G} {cy : zCy} {g a1 a2 a3 a4 a5 : Nat} {fa : Int32} {fc : Nat → Nat} {ld : Nat → Int32} {rq : Nat → Bool} {t : Nat} (ht : t < 4) (hf : fc t < 8) (lo : Int32) (b : Bool) : zW (Unit) l yX1_append wsX1_append rmX1_append D cy [(g, .inr (1, [.ref a1, .ref a2, .ref a3, .ref a4, .ref a5, .int fa])), (a1, .inl (cy.1, 4, .inl (fun z => nI (fc z)))), (a2, .inl (cy.1, 32, .inl ld)), (a3, .inl (cy.2.1, 32, .inl (fun z => bI (rq z))))] [.ref g, .int (nI t), .int lo, .int (bI (b))] (fun r _ => r = nI (fc t)) (fun _ => [(g, .inr (1, [.ref a1, .ref a2, .ref a3, .ref a4, .ref a5, .int fa])), (a1, .inl (cy.1, 4, .inl (fun z => nI (va_up fc t (fc t + 1) z)))), (a2, .inl (cy.1, 32, .inl (upd ld (t * 8 + fc t) lo))), (a3, .inl (cy.2.1, 32, .inl (fun z => bI (va_up rq (t * 8 + fc t) b z))))]) := by
  refine zW.of (cc := cX1_append) (maxL := 6) (ret := (some .int)) (by decide) rfl rfl ?_
  intro p e s m below meth c ls C hP hK hD hl
  obtain ⟨hx, hb, hr, hml, hts, hown, hlocks⟩ := C
  have hS : va_S (zIn [(g, .inr (1, [.ref a1, .ref a2, .ref a3, .ref a4, .ref a5, .int fa])), (a1, .inl (cy.1, 4, .inl (fun z => nI (fc z)))), (a2, .inl (cy.1, 32, .inl ld)), (a3, .inl (cy.2.1, 32, .inl (fun z => bI (rq z))))]) s.heap s.heap [] := va_S.rf
  have hl : lv_has ls 6 [(0, .ref g), (1, .int (nI t)), (2, .int lo), (3, .int (bI (b)))] := hl
  refine lv_aload_n hx hb dX1_append_0 rfl (lv_at hl 0 rfl) ?_
  refine lv_iload_n hx hb dX1_append_1 rfl (lv_at hl 1 rfl) ?_
  refine z_callV (b := g) (As := [.int (nI t)]) (rest := []) ⟨hx, hb, hml, hown, hts⟩ hK hP hS (c_X1_fieldsOf (i := 0) (j := 1) rfl rfl ht) (cwV 1 hts gX1_append_X1_fieldsOf rfl rfl rfl k_yX1_fieldsOf ⟨Nat.le_of_ble_eq_true rfl, Nat.le_of_ble_eq_true rfl⟩) 0 1 rfl rfl rfl rfl hl.1 rfl rfl dX1_append_2 ⟨Nat.le_of_ble_eq_true rfl, Nat.le_of_ble_eq_true rfl⟩ (fun H locs hP hS => ?_)
  refine lv_istore (lv' := [(4, .int (nI (fc t))), (0, .ref g), (1, .int (nI t)), (2, .int lo), (3, .int (bI (b)))]) hx hb dX1_append_5 hl (by decide) rfl (fun ls hl => ?_)
  refine lv_iload_n hx hb dX1_append_7 rfl (lv_at hl 2 rfl) ?_
  refine lv_iload hx hb dX1_append_8 (lv_at hl 0 rfl) ?_
  refine z_callSN (As := [.int (nI t), .int (nI (fc t))]) (rest := []) ⟨hx, hb, hml, hown, hts⟩ hK hP hS (c_X4_slotOf t (fc t)) ⟨va_cnB 2 hts gX1_append_X4_slotOf_n42 rfl rfl rfl hK.2.2.1 (hts _ lk50_wsX1_append) k_yX4_slotOf ⟨Nat.le_of_ble_eq_true rfl, Nat.le_of_ble_eq_true rfl⟩, hts _ lk52_wsX1_append, trivial⟩ rfl hl.1 rfl rfl dX1_append_10 ⟨Nat.le_of_ble_eq_true rfl, Nat.le_of_ble_eq_true rfl⟩ (fun H locs hP hS => ?_)
  refine lv_istore (lv' := [(5, .int (nI (t * 8 + (fc t)))), (4, .int (nI (fc t))), (0, .ref g), (1, .int (nI t)), (2, .int lo), (3, .int (bI (b)))]) hx hb dX1_append_13 hl (by decide) rfl (fun ls hl => ?_)
  refine lv_iload_n hx hb dX1_append_15 rfl (lv_at hl 3 rfl) ?_
  refine z_callSN (As := [.int (nI t)]) (rest := []) ⟨hx, hb, hml, hown, hts⟩ hK hP hS (c_X4_isType_in (k := t) (by omega)) ⟨va_cnB 1 hts gX1_append_X4_isType_n34 rfl rfl rfl hK.2.1 (hts _ lk50_wsX1_append) k_yX4_isType ⟨Nat.le_of_ble_eq_true rfl, Nat.le_of_ble_eq_true rfl⟩, hts _ lk53_wsX1_append, trivial⟩ rfl hl.1 rfl rfl dX1_append_16 ⟨Nat.le_of_ble_eq_true rfl, Nat.le_of_ble_eq_true rfl⟩ (fun H locs hP hS => ?_)
  refine lv_if_eq (tgt := 37) hx hb dX1_append_19 (by decide) (fun cb1 => ?_) (fun cb1 => ?_)
  · have cb1 : 1 = 0 := zn_eq_t (a := 1) (b := 0) (by omega) (by omega) cb1
    exact absurd cb1 (by decide)
  · have cb1 : ¬ (1 = 0) := zn_eq_f (a := 1) (b := 0) (by omega) (by omega) cb1
    refine lv_iload hx hb dX1_append_22 (lv_at hl 1 rfl) ?_
    refine lv_bipush (v := nI 8) hx hb dX1_append_24 (by decide) ?_
    refine lv_icmp_ge (tgt := 37) hx hb dX1_append_26 (by decide) (fun cb2 => ?_) (fun cb2 => ?_)
    · have cb2 : 8 ≤ (fc t) := zn_ge_t (a := (fc t)) (b := 8) (by omega) (by omega) cb2
      exact absurd cb2 (by omega)
    · have cb2 : ¬ (8 ≤ (fc t)) := zn_ge_f (a := (fc t)) (b := 8) (by omega) (by omega) cb2
      refine lv_iload hx hb dX1_append_29 (lv_at hl 0 rfl) ?_
      refine z_callSN (As := [.int (nI (t * 8 + (fc t)))]) (rest := []) ⟨hx, hb, hml, hown, hts⟩ hK hP hS (c_X4_isSlot_in (k := t * 8 + (fc t)) (by omega)) ⟨va_cnB 1 hts gX1_append_X4_isSlot_n46 rfl rfl rfl hK.2.2.2.1 (hts _ lk50_wsX1_append) k_yX4_isSlot ⟨Nat.le_of_ble_eq_true rfl, Nat.le_of_ble_eq_true rfl⟩, hts _ lk54_wsX1_append, trivial⟩ rfl hl.1 rfl rfl dX1_append_31 ⟨Nat.le_of_ble_eq_true rfl, Nat.le_of_ble_eq_true rfl⟩ (fun H locs hP hS => ?_)
      refine lv_if_ne (tgt := 39) hx hb dX1_append_34 (by decide) (fun cb3 => ?_) (fun cb3 => ?_)
      · have cb3 : ¬ (1 = 0) := zn_ne_f (a := 1) (b := 0) (by omega) (by omega) cb3
        refine lv_aload_n hx hb dX1_append_39 rfl (lv_at hl 2 rfl) ?_
        refine va_get (D := D) (ci := 1) (v := .ref a2) (C := RX1) (T := TX1) (N := 6) hx hb hts in_wsX1_append_X1 hown hK.1 hP 0 rfl rfl 1 (by decide) (hts _ lk55_wsX1_append) (fun _ h9 => h9) rfl dX1_append_40 ?_
        refine lv_iload hx hb dX1_append_43 (lv_at hl 0 rfl) ?_
        refine lv_iload_n hx hb dX1_append_45 rfl (lv_at hl 4 rfl) ?_
        refine z_iast (g := upd ld (t * 8 + (fc t)) lo) hx hb hK.1 hP hD hS 2 0 rfl rfl (k := t * 8 + (fc t)) (by omega) (by decide) (fun _ _ => rfl) dX1_append_46 (fun H locs hP hD hS => ?_)
        have hP : va_P D vwCl [(g, .inr (1, [.ref a1, .ref a2, .ref a3, .ref a4, .ref a5, .int fa])), (a1, .inl (cy.1, 4, .inl (fun z => nI (fc z)))), (a2, .inl (cy.1, 32, .inl (upd ld (t * 8 + (fc t)) lo))), (a3, .inl (cy.2.1, 32, .inl (fun z => bI (rq z))))] H := hP
        have hD : va_D (zIn [(g, .inr (1, [.ref a1, .ref a2, .ref a3, .ref a4, .ref a5, .int fa])), (a1, .inl (cy.1, 4, .inl (fun z => nI (fc z)))), (a2, .inl (cy.1, 32, .inl ld)), (a3, .inl (cy.2.1, 32, .inl (fun z => bI (rq z))))]) [(g, .inr (1, [.ref a1, .ref a2, .ref a3, .ref a4, .ref a5, .int fa])), (a1, .inl (cy.1, 4, .inl (fun z => nI (fc z)))), (a2, .inl (cy.1, 32, .inl (upd ld (t * 8 + (fc t)) lo))), (a3, .inl (cy.2.1, 32, .inl (fun z => bI (rq z))))] := hD
        refine lv_aload_n hx hb dX1_append_47 rfl (lv_at hl 2 rfl) ?_
        refine va_get (D := D) (ci := 1) (v := .ref a3) (C := RX1) (T := TX1) (N := 6) hx hb hts in_wsX1_append_X1 hown hK.1 hP 0 rfl rfl 2 (by decide) (hts _ lk57_wsX1_append) (fun _ h9 => h9) rfl dX1_append_48 ?_
        refine lv_iload hx hb dX1_append_51 (lv_at hl 0 rfl) ?_
        refine lv_iload_n hx hb dX1_append_53 rfl (lv_at hl 5 rfl) ?_
        refine z_zast (g := fun z => bI (va_up rq (t * 8 + fc t) b z)) hx hb hK.1 hP hD hS 3 1 rfl rfl (k := t * 8 + (fc t)) (by omega) (by decide) (bI01 _) (fun j _ => z_upB rq _ b j) dX1_append_54 (fun H locs hP hD hS => ?_)
        have hP : va_P D vwCl [(g, .inr (1, [.ref a1, .ref a2, .ref a3, .ref a4, .ref a5, .int fa])), (a1, .inl (cy.1, 4, .inl (fun z => nI (fc z)))), (a2, .inl (cy.1, 32, .inl (upd ld (t * 8 + (fc t)) lo))), (a3, .inl (cy.2.1, 32, .inl (fun z => bI (va_up rq (t * 8 + fc t) b z))))] H := hP
        have hD : va_D (zIn [(g, .inr (1, [.ref a1, .ref a2, .ref a3, .ref a4, .ref a5, .int fa])), (a1, .inl (cy.1, 4, .inl (fun z => nI (fc z)))), (a2, .inl (cy.1, 32, .inl ld)), (a3, .inl (cy.2.1, 32, .inl (fun z => bI (rq z))))]) [(g, .inr (1, [.ref a1, .ref a2, .ref a3, .ref a4, .ref a5, .int fa])), (a1, .inl (cy.1, 4, .inl (fun z => nI (fc z)))), (a2, .inl (cy.1, 32, .inl (upd ld (t * 8 + (fc t)) lo))), (a3, .inl (cy.2.1, 32, .inl (fun z => bI (va_up rq (t * 8 + fc t) b z))))] := hD
        refine lv_aload_n hx hb dX1_append_55 rfl (lv_at hl 2 rfl) ?_
        refine va_get (D := D) (ci := 1) (v := .ref a1) (C := RX1) (T := TX1) (N := 6) hx hb hts in_wsX1_append_X1 hown hK.1 hP 0 rfl rfl 0 (by decide) (hts _ lk58_wsX1_append) (fun _ h9 => h9) rfl dX1_append_56 ?_
        refine lv_iload_n hx hb dX1_append_59 rfl (lv_at hl 3 rfl) ?_
        refine lv_iload hx hb dX1_append_60 (lv_at hl 1 rfl) ?_
        refine lv_iconst (v := nI 1) hx hb dX1_append_62 (by decide) ?_
        refine lv_iadd hx hb dX1_append_63 ?_
        refine z_top (y := nI ((fc t) + 1)) (nI_add _ _) ?_
        refine z_iast (g := fun z => nI (va_up fc t (fc t + 1) z)) hx hb hK.1 hP hD hS 1 0 rfl rfl (k := t) (by omega) (by decide) (fun j _ => z_upN fc t _ j) dX1_append_64 (fun H locs hP hD hS => ?_)
        have hP : va_P D vwCl [(g, .inr (1, [.ref a1, .ref a2, .ref a3, .ref a4, .ref a5, .int fa])), (a1, .inl (cy.1, 4, .inl (fun z => nI (va_up fc t (fc t + 1) z)))), (a2, .inl (cy.1, 32, .inl (upd ld (t * 8 + (fc t)) lo))), (a3, .inl (cy.2.1, 32, .inl (fun z => bI (va_up rq (t * 8 + fc t) b z))))] H := hP
        have hD : va_D (zIn [(g, .inr (1, [.ref a1, .ref a2, .ref a3, .ref a4, .ref a5, .int fa])), (a1, .inl (cy.1, 4, .inl (fun z => nI (fc z)))), (a2, .inl (cy.1, 32, .inl ld)), (a3, .inl (cy.2.1, 32, .inl (fun z => bI (rq z))))]) [(g, .inr (1, [.ref a1, .ref a2, .ref a3, .ref a4, .ref a5, .int fa])), (a1, .inl (cy.1, 4, .inl (fun z => nI (va_up fc t (fc t + 1) z)))), (a2, .inl (cy.1, 32, .inl (upd ld (t * 8 + (fc t)) lo))), (a3, .inl (cy.2.1, 32, .inl (fun z => bI (va_up rq (t * 8 + fc t) b z))))] := hD
        refine lv_iload hx hb dX1_append_65 (lv_at hl 1 rfl) ?_
        exact z_iretW () hx hb hr hlocks hS dX1_append_67 hP rfl
      · have cb3 : 1 = 0 := zn_ne_t (a := 1) (b := 0) (by omega) (by omega) cb3
        exact absurd cb3 (by decide)
set_option maxRecDepth 20000 in
theorem lk59_wsX1_putOwner : Cond.initialized RX4 ∈ wsX1_putOwner := by decide +kernel
set_option maxRecDepth 20000 in
theorem lk60_wsX1_putOwner : Cond.static yX4_isSlot ∈ wsX1_putOwner := by decide +kernel
set_option maxRecDepth 20000 in
theorem lk61_wsX1_putOwner : Cond.fieldLink RX1 22 "QueryGateway$Graph" "owners" "[I" ∈ wsX1_putOwner := by decide +kernel
set_option maxRecDepth 20000 in
theorem in_wsX1_putOwner_X1 : ∀ w ∈ wsX10, w ∈ wsX1_putOwner := by decide +kernel
theorem k_yX4_bit : yX4_bit.cls ≠ "java/lang/invoke/MethodHandle" ∧ yX4_bit.cls ≠ "java/lang/invoke/VarHandle" ∧ (parseMethodDescriptor yX4_bit.desc).map (fun d => d.parameters.length) = some 1 := by decide +kernel
set_option maxRecDepth 20000 in
theorem lk64_wsX1_putOwner : Cond.static yX4_bit ∈ wsX1_putOwner := by decide +kernel
abbrev rmX1_putOwner : Room := { frames := 1, cells := 0, slots := 0, locals := 20 }
set_option maxHeartbeats 4000000 in
set_option maxRecDepth 100000 in
theorem c_X1_putOwner {l : Launch} {D : va_G} {cy : zCy} {g a1 a2 a3 a4 a5 : Nat} {fa : Int32} {ow : Nat → Nat} {t v : Nat} (ht : t < 32) (hv : v < 4) (ho : ow t < 16) (b : Bool) : zW (Unit) l yX1_putOwner wsX1_putOwner rmX1_putOwner D cy [(g, .inr (1, [.ref a1, .ref a2, .ref a3, .ref a4, .ref a5, .int fa])), (a4, .inl (cy.1, 32, .inl (fun z => nI (ow z))))] [.ref g, .int (nI t), .int (nI v), .int (bI (b))] (fun r _ => r = bI ((ow t).testBit v)) (fun _ => [(g, .inr (1, [.ref a1, .ref a2, .ref a3, .ref a4, .ref a5, .int fa])), (a4, .inl (cy.1, 32, .inl (fun z => nI (va_up ow t (zset b (ow t) v) z))))]) := by
  refine zW.of (cc := cX1_putOwner) (maxL := 5) (ret := (some .boolean)) (by decide) rfl rfl ?_
  intro p e s m below meth c ls C hP hK hD hl
  obtain ⟨hx, hb, hr, hml, hts, hown, hlocks⟩ := C
  have hS : va_S (zIn [(g, .inr (1, [.ref a1, .ref a2, .ref a3, .ref a4, .ref a5, .int fa])), (a4, .inl (cy.1, 32, .inl (fun z => nI (ow z))))]) s.heap s.heap [] := va_S.rf
  have hl : lv_has ls 5 [(0, .ref g), (1, .int (nI t)), (2, .int (nI v)), (3, .int (bI (b)))] := hl
  refine lv_iload_n hx hb dX1_putOwner_0 rfl (lv_at hl 1 rfl) ?_
  refine z_callSN (As := [.int (nI t)]) (rest := []) ⟨hx, hb, hml, hown, hts⟩ hK hP hS (c_X4_isSlot_in (k := t) (by omega)) ⟨va_cnB 1 hts gX1_putOwner_X4_isSlot_n46 rfl rfl rfl hK.2.2.2.1 (hts _ lk59_wsX1_putOwner) k_yX4_isSlot ⟨Nat.le_of_ble_eq_true rfl, Nat.le_of_ble_eq_true rfl⟩, hts _ lk60_wsX1_putOwner, trivial⟩ rfl hl.1 rfl rfl dX1_putOwner_1 ⟨Nat.le_of_ble_eq_true rfl, Nat.le_of_ble_eq_true rfl⟩ (fun H locs hP hS => ?_)
  refine lv_if_ne (tgt := 9) hx hb dX1_putOwner_4 (by decide) (fun cb1 => ?_) (fun cb1 => ?_)
  · have cb1 : ¬ (1 = 0) := zn_ne_f (a := 1) (b := 0) (by omega) (by omega) cb1
    refine lv_aload_n hx hb dX1_putOwner_9 rfl (lv_at hl 0 rfl) ?_
    refine va_get (D := D) (ci := 1) (v := .ref a4) (C := RX1) (T := TX1) (N := 6) hx hb hts in_wsX1_putOwner_X1 hown hK.1 hP 0 rfl rfl 3 (by decide) (hts _ lk61_wsX1_putOwner) (fun _ h9 => h9) rfl dX1_putOwner_10 ?_
    refine lv_iload_n hx hb dX1_putOwner_13 rfl (lv_at hl 1 rfl) ?_
    refine z_iald (v := nI (ow t)) hx hb hK.1 hP 1 0 rfl rfl (k := t) (by omega) (by decide) rfl dX1_putOwner_14 ?_
    refine lv_iload_n hx hb dX1_putOwner_15 rfl (lv_at hl 2 rfl) ?_
    refine z_callSN (As := [.int (nI v)]) (rest := [.int (nI (ow t))]) ⟨hx, hb, hml, hown, hts⟩ hK hP hS (c_X4_bit (k := v) (by omega)) ⟨va_cnB 1 hts gX1_putOwner_X4_bit_n49 rfl rfl rfl hK.2.2.2.2.1 (hts _ lk59_wsX1_putOwner) k_yX4_bit ⟨Nat.le_of_ble_eq_true rfl, Nat.le_of_ble_eq_true rfl⟩, hts _ lk64_wsX1_putOwner, trivial⟩ rfl hl.1 rfl rfl dX1_putOwner_16 ⟨Nat.le_of_ble_eq_true rfl, Nat.le_of_ble_eq_true rfl⟩ (fun H locs hP hS => ?_)
    refine lv_iand hx hb dX1_putOwner_19 ?_
    refine z_top (y := (nI (ow t) &&& nI (2 ^ v))) rfl ?_
    refine lv_if_eq (tgt := 27) hx hb dX1_putOwner_20 (by decide) (fun cb2 => ?_) (fun cb2 => ?_)
    · skip
      have hbit := z_bitF _ ho _ hv cb2
      refine lv_iconst (v := nI 0) hx hb dX1_putOwner_27 (by decide) ?_
      refine lv_istore (lv' := [(4, .int (nI 0)), (0, .ref g), (1, .int (nI t)), (2, .int (nI v)), (3, .int (bI (b)))]) hx hb dX1_putOwner_28 hl (by decide) rfl (fun ls hl => ?_)
      refine lv_aload_n hx hb dX1_putOwner_30 rfl (lv_at hl 1 rfl) ?_
      refine va_get (D := D) (ci := 1) (v := .ref a4) (C := RX1) (T := TX1) (N := 6) hx hb hts in_wsX1_putOwner_X1 hown hK.1 hP 0 rfl rfl 3 (by decide) (hts _ lk61_wsX1_putOwner) (fun _ h9 => h9) rfl dX1_putOwner_31 ?_
      refine lv_iload_n hx hb dX1_putOwner_34 rfl (lv_at hl 2 rfl) ?_
      refine lv_iload_n hx hb dX1_putOwner_35 rfl (lv_at hl 4 rfl) ?_
      refine lv_if_eq (tgt := 53) hx hb dX1_putOwner_36 (by decide) (fun cb3 => ?_) (fun cb3 => ?_)
      · have cb3 : (b) = false := bI_t0 cb3
        refine lv_aload_n hx hb dX1_putOwner_53 rfl (lv_at hl 1 rfl) ?_
        refine va_get (D := D) (ci := 1) (v := .ref a4) (C := RX1) (T := TX1) (N := 6) hx hb hts in_wsX1_putOwner_X1 hown hK.1 hP 0 rfl rfl 3 (by decide) (hts _ lk61_wsX1_putOwner) (fun _ h9 => h9) rfl dX1_putOwner_54 ?_
        refine lv_iload_n hx hb dX1_putOwner_57 rfl (lv_at hl 2 rfl) ?_
        refine z_iald (v := nI (ow t)) hx hb hK.1 hP 1 0 rfl rfl (k := t) (by omega) (by decide) rfl dX1_putOwner_58 ?_
        refine lv_iload_n hx hb dX1_putOwner_59 rfl (lv_at hl 3 rfl) ?_
        refine z_callSN (As := [.int (nI v)]) (rest := [.int (nI (ow t)), .int (nI t), .ref a4]) ⟨hx, hb, hml, hown, hts⟩ hK hP hS (c_X4_bit (k := v) (by omega)) ⟨va_cnB 1 hts gX1_putOwner_X4_bit_n49 rfl rfl rfl hK.2.2.2.2.1 (hts _ lk59_wsX1_putOwner) k_yX4_bit ⟨Nat.le_of_ble_eq_true rfl, Nat.le_of_ble_eq_true rfl⟩, hts _ lk64_wsX1_putOwner, trivial⟩ rfl hl.1 rfl rfl dX1_putOwner_60 ⟨Nat.le_of_ble_eq_true rfl, Nat.le_of_ble_eq_true rfl⟩ (fun H locs hP hS => ?_)
        refine lv_iconst (v := (-1 : Int32)) hx hb dX1_putOwner_63 (by decide) ?_
        refine lv_ixor hx hb dX1_putOwner_64 ?_
        refine z_top (y := (nI (2 ^ v) ^^^ (-1 : Int32))) rfl ?_
        refine lv_iand hx hb dX1_putOwner_65 ?_
        refine z_top (y := nI (zset false (ow t) v)) (z_andn _ ho _ hv) ?_
        refine z_iast (g := fun z => nI (va_up ow t (zset b (ow t) v) z)) hx hb hK.1 hP hD hS 1 0 rfl rfl (k := t) (by omega) (by decide) (fun j _ => by rw [cb3]; exact z_upN ow t _ j) dX1_putOwner_66 (fun H locs hP hD hS => ?_)
        have hP : va_P D vwCl [(g, .inr (1, [.ref a1, .ref a2, .ref a3, .ref a4, .ref a5, .int fa])), (a4, .inl (cy.1, 32, .inl (fun z => nI (va_up ow t (zset b (ow t) v) z))))] H := hP
        have hD : va_D (zIn [(g, .inr (1, [.ref a1, .ref a2, .ref a3, .ref a4, .ref a5, .int fa])), (a4, .inl (cy.1, 32, .inl (fun z => nI (ow z))))]) [(g, .inr (1, [.ref a1, .ref a2, .ref a3, .ref a4, .ref a5, .int fa])), (a4, .inl (cy.1, 32, .inl (fun z => nI (va_up ow t (zset b (ow t) v) z))))] := hD
        refine lv_iload hx hb dX1_putOwner_67 (lv_at hl 0 rfl) ?_
        exact z_zretW () hx hb hr hlocks hS dX1_putOwner_69 hP (by rw [hbit]; rfl) (by decide)
      · have cb3 : (b) = true := bI_f0 cb3
        refine lv_aload_n hx hb dX1_putOwner_39 rfl (lv_at hl 1 rfl) ?_
        refine va_get (D := D) (ci := 1) (v := .ref a4) (C := RX1) (T := TX1) (N := 6) hx hb hts in_wsX1_putOwner_X1 hown hK.1 hP 0 rfl rfl 3 (by decide) (hts _ lk61_wsX1_putOwner) (fun _ h9 => h9) rfl dX1_putOwner_40 ?_
        refine lv_iload_n hx hb dX1_putOwner_43 rfl (lv_at hl 2 rfl) ?_
        refine z_iald (v := nI (ow t)) hx hb hK.1 hP 1 0 rfl rfl (k := t) (by omega) (by decide) rfl dX1_putOwner_44 ?_
        refine lv_iload_n hx hb dX1_putOwner_45 rfl (lv_at hl 3 rfl) ?_
        refine z_callSN (As := [.int (nI v)]) (rest := [.int (nI (ow t)), .int (nI t), .ref a4]) ⟨hx, hb, hml, hown, hts⟩ hK hP hS (c_X4_bit (k := v) (by omega)) ⟨va_cnB 1 hts gX1_putOwner_X4_bit_n49 rfl rfl rfl hK.2.2.2.2.1 (hts _ lk59_wsX1_putOwner) k_yX4_bit ⟨Nat.le_of_ble_eq_true rfl, Nat.le_of_ble_eq_true rfl⟩, hts _ lk64_wsX1_putOwner, trivial⟩ rfl hl.1 rfl rfl dX1_putOwner_46 ⟨Nat.le_of_ble_eq_true rfl, Nat.le_of_ble_eq_true rfl⟩ (fun H locs hP hS => ?_)
        refine lv_ior hx hb dX1_putOwner_49 ?_
        refine z_top (y := nI (zset true (ow t) v)) (z_or _ ho _ hv) ?_
        refine lv_goto (tgt := 66) hx hb dX1_putOwner_50 (by decide) ?_
        refine z_iast (g := fun z => nI (va_up ow t (zset b (ow t) v) z)) hx hb hK.1 hP hD hS 1 0 rfl rfl (k := t) (by omega) (by decide) (fun j _ => by rw [cb3]; exact z_upN ow t _ j) dX1_putOwner_66 (fun H locs hP hD hS => ?_)
        have hP : va_P D vwCl [(g, .inr (1, [.ref a1, .ref a2, .ref a3, .ref a4, .ref a5, .int fa])), (a4, .inl (cy.1, 32, .inl (fun z => nI (va_up ow t (zset b (ow t) v) z))))] H := hP
        have hD : va_D (zIn [(g, .inr (1, [.ref a1, .ref a2, .ref a3, .ref a4, .ref a5, .int fa])), (a4, .inl (cy.1, 32, .inl (fun z => nI (ow z))))]) [(g, .inr (1, [.ref a1, .ref a2, .ref a3, .ref a4, .ref a5, .int fa])), (a4, .inl (cy.1, 32, .inl (fun z => nI (va_up ow t (zset b (ow t) v) z))))] := hD
        refine lv_iload hx hb dX1_putOwner_67 (lv_at hl 0 rfl) ?_
        exact z_zretW () hx hb hr hlocks hS dX1_putOwner_69 hP (by rw [hbit]; rfl) (by decide)
    · skip
      have hbit := z_bitT _ ho _ hv cb2
      refine lv_iconst (v := nI 1) hx hb dX1_putOwner_23 (by decide) ?_
      refine lv_goto (tgt := 28) hx hb dX1_putOwner_24 (by decide) ?_
      refine lv_istore (lv' := [(4, .int (nI 1)), (0, .ref g), (1, .int (nI t)), (2, .int (nI v)), (3, .int (bI (b)))]) hx hb dX1_putOwner_28 hl (by decide) rfl (fun ls hl => ?_)
      refine lv_aload_n hx hb dX1_putOwner_30 rfl (lv_at hl 1 rfl) ?_
      refine va_get (D := D) (ci := 1) (v := .ref a4) (C := RX1) (T := TX1) (N := 6) hx hb hts in_wsX1_putOwner_X1 hown hK.1 hP 0 rfl rfl 3 (by decide) (hts _ lk61_wsX1_putOwner) (fun _ h9 => h9) rfl dX1_putOwner_31 ?_
      refine lv_iload_n hx hb dX1_putOwner_34 rfl (lv_at hl 2 rfl) ?_
      refine lv_iload_n hx hb dX1_putOwner_35 rfl (lv_at hl 4 rfl) ?_
      refine lv_if_eq (tgt := 53) hx hb dX1_putOwner_36 (by decide) (fun cb4 => ?_) (fun cb4 => ?_)
      · have cb4 : (b) = false := bI_t0 cb4
        refine lv_aload_n hx hb dX1_putOwner_53 rfl (lv_at hl 1 rfl) ?_
        refine va_get (D := D) (ci := 1) (v := .ref a4) (C := RX1) (T := TX1) (N := 6) hx hb hts in_wsX1_putOwner_X1 hown hK.1 hP 0 rfl rfl 3 (by decide) (hts _ lk61_wsX1_putOwner) (fun _ h9 => h9) rfl dX1_putOwner_54 ?_
        refine lv_iload_n hx hb dX1_putOwner_57 rfl (lv_at hl 2 rfl) ?_
        refine z_iald (v := nI (ow t)) hx hb hK.1 hP 1 0 rfl rfl (k := t) (by omega) (by decide) rfl dX1_putOwner_58 ?_
        refine lv_iload_n hx hb dX1_putOwner_59 rfl (lv_at hl 3 rfl) ?_
        refine z_callSN (As := [.int (nI v)]) (rest := [.int (nI (ow t)), .int (nI t), .ref a4]) ⟨hx, hb, hml, hown, hts⟩ hK hP hS (c_X4_bit (k := v) (by omega)) ⟨va_cnB 1 hts gX1_putOwner_X4_bit_n49 rfl rfl rfl hK.2.2.2.2.1 (hts _ lk59_wsX1_putOwner) k_yX4_bit ⟨Nat.le_of_ble_eq_true rfl, Nat.le_of_ble_eq_true rfl⟩, hts _ lk64_wsX1_putOwner, trivial⟩ rfl hl.1 rfl rfl dX1_putOwner_60 ⟨Nat.le_of_ble_eq_true rfl, Nat.le_of_ble_eq_true rfl⟩ (fun H locs hP hS => ?_)
        refine lv_iconst (v := (-1 : Int32)) hx hb dX1_putOwner_63 (by decide) ?_
        refine lv_ixor hx hb dX1_putOwner_64 ?_
        refine z_top (y := (nI (2 ^ v) ^^^ (-1 : Int32))) rfl ?_
        refine lv_iand hx hb dX1_putOwner_65 ?_
        refine z_top (y := nI (zset false (ow t) v)) (z_andn _ ho _ hv) ?_
        refine z_iast (g := fun z => nI (va_up ow t (zset b (ow t) v) z)) hx hb hK.1 hP hD hS 1 0 rfl rfl (k := t) (by omega) (by decide) (fun j _ => by rw [cb4]; exact z_upN ow t _ j) dX1_putOwner_66 (fun H locs hP hD hS => ?_)
        have hP : va_P D vwCl [(g, .inr (1, [.ref a1, .ref a2, .ref a3, .ref a4, .ref a5, .int fa])), (a4, .inl (cy.1, 32, .inl (fun z => nI (va_up ow t (zset b (ow t) v) z))))] H := hP
        have hD : va_D (zIn [(g, .inr (1, [.ref a1, .ref a2, .ref a3, .ref a4, .ref a5, .int fa])), (a4, .inl (cy.1, 32, .inl (fun z => nI (ow z))))]) [(g, .inr (1, [.ref a1, .ref a2, .ref a3, .ref a4, .ref a5, .int fa])), (a4, .inl (cy.1, 32, .inl (fun z => nI (va_up ow t (zset b (ow t) v) z))))] := hD
        refine lv_iload hx hb dX1_putOwner_67 (lv_at hl 0 rfl) ?_
        exact z_zretW () hx hb hr hlocks hS dX1_putOwner_69 hP (by rw [hbit]; rfl) (by decide)
      · have cb4 : (b) = true := bI_f0 cb4
        refine lv_aload_n hx hb dX1_putOwner_39 rfl (lv_at hl 1 rfl) ?_
        refine va_get (D := D) (ci := 1) (v := .ref a4) (C := RX1) (T := TX1) (N := 6) hx hb hts in_wsX1_putOwner_X1 hown hK.1 hP 0 rfl rfl 3 (by decide) (hts _ lk61_wsX1_putOwner) (fun _ h9 => h9) rfl dX1_putOwner_40 ?_
        refine lv_iload_n hx hb dX1_putOwner_43 rfl (lv_at hl 2 rfl) ?_
        refine z_iald (v := nI (ow t)) hx hb hK.1 hP 1 0 rfl rfl (k := t) (by omega) (by decide) rfl dX1_putOwner_44 ?_
        refine lv_iload_n hx hb dX1_putOwner_45 rfl (lv_at hl 3 rfl) ?_
        refine z_callSN (As := [.int (nI v)]) (rest := [.int (nI (ow t)), .int (nI t), .ref a4]) ⟨hx, hb, hml, hown, hts⟩ hK hP hS (c_X4_bit (k := v) (by omega)) ⟨va_cnB 1 hts gX1_putOwner_X4_bit_n49 rfl rfl rfl hK.2.2.2.2.1 (hts _ lk59_wsX1_putOwner) k_yX4_bit ⟨Nat.le_of_ble_eq_true rfl, Nat.le_of_ble_eq_true rfl⟩, hts _ lk64_wsX1_putOwner, trivial⟩ rfl hl.1 rfl rfl dX1_putOwner_46 ⟨Nat.le_of_ble_eq_true rfl, Nat.le_of_ble_eq_true rfl⟩ (fun H locs hP hS => ?_)
        refine lv_ior hx hb dX1_putOwner_49 ?_
        refine z_top (y := nI (zset true (ow t) v)) (z_or _ ho _ hv) ?_
        refine lv_goto (tgt := 66) hx hb dX1_putOwner_50 (by decide) ?_
        refine z_iast (g := fun z => nI (va_up ow t (zset b (ow t) v) z)) hx hb hK.1 hP hD hS 1 0 rfl rfl (k := t) (by omega) (by decide) (fun j _ => by rw [cb4]; exact z_upN ow t _ j) dX1_putOwner_66 (fun H locs hP hD hS => ?_)
        have hP : va_P D vwCl [(g, .inr (1, [.ref a1, .ref a2, .ref a3, .ref a4, .ref a5, .int fa])), (a4, .inl (cy.1, 32, .inl (fun z => nI (va_up ow t (zset b (ow t) v) z))))] H := hP
        have hD : va_D (zIn [(g, .inr (1, [.ref a1, .ref a2, .ref a3, .ref a4, .ref a5, .int fa])), (a4, .inl (cy.1, 32, .inl (fun z => nI (ow z))))]) [(g, .inr (1, [.ref a1, .ref a2, .ref a3, .ref a4, .ref a5, .int fa])), (a4, .inl (cy.1, 32, .inl (fun z => nI (va_up ow t (zset b (ow t) v) z))))] := hD
        refine lv_iload hx hb dX1_putOwner_67 (lv_at hl 0 rfl) ?_
        exact z_zretW () hx hb hr hlocks hS dX1_putOwner_69 hP (by rw [hbit]; rfl) (by decide)
  · have cb1 : 1 = 0 := zn_ne_t (a := 1) (b := 0) (by omega) (by omega) cb1
    exact absurd cb1 (by decide)
theorem k_yX1_valueOf : yX1_valueOf.cls = RX1 ∧ yX1_valueOf.cls ≠ "java/lang/invoke/MethodHandle" ∧ yX1_valueOf.cls ≠ "java/lang/invoke/VarHandle" ∧ (parseMethodDescriptor yX1_valueOf.desc).map (fun d => d.parameters.length) = some 2 := by decide +kernel
set_option maxRecDepth 20000 in
theorem lk66_wsX1_putValue : Cond.initialized RX4 ∈ wsX1_putValue := by decide +kernel
set_option maxRecDepth 20000 in
theorem lk67_wsX1_putValue : Cond.static yX4_isSlot ∈ wsX1_putValue := by decide +kernel
set_option maxRecDepth 20000 in
theorem lk68_wsX1_putValue : Cond.static yX4_isKey ∈ wsX1_putValue := by decide +kernel
set_option maxRecDepth 20000 in
theorem lk69_wsX1_putValue : Cond.fieldLink RX1 25 "QueryGateway$Graph" "values" "[I" ∈ wsX1_putValue := by decide +kernel
set_option maxRecDepth 20000 in
theorem in_wsX1_putValue_X1 : ∀ w ∈ wsX10, w ∈ wsX1_putValue := by decide +kernel
abbrev rmX1_putValue : Room := { frames := 2, cells := 0, slots := 0, locals := 42 }
set_option maxHeartbeats 4000000 in
set_option maxRecDepth 100000 in
theorem c_X1_putValue {l : Launch} {D : va_G} {cy : zCy} {g a1 a2 a3 a4 a5 : Nat} {fa : Int32} {vl : Nat → Nat → Int32} {t k : Nat} (ht : t < 32) (hk : k < 20) (x : Int32) : zW (Unit) l yX1_putValue wsX1_putValue rmX1_putValue D cy [(g, .inr (1, [.ref a1, .ref a2, .ref a3, .ref a4, .ref a5, .int fa])), (a5, .inl (cy.1, 640, .inl (fun z => vl (z / 20) (z % 20))))] [.ref g, .int (nI t), .int (nI k), .int x] (fun r _ => r = vl t k) (fun _ => [(g, .inr (1, [.ref a1, .ref a2, .ref a3, .ref a4, .ref a5, .int fa])), (a5, .inl (cy.1, 640, .inl (fun z => zup2 vl t k x (z / 20) (z % 20))))]) := by
  refine zW.of (cc := cX1_putValue) (maxL := 5) (ret := (some .int)) (by decide) rfl rfl ?_
  intro p e s m below meth c ls C hP hK hD hl
  obtain ⟨hx, hb, hr, hml, hts, hown, hlocks⟩ := C
  have hS : va_S (zIn [(g, .inr (1, [.ref a1, .ref a2, .ref a3, .ref a4, .ref a5, .int fa])), (a5, .inl (cy.1, 640, .inl (fun z => vl (z / 20) (z % 20))))]) s.heap s.heap [] := va_S.rf
  have hl : lv_has ls 5 [(0, .ref g), (1, .int (nI t)), (2, .int (nI k)), (3, .int x)] := hl
  refine lv_aload_n hx hb dX1_putValue_0 rfl (lv_at hl 0 rfl) ?_
  refine lv_iload_n hx hb dX1_putValue_1 rfl (lv_at hl 1 rfl) ?_
  refine lv_iload_n hx hb dX1_putValue_2 rfl (lv_at hl 2 rfl) ?_
  refine z_callV (b := g) (As := [.int (nI t), .int (nI k)]) (rest := []) ⟨hx, hb, hml, hown, hts⟩ hK hP hS (c_X1_valueOf (i := 0) (j := 1) rfl rfl ht hk) (cwV 2 hts gX1_putValue_X1_valueOf rfl rfl rfl k_yX1_valueOf ⟨Nat.le_of_ble_eq_true rfl, Nat.le_of_ble_eq_true rfl⟩) 0 1 rfl rfl rfl rfl hl.1 rfl rfl dX1_putValue_3 ⟨Nat.le_of_ble_eq_true rfl, Nat.le_of_ble_eq_true rfl⟩ (fun H locs hP hS => ?_)
  refine lv_istore (lv' := [(4, .int ((vl t k))), (0, .ref g), (1, .int (nI t)), (2, .int (nI k)), (3, .int x)]) hx hb dX1_putValue_6 hl (by decide) rfl (fun ls hl => ?_)
  refine lv_iload_n hx hb dX1_putValue_8 rfl (lv_at hl 2 rfl) ?_
  refine z_callSN (As := [.int (nI t)]) (rest := []) ⟨hx, hb, hml, hown, hts⟩ hK hP hS (c_X4_isSlot_in (k := t) (by omega)) ⟨va_cnB 1 hts gX1_putValue_X4_isSlot_n46 rfl rfl rfl hK.2.2.2.1 (hts _ lk66_wsX1_putValue) k_yX4_isSlot ⟨Nat.le_of_ble_eq_true rfl, Nat.le_of_ble_eq_true rfl⟩, hts _ lk67_wsX1_putValue, trivial⟩ rfl hl.1 rfl rfl dX1_putValue_9 ⟨Nat.le_of_ble_eq_true rfl, Nat.le_of_ble_eq_true rfl⟩ (fun H locs hP hS => ?_)
  refine lv_if_eq (tgt := 34) hx hb dX1_putValue_12 (by decide) (fun cb1 => ?_) (fun cb1 => ?_)
  · have cb1 : 1 = 0 := zn_eq_t (a := 1) (b := 0) (by omega) (by omega) cb1
    exact absurd cb1 (by decide)
  · have cb1 : ¬ (1 = 0) := zn_eq_f (a := 1) (b := 0) (by omega) (by omega) cb1
    refine lv_iload_n hx hb dX1_putValue_15 rfl (lv_at hl 3 rfl) ?_
    refine z_callSN (As := [.int (nI k)]) (rest := []) ⟨hx, hb, hml, hown, hts⟩ hK hP hS (c_X4_isKey_in (k := k) (by omega)) ⟨va_cnB 1 hts gX1_putValue_X4_isKey_n55 rfl rfl rfl hK.2.2.2.2.2.1 (hts _ lk66_wsX1_putValue) k_yX4_isKey ⟨Nat.le_of_ble_eq_true rfl, Nat.le_of_ble_eq_true rfl⟩, hts _ lk68_wsX1_putValue, trivial⟩ rfl hl.1 rfl rfl dX1_putValue_16 ⟨Nat.le_of_ble_eq_true rfl, Nat.le_of_ble_eq_true rfl⟩ (fun H locs hP hS => ?_)
    refine lv_if_eq (tgt := 34) hx hb dX1_putValue_19 (by decide) (fun cb2 => ?_) (fun cb2 => ?_)
    · have cb2 : 1 = 0 := zn_eq_t (a := 1) (b := 0) (by omega) (by omega) cb2
      exact absurd cb2 (by decide)
    · have cb2 : ¬ (1 = 0) := zn_eq_f (a := 1) (b := 0) (by omega) (by omega) cb2
      refine lv_aload_n hx hb dX1_putValue_22 rfl (lv_at hl 1 rfl) ?_
      refine va_get (D := D) (ci := 1) (v := .ref a5) (C := RX1) (T := TX1) (N := 6) hx hb hts in_wsX1_putValue_X1 hown hK.1 hP 0 rfl rfl 4 (by decide) (hts _ lk69_wsX1_putValue) (fun _ h9 => h9) rfl dX1_putValue_23 ?_
      refine lv_iload_n hx hb dX1_putValue_26 rfl (lv_at hl 2 rfl) ?_
      refine lv_bipush (v := nI 20) hx hb dX1_putValue_27 (by decide) ?_
      refine lv_imul hx hb dX1_putValue_29 ?_
      refine z_top (y := nI (t * 20)) (pk_mul _ _) ?_
      refine lv_iload_n hx hb dX1_putValue_30 rfl (lv_at hl 3 rfl) ?_
      refine lv_iadd hx hb dX1_putValue_31 ?_
      refine z_top (y := nI ((t * 20) + k)) (nI_add _ _) ?_
      refine lv_iload_n hx hb dX1_putValue_32 rfl (lv_at hl 4 rfl) ?_
      refine z_iast (g := fun z => zup2 vl t k x (z / 20) (z % 20)) hx hb hK.1 hP hD hS 1 0 rfl rfl (k := (t * 20) + k) (by omega) (by decide) (fun j _ => z_up2 vl x hk j) dX1_putValue_33 (fun H locs hP hD hS => ?_)
      have hP : va_P D vwCl [(g, .inr (1, [.ref a1, .ref a2, .ref a3, .ref a4, .ref a5, .int fa])), (a5, .inl (cy.1, 640, .inl (fun z => zup2 vl t k x (z / 20) (z % 20))))] H := hP
      have hD : va_D (zIn [(g, .inr (1, [.ref a1, .ref a2, .ref a3, .ref a4, .ref a5, .int fa])), (a5, .inl (cy.1, 640, .inl (fun z => vl (z / 20) (z % 20))))]) [(g, .inr (1, [.ref a1, .ref a2, .ref a3, .ref a4, .ref a5, .int fa])), (a5, .inl (cy.1, 640, .inl (fun z => zup2 vl t k x (z / 20) (z % 20))))] := hD
      refine lv_iload hx hb dX1_putValue_34 (lv_at hl 0 rfl) ?_
      exact z_iretW () hx hb hr hlocks hS dX1_putValue_36 hP rfl
set_option maxRecDepth 20000 in
theorem lk71_wsX1_putFailed : Cond.fieldLink RX1 61 "QueryGateway$Graph" "failed" "I" ∈ wsX1_putFailed := by decide +kernel
set_option maxRecDepth 20000 in
theorem in_wsX1_putFailed_X1 : ∀ w ∈ wsX10, w ∈ wsX1_putFailed := by decide +kernel
set_option maxRecDepth 20000 in
theorem lk73_wsX1_putFailed : Cond.initialized RX4 ∈ wsX1_putFailed := by decide +kernel
set_option maxRecDepth 20000 in
theorem lk74_wsX1_putFailed : Cond.static yX4_bit ∈ wsX1_putFailed := by decide +kernel
abbrev rmX1_putFailed : Room := { frames := 1, cells := 0, slots := 0, locals := 20 }
set_option maxHeartbeats 4000000 in
set_option maxRecDepth 100000 in
theorem c_X1_putFailed {l : Launch} {D : va_G} {cy : zCy} {g a1 a2 a3 a4 a5 fa : Nat} {v : Nat} (hv : v < 4) (ho : fa < 16) (b : Bool) : zW (Unit) l yX1_putFailed wsX1_putFailed rmX1_putFailed D cy [(g, .inr (1, [.ref a1, .ref a2, .ref a3, .ref a4, .ref a5, .int (nI fa)]))] [.ref g, .int (nI v), .int (bI (b))] (fun r _ => r = bI (fa.testBit v)) (fun _ => [(g, .inr (1, [.ref a1, .ref a2, .ref a3, .ref a4, .ref a5, .int (nI (zset b fa v))]))]) := by
  refine zW.of (cc := cX1_putFailed) (maxL := 4) (ret := (some .boolean)) (by decide) rfl rfl ?_
  intro p e s m below meth c ls C hP hK hD hl
  obtain ⟨hx, hb, hr, hml, hts, hown, hlocks⟩ := C
  have hS : va_S (zIn [(g, .inr (1, [.ref a1, .ref a2, .ref a3, .ref a4, .ref a5, .int (nI fa)]))]) s.heap s.heap [] := va_S.rf
  have hl : lv_has ls 4 [(0, .ref g), (1, .int (nI v)), (2, .int (bI (b)))] := hl
  refine lv_aload_n hx hb dX1_putFailed_0 rfl (lv_at hl 0 rfl) ?_
  refine va_get (D := D) (ci := 1) (v := .int (nI fa)) (C := RX1) (T := TX1) (N := 6) hx hb hts in_wsX1_putFailed_X1 hown hK.1 hP 0 rfl rfl 5 (by decide) (hts _ lk71_wsX1_putFailed) (fun _ h9 => h9) rfl dX1_putFailed_1 ?_
  refine lv_iload_n hx hb dX1_putFailed_4 rfl (lv_at hl 1 rfl) ?_
  refine z_callSN (As := [.int (nI v)]) (rest := [.int (nI fa)]) ⟨hx, hb, hml, hown, hts⟩ hK hP hS (c_X4_bit (k := v) (by omega)) ⟨va_cnB 1 hts gX1_putFailed_X4_bit_n49 rfl rfl rfl hK.2.2.2.2.1 (hts _ lk73_wsX1_putFailed) k_yX4_bit ⟨Nat.le_of_ble_eq_true rfl, Nat.le_of_ble_eq_true rfl⟩, hts _ lk74_wsX1_putFailed, trivial⟩ rfl hl.1 rfl rfl dX1_putFailed_5 ⟨Nat.le_of_ble_eq_true rfl, Nat.le_of_ble_eq_true rfl⟩ (fun H locs hP hS => ?_)
  refine lv_iand hx hb dX1_putFailed_8 ?_
  refine z_top (y := (nI (fa) &&& nI (2 ^ v))) rfl ?_
  refine lv_if_eq (tgt := 16) hx hb dX1_putFailed_9 (by decide) (fun cb1 => ?_) (fun cb1 => ?_)
  · skip
    have hbit := z_bitF _ ho _ hv cb1
    refine lv_iconst (v := nI 0) hx hb dX1_putFailed_16 (by decide) ?_
    refine lv_istore_n (lv' := [(3, .int (nI 0)), (0, .ref g), (1, .int (nI v)), (2, .int (bI (b)))]) hx hb dX1_putFailed_17 rfl hl (by decide) rfl (fun ls hl => ?_)
    refine lv_aload_n hx hb dX1_putFailed_18 rfl (lv_at hl 1 rfl) ?_
    refine lv_iload_n hx hb dX1_putFailed_19 rfl (lv_at hl 3 rfl) ?_
    refine lv_if_eq (tgt := 35) hx hb dX1_putFailed_20 (by decide) (fun cb2 => ?_) (fun cb2 => ?_)
    · have cb2 : (b) = false := bI_t0 cb2
      refine lv_aload_n hx hb dX1_putFailed_35 rfl (lv_at hl 1 rfl) ?_
      refine va_get (D := D) (ci := 1) (v := .int (nI fa)) (C := RX1) (T := TX1) (N := 6) hx hb hts in_wsX1_putFailed_X1 hown hK.1 hP 0 rfl rfl 5 (by decide) (hts _ lk71_wsX1_putFailed) (fun _ h9 => h9) rfl dX1_putFailed_36 ?_
      refine lv_iload_n hx hb dX1_putFailed_39 rfl (lv_at hl 2 rfl) ?_
      refine z_callSN (As := [.int (nI v)]) (rest := [.int (nI fa), .ref g]) ⟨hx, hb, hml, hown, hts⟩ hK hP hS (c_X4_bit (k := v) (by omega)) ⟨va_cnB 1 hts gX1_putFailed_X4_bit_n49 rfl rfl rfl hK.2.2.2.2.1 (hts _ lk73_wsX1_putFailed) k_yX4_bit ⟨Nat.le_of_ble_eq_true rfl, Nat.le_of_ble_eq_true rfl⟩, hts _ lk74_wsX1_putFailed, trivial⟩ rfl hl.1 rfl rfl dX1_putFailed_40 ⟨Nat.le_of_ble_eq_true rfl, Nat.le_of_ble_eq_true rfl⟩ (fun H locs hP hS => ?_)
      refine lv_iconst (v := (-1 : Int32)) hx hb dX1_putFailed_43 (by decide) ?_
      refine lv_ixor hx hb dX1_putFailed_44 ?_
      refine z_top (y := (nI (2 ^ v) ^^^ (-1 : Int32))) rfl ?_
      refine lv_iand hx hb dX1_putFailed_45 ?_
      refine z_top (y := nI (zset false fa v)) (z_andn _ ho _ hv) ?_
      refine z_top (y := nI (zset b fa v)) (by rw [cb2]) ?_
      refine va_put (D := D) (ci := 1) (v := .int (nI (zset b fa v))) (ty := .int) (C := RX1) (T := TX1) (N := 6) hx hb hts in_wsX1_putFailed_X1 tyX1 tyX1_ok nmX1 hown hK.1 hP hD hS 0 rfl rfl 5 (by decide) (hts _ lk71_wsX1_putFailed) (fun _ h9 => h9) rfl (by decide +kernel) rfl rfl (Nat.le_of_ble_eq_true rfl) dX1_putFailed_46 (fun H locs hP hD hS => ?_)
      have hP : va_P D vwCl [(g, .inr (1, [.ref a1, .ref a2, .ref a3, .ref a4, .ref a5, .int (nI (zset b fa v))]))] H := hP
      have hD : va_D (zIn [(g, .inr (1, [.ref a1, .ref a2, .ref a3, .ref a4, .ref a5, .int (nI fa)]))]) [(g, .inr (1, [.ref a1, .ref a2, .ref a3, .ref a4, .ref a5, .int (nI (zset b fa v))]))] := hD
      refine lv_iload_n hx hb dX1_putFailed_49 rfl (lv_at hl 0 rfl) ?_
      exact z_zretW () hx hb hr hlocks hS dX1_putFailed_50 hP (by rw [hbit]; rfl) (by decide)
    · have cb2 : (b) = true := bI_f0 cb2
      refine lv_aload_n hx hb dX1_putFailed_23 rfl (lv_at hl 1 rfl) ?_
      refine va_get (D := D) (ci := 1) (v := .int (nI fa)) (C := RX1) (T := TX1) (N := 6) hx hb hts in_wsX1_putFailed_X1 hown hK.1 hP 0 rfl rfl 5 (by decide) (hts _ lk71_wsX1_putFailed) (fun _ h9 => h9) rfl dX1_putFailed_24 ?_
      refine lv_iload_n hx hb dX1_putFailed_27 rfl (lv_at hl 2 rfl) ?_
      refine z_callSN (As := [.int (nI v)]) (rest := [.int (nI fa), .ref g]) ⟨hx, hb, hml, hown, hts⟩ hK hP hS (c_X4_bit (k := v) (by omega)) ⟨va_cnB 1 hts gX1_putFailed_X4_bit_n49 rfl rfl rfl hK.2.2.2.2.1 (hts _ lk73_wsX1_putFailed) k_yX4_bit ⟨Nat.le_of_ble_eq_true rfl, Nat.le_of_ble_eq_true rfl⟩, hts _ lk74_wsX1_putFailed, trivial⟩ rfl hl.1 rfl rfl dX1_putFailed_28 ⟨Nat.le_of_ble_eq_true rfl, Nat.le_of_ble_eq_true rfl⟩ (fun H locs hP hS => ?_)
      refine lv_ior hx hb dX1_putFailed_31 ?_
      refine z_top (y := nI (zset true fa v)) (z_or _ ho _ hv) ?_
      refine lv_goto (tgt := 46) hx hb dX1_putFailed_32 (by decide) ?_
      refine z_top (y := nI (zset b fa v)) (by rw [cb2]) ?_
      refine va_put (D := D) (ci := 1) (v := .int (nI (zset b fa v))) (ty := .int) (C := RX1) (T := TX1) (N := 6) hx hb hts in_wsX1_putFailed_X1 tyX1 tyX1_ok nmX1 hown hK.1 hP hD hS 0 rfl rfl 5 (by decide) (hts _ lk71_wsX1_putFailed) (fun _ h9 => h9) rfl (by decide +kernel) rfl rfl (Nat.le_of_ble_eq_true rfl) dX1_putFailed_46 (fun H locs hP hD hS => ?_)
      have hP : va_P D vwCl [(g, .inr (1, [.ref a1, .ref a2, .ref a3, .ref a4, .ref a5, .int (nI (zset b fa v))]))] H := hP
      have hD : va_D (zIn [(g, .inr (1, [.ref a1, .ref a2, .ref a3, .ref a4, .ref a5, .int (nI fa)]))]) [(g, .inr (1, [.ref a1, .ref a2, .ref a3, .ref a4, .ref a5, .int (nI (zset b fa v))]))] := hD
      refine lv_iload_n hx hb dX1_putFailed_49 rfl (lv_at hl 0 rfl) ?_
      exact z_zretW () hx hb hr hlocks hS dX1_putFailed_50 hP (by rw [hbit]; rfl) (by decide)
  · skip
    have hbit := z_bitT _ ho _ hv cb1
    refine lv_iconst (v := nI 1) hx hb dX1_putFailed_12 (by decide) ?_
    refine lv_goto (tgt := 17) hx hb dX1_putFailed_13 (by decide) ?_
    refine lv_istore_n (lv' := [(3, .int (nI 1)), (0, .ref g), (1, .int (nI v)), (2, .int (bI (b)))]) hx hb dX1_putFailed_17 rfl hl (by decide) rfl (fun ls hl => ?_)
    refine lv_aload_n hx hb dX1_putFailed_18 rfl (lv_at hl 1 rfl) ?_
    refine lv_iload_n hx hb dX1_putFailed_19 rfl (lv_at hl 3 rfl) ?_
    refine lv_if_eq (tgt := 35) hx hb dX1_putFailed_20 (by decide) (fun cb3 => ?_) (fun cb3 => ?_)
    · have cb3 : (b) = false := bI_t0 cb3
      refine lv_aload_n hx hb dX1_putFailed_35 rfl (lv_at hl 1 rfl) ?_
      refine va_get (D := D) (ci := 1) (v := .int (nI fa)) (C := RX1) (T := TX1) (N := 6) hx hb hts in_wsX1_putFailed_X1 hown hK.1 hP 0 rfl rfl 5 (by decide) (hts _ lk71_wsX1_putFailed) (fun _ h9 => h9) rfl dX1_putFailed_36 ?_
      refine lv_iload_n hx hb dX1_putFailed_39 rfl (lv_at hl 2 rfl) ?_
      refine z_callSN (As := [.int (nI v)]) (rest := [.int (nI fa), .ref g]) ⟨hx, hb, hml, hown, hts⟩ hK hP hS (c_X4_bit (k := v) (by omega)) ⟨va_cnB 1 hts gX1_putFailed_X4_bit_n49 rfl rfl rfl hK.2.2.2.2.1 (hts _ lk73_wsX1_putFailed) k_yX4_bit ⟨Nat.le_of_ble_eq_true rfl, Nat.le_of_ble_eq_true rfl⟩, hts _ lk74_wsX1_putFailed, trivial⟩ rfl hl.1 rfl rfl dX1_putFailed_40 ⟨Nat.le_of_ble_eq_true rfl, Nat.le_of_ble_eq_true rfl⟩ (fun H locs hP hS => ?_)
      refine lv_iconst (v := (-1 : Int32)) hx hb dX1_putFailed_43 (by decide) ?_
      refine lv_ixor hx hb dX1_putFailed_44 ?_
      refine z_top (y := (nI (2 ^ v) ^^^ (-1 : Int32))) rfl ?_
      refine lv_iand hx hb dX1_putFailed_45 ?_
      refine z_top (y := nI (zset false fa v)) (z_andn _ ho _ hv) ?_
      refine z_top (y := nI (zset b fa v)) (by rw [cb3]) ?_
      refine va_put (D := D) (ci := 1) (v := .int (nI (zset b fa v))) (ty := .int) (C := RX1) (T := TX1) (N := 6) hx hb hts in_wsX1_putFailed_X1 tyX1 tyX1_ok nmX1 hown hK.1 hP hD hS 0 rfl rfl 5 (by decide) (hts _ lk71_wsX1_putFailed) (fun _ h9 => h9) rfl (by decide +kernel) rfl rfl (Nat.le_of_ble_eq_true rfl) dX1_putFailed_46 (fun H locs hP hD hS => ?_)
      have hP : va_P D vwCl [(g, .inr (1, [.ref a1, .ref a2, .ref a3, .ref a4, .ref a5, .int (nI (zset b fa v))]))] H := hP
      have hD : va_D (zIn [(g, .inr (1, [.ref a1, .ref a2, .ref a3, .ref a4, .ref a5, .int (nI fa)]))]) [(g, .inr (1, [.ref a1, .ref a2, .ref a3, .ref a4, .ref a5, .int (nI (zset b fa v))]))] := hD
      refine lv_iload_n hx hb dX1_putFailed_49 rfl (lv_at hl 0 rfl) ?_
      exact z_zretW () hx hb hr hlocks hS dX1_putFailed_50 hP (by rw [hbit]; rfl) (by decide)
    · have cb3 : (b) = true := bI_f0 cb3
      refine lv_aload_n hx hb dX1_putFailed_23 rfl (lv_at hl 1 rfl) ?_
      refine va_get (D := D) (ci := 1) (v := .int (nI fa)) (C := RX1) (T := TX1) (N := 6) hx hb hts in_wsX1_putFailed_X1 hown hK.1 hP 0 rfl rfl 5 (by decide) (hts _ lk71_wsX1_putFailed) (fun _ h9 => h9) rfl dX1_putFailed_24 ?_
      refine lv_iload_n hx hb dX1_putFailed_27 rfl (lv_at hl 2 rfl) ?_
      refine z_callSN (As := [.int (nI v)]) (rest := [.int (nI fa), .ref g]) ⟨hx, hb, hml, hown, hts⟩ hK hP hS (c_X4_bit (k := v) (by omega)) ⟨va_cnB 1 hts gX1_putFailed_X4_bit_n49 rfl rfl rfl hK.2.2.2.2.1 (hts _ lk73_wsX1_putFailed) k_yX4_bit ⟨Nat.le_of_ble_eq_true rfl, Nat.le_of_ble_eq_true rfl⟩, hts _ lk74_wsX1_putFailed, trivial⟩ rfl hl.1 rfl rfl dX1_putFailed_28 ⟨Nat.le_of_ble_eq_true rfl, Nat.le_of_ble_eq_true rfl⟩ (fun H locs hP hS => ?_)
      refine lv_ior hx hb dX1_putFailed_31 ?_
      refine z_top (y := nI (zset true fa v)) (z_or _ ho _ hv) ?_
      refine lv_goto (tgt := 46) hx hb dX1_putFailed_32 (by decide) ?_
      refine z_top (y := nI (zset b fa v)) (by rw [cb3]) ?_
      refine va_put (D := D) (ci := 1) (v := .int (nI (zset b fa v))) (ty := .int) (C := RX1) (T := TX1) (N := 6) hx hb hts in_wsX1_putFailed_X1 tyX1 tyX1_ok nmX1 hown hK.1 hP hD hS 0 rfl rfl 5 (by decide) (hts _ lk71_wsX1_putFailed) (fun _ h9 => h9) rfl (by decide +kernel) rfl rfl (Nat.le_of_ble_eq_true rfl) dX1_putFailed_46 (fun H locs hP hD hS => ?_)
      have hP : va_P D vwCl [(g, .inr (1, [.ref a1, .ref a2, .ref a3, .ref a4, .ref a5, .int (nI (zset b fa v))]))] H := hP
      have hD : va_D (zIn [(g, .inr (1, [.ref a1, .ref a2, .ref a3, .ref a4, .ref a5, .int (nI fa)]))]) [(g, .inr (1, [.ref a1, .ref a2, .ref a3, .ref a4, .ref a5, .int (nI (zset b fa v))]))] := hD
      refine lv_iload_n hx hb dX1_putFailed_49 rfl (lv_at hl 0 rfl) ?_
      exact z_zretW () hx hb hr hlocks hS dX1_putFailed_50 hP (by rw [hbit]; rfl) (by decide)
-- end of the graph
