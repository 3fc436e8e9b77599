theorem z_sh : ∀ k, k < 31 → (nI 1 <<< (nI k &&& 31)) = nI (2 ^ k) := by decide +kernel
theorem z_upN (f : Nat → Nat) (k v j : Nat) : upd (fun j => nI (f j)) k (nI v) j = nI (va_up f k v j) := by unfold upd va_up; split <;> rfl
theorem z_upB (f : Nat → Bool) (k : Nat) (v : Bool) (j : Nat) : upd (fun j => bI (f j)) k (bI v) j = bI (va_up f k v j) := by unfold upd va_up; split <;> rfl
def zcnt (p : Nat → Bool) : Nat → Nat
  | 0 => 0
  | n + 1 => zcnt p n + if p n then 1 else 0
theorem zcnt_le (p : Nat → Bool) : ∀ n, zcnt p n ≤ n
  | 0 => Nat.le_refl 0
  | n + 1 => by have ih := zcnt_le p n; unfold zcnt; split <;> omega
abbrev rmX4_isService : Room := { frames := 0, cells := 0, slots := 0, locals := 0 }
set_option maxHeartbeats 4000000 in
set_option maxRecDepth 100000 in
theorem c_X4_isService {l : Launch} {D : va_G} {cy : zCy} {w : va_W} (x : Int32) : zR l yX4_isService wsX4_isService rmX4_isService D cy w [.int x] (bI (decide (inN 4 x))) := by
  refine zR.of (cc := cX4_isService) (maxL := 1) (ret := (some .boolean)) (by decide) rfl rfl ?_
  intro p e s m below meth c ls C hP hK hl
  obtain ⟨hx, hb, hr, hml, hts, hown, hlocks⟩ := C
  have hS : va_S zF s.heap s.heap [] := va_S.rf
  have hl : lv_has ls 1 [(0, .int x)] := hl
  refine lv_iload_n hx hb dX4_isService_0 rfl (lv_at hl 0 rfl) ?_
  refine lv_if_lt (tgt := 13) hx hb dX4_isService_1 (by decide) (fun cb1 => ?_) (fun cb1 => ?_)
  · have cb1 : (x).toInt < ((0 : Nat) : Int) := ziIN_lt_t (b := 0) (by omega) cb1
    refine lv_iconst (v := nI 0) hx hb dX4_isService_13 (by decide) ?_
    exact z_zret hx hb hr hlocks hS dX4_isService_14 (bI_no (by unfold inN; omega)) (by decide)
  · have cb1 : ¬ ((x).toInt < ((0 : Nat) : Int)) := ziIN_lt_f (b := 0) (by omega) cb1
    refine lv_iload_n hx hb dX4_isService_4 rfl (lv_at hl 0 rfl) ?_
    refine lv_iconst (v := nI 4) hx hb dX4_isService_5 (by decide) ?_
    refine lv_icmp_ge (tgt := 13) hx hb dX4_isService_6 (by decide) (fun cb2 => ?_) (fun cb2 => ?_)
    · have cb2 : ((4 : Nat) : Int) ≤ (x).toInt := ziNI_le_t (a := 4) (by omega) cb2
      refine lv_iconst (v := nI 0) hx hb dX4_isService_13 (by decide) ?_
      exact z_zret hx hb hr hlocks hS dX4_isService_14 (bI_no (by unfold inN; omega)) (by decide)
    · have cb2 : ¬ (((4 : Nat) : Int) ≤ (x).toInt) := ziNI_le_f (a := 4) (by omega) cb2
      refine lv_iconst (v := nI 1) hx hb dX4_isService_9 (by decide) ?_
      refine lv_goto (tgt := 14) hx hb dX4_isService_10 (by decide) ?_
      exact z_zret hx hb hr hlocks hS dX4_isService_14 (bI_yes (by unfold inN; omega)) (by decide)
theorem c_X4_isService_in {l : Launch} {D : va_G} {cy : zCy} {w : va_W} {k : Nat} (hk : k < 4) : zR l yX4_isService wsX4_isService rmX4_isService D cy w [.int (nI k)] (nI 1) := by
  have h := c_X4_isService (l := l) (D := D) (cy := cy) (w := w) (nI k)
  rwa [← bI_yes ((inN_nI (by omega)).mpr hk)] at h
theorem c_X4_isService_m1 {l : Launch} {D : va_G} {cy : zCy} {w : va_W} : zR l yX4_isService wsX4_isService rmX4_isService D cy w [.int (-1)] (nI 0) := by
  have h := c_X4_isService (l := l) (D := D) (cy := cy) (w := w) (-1)
  rwa [← bI_no inN_m1] at h
abbrev rmX4_isType : Room := { frames := 0, cells := 0, slots := 0, locals := 0 }
set_option maxHeartbeats 4000000 in
set_option maxRecDepth 100000 in
theorem c_X4_isType {l : Launch} {D : va_G} {cy : zCy} {w : va_W} (x : Int32) : zR l yX4_isType wsX4_isType rmX4_isType D cy w [.int x] (bI (decide (inN 4 x))) := by
  refine zR.of (cc := cX4_isType) (maxL := 1) (ret := (some .boolean)) (by decide) rfl rfl ?_
  intro p e s m below meth c ls C hP hK hl
  obtain ⟨hx, hb, hr, hml, hts, hown, hlocks⟩ := C
  have hS : va_S zF s.heap s.heap [] := va_S.rf
  have hl : lv_has ls 1 [(0, .int x)] := hl
  refine lv_iload_n hx hb dX4_isType_0 rfl (lv_at hl 0 rfl) ?_
  refine lv_if_lt (tgt := 13) hx hb dX4_isType_1 (by decide) (fun cb1 => ?_) (fun cb1 => ?_)
  · have cb1 : (x).toInt < ((0 : Nat) : Int) := ziIN_lt_t (b := 0) (by omega) cb1
    refine lv_iconst (v := nI 0) hx hb dX4_isType_13 (by decide) ?_
    exact z_zret hx hb hr hlocks hS dX4_isType_14 (bI_no (by unfold inN; omega)) (by decide)
  · have cb1 : ¬ ((x).toInt < ((0 : Nat) : Int)) := ziIN_lt_f (b := 0) (by omega) cb1
    refine lv_iload_n hx hb dX4_isType_4 rfl (lv_at hl 0 rfl) ?_
    refine lv_iconst (v := nI 4) hx hb dX4_isType_5 (by decide) ?_
    refine lv_icmp_ge (tgt := 13) hx hb dX4_isType_6 (by decide) (fun cb2 => ?_) (fun cb2 => ?_)
    · have cb2 : ((4 : Nat) : Int) ≤ (x).toInt := ziNI_le_t (a := 4) (by omega) cb2
      refine lv_iconst (v := nI 0) hx hb dX4_isType_13 (by decide) ?_
      exact z_zret hx hb hr hlocks hS dX4_isType_14 (bI_no (by unfold inN; omega)) (by decide)
    · have cb2 : ¬ (((4 : Nat) : Int) ≤ (x).toInt) := ziNI_le_f (a := 4) (by omega) cb2
      refine lv_iconst (v := nI 1) hx hb dX4_isType_9 (by decide) ?_
      refine lv_goto (tgt := 14) hx hb dX4_isType_10 (by decide) ?_
      exact z_zret hx hb hr hlocks hS dX4_isType_14 (bI_yes (by unfold inN; omega)) (by decide)
theorem c_X4_isType_in {l : Launch} {D : va_G} {cy : zCy} {w : va_W} {k : Nat} (hk : k < 4) : zR l yX4_isType wsX4_isType rmX4_isType D cy w [.int (nI k)] (nI 1) := by
  have h := c_X4_isType (l := l) (D := D) (cy := cy) (w := w) (nI k)
  rwa [← bI_yes ((inN_nI (by omega)).mpr hk)] at h
theorem c_X4_isType_m1 {l : Launch} {D : va_G} {cy : zCy} {w : va_W} : zR l yX4_isType wsX4_isType rmX4_isType D cy w [.int (-1)] (nI 0) := by
  have h := c_X4_isType (l := l) (D := D) (cy := cy) (w := w) (-1)
  rwa [← bI_no inN_m1] at h
abbrev rmX4_isKey : Room := { frames := 0, cells := 0, slots := 0, locals := 0 }
set_option maxHeartbeats 4000000 in
set_option maxRecDepth 100000 in
theorem c_X4_isKey {l : Launch} {D : va_G} {cy : zCy} {w : va_W} (x : Int32) : zR l yX4_isKey wsX4_isKey rmX4_isKey D cy w [.int x] (bI (decide (inN 20 x))) := by
  refine zR.of (cc := cX4_isKey) (maxL := 1) (ret := (some .boolean)) (by decide) rfl rfl ?_
  intro p e s m below meth c ls C hP hK hl
  obtain ⟨hx, hb, hr, hml, hts, hown, hlocks⟩ := C
  have hS : va_S zF s.heap s.heap [] := va_S.rf
  have hl : lv_has ls 1 [(0, .int x)] := hl
  refine lv_iload_n hx hb dX4_isKey_0 rfl (lv_at hl 0 rfl) ?_
  refine lv_if_lt (tgt := 14) hx hb dX4_isKey_1 (by decide) (fun cb1 => ?_) (fun cb1 => ?_)
  · have cb1 : (x).toInt < ((0 : Nat) : Int) := ziIN_lt_t (b := 0) (by omega) cb1
    refine lv_iconst (v := nI 0) hx hb dX4_isKey_14 (by decide) ?_
    exact z_zret hx hb hr hlocks hS dX4_isKey_15 (bI_no (by unfold inN; omega)) (by decide)
  · have cb1 : ¬ ((x).toInt < ((0 : Nat) : Int)) := ziIN_lt_f (b := 0) (by omega) cb1
    refine lv_iload_n hx hb dX4_isKey_4 rfl (lv_at hl 0 rfl) ?_
    refine lv_bipush (v := nI 20) hx hb dX4_isKey_5 (by decide) ?_
    refine lv_icmp_ge (tgt := 14) hx hb dX4_isKey_7 (by decide) (fun cb2 => ?_) (fun cb2 => ?_)
    · have cb2 : ((20 : Nat) : Int) ≤ (x).toInt := ziNI_le_t (a := 20) (by omega) cb2
      refine lv_iconst (v := nI 0) hx hb dX4_isKey_14 (by decide) ?_
      exact z_zret hx hb hr hlocks hS dX4_isKey_15 (bI_no (by unfold inN; omega)) (by decide)
    · have cb2 : ¬ (((20 : Nat) : Int) ≤ (x).toInt) := ziNI_le_f (a := 20) (by omega) cb2
      refine lv_iconst (v := nI 1) hx hb dX4_isKey_10 (by decide) ?_
      refine lv_goto (tgt := 15) hx hb dX4_isKey_11 (by decide) ?_
      exact z_zret hx hb hr hlocks hS dX4_isKey_15 (bI_yes (by unfold inN; omega)) (by decide)
theorem c_X4_isKey_in {l : Launch} {D : va_G} {cy : zCy} {w : va_W} {k : Nat} (hk : k < 20) : zR l yX4_isKey wsX4_isKey rmX4_isKey D cy w [.int (nI k)] (nI 1) := by
  have h := c_X4_isKey (l := l) (D := D) (cy := cy) (w := w) (nI k)
  rwa [← bI_yes ((inN_nI (by omega)).mpr hk)] at h
theorem c_X4_isKey_m1 {l : Launch} {D : va_G} {cy : zCy} {w : va_W} : zR l yX4_isKey wsX4_isKey rmX4_isKey D cy w [.int (-1)] (nI 0) := by
  have h := c_X4_isKey (l := l) (D := D) (cy := cy) (w := w) (-1)
  rwa [← bI_no inN_m1] at h
abbrev rmX4_isSlot : Room := { frames := 0, cells := 0, slots := 0, locals := 0 }
set_option maxHeartbeats 4000000 in
set_option maxRecDepth 100000 in
theorem c_X4_isSlot {l : Launch} {D : va_G} {cy : zCy} {w : va_W} (x : Int32) : zR l yX4_isSlot wsX4_isSlot rmX4_isSlot D cy w [.int x] (bI (decide (inN 32 x))) := by
  refine zR.of (cc := cX4_isSlot) (maxL := 1) (ret := (some .boolean)) (by decide) rfl rfl ?_
  intro p e s m below meth c ls C hP hK hl
  obtain ⟨hx, hb, hr, hml, hts, hown, hlocks⟩ := C
  have hS : va_S zF s.heap s.heap [] := va_S.rf
  have hl : lv_has ls 1 [(0, .int x)] := hl
  refine lv_iload_n hx hb dX4_isSlot_0 rfl (lv_at hl 0 rfl) ?_
  refine lv_if_lt (tgt := 14) hx hb dX4_isSlot_1 (by decide) (fun cb1 => ?_) (fun cb1 => ?_)
  · have cb1 : (x).toInt < ((0 : Nat) : Int) := ziIN_lt_t (b := 0) (by omega) cb1
    refine lv_iconst (v := nI 0) hx hb dX4_isSlot_14 (by decide) ?_
    exact z_zret hx hb hr hlocks hS dX4_isSlot_15 (bI_no (by unfold inN; omega)) (by decide)
  · have cb1 : ¬ ((x).toInt < ((0 : Nat) : Int)) := ziIN_lt_f (b := 0) (by omega) cb1
    refine lv_iload_n hx hb dX4_isSlot_4 rfl (lv_at hl 0 rfl) ?_
    refine lv_bipush (v := nI 32) hx hb dX4_isSlot_5 (by decide) ?_
    refine lv_icmp_ge (tgt := 14) hx hb dX4_isSlot_7 (by decide) (fun cb2 => ?_) (fun cb2 => ?_)
    · have cb2 : ((32 : Nat) : Int) ≤ (x).toInt := ziNI_le_t (a := 32) (by omega) cb2
      refine lv_iconst (v := nI 0) hx hb dX4_isSlot_14 (by decide) ?_
      exact z_zret hx hb hr hlocks hS dX4_isSlot_15 (bI_no (by unfold inN; omega)) (by decide)
    · have cb2 : ¬ (((32 : Nat) : Int) ≤ (x).toInt) := ziNI_le_f (a := 32) (by omega) cb2
      refine lv_iconst (v := nI 1) hx hb dX4_isSlot_10 (by decide) ?_
      refine lv_goto (tgt := 15) hx hb dX4_isSlot_11 (by decide) ?_
      exact z_zret hx hb hr hlocks hS dX4_isSlot_15 (bI_yes (by unfold inN; omega)) (by decide)
theorem c_X4_isSlot_in {l : Launch} {D : va_G} {cy : zCy} {w : va_W} {k : Nat} (hk : k < 32) : zR l yX4_isSlot wsX4_isSlot rmX4_isSlot D cy w [.int (nI k)] (nI 1) := by
  have h := c_X4_isSlot (l := l) (D := D) (cy := cy) (w := w) (nI k)
  rwa [← bI_yes ((inN_nI (by omega)).mpr hk)] at h
theorem c_X4_isSlot_m1 {l : Launch} {D : va_G} {cy : zCy} {w : va_W} : zR l yX4_isSlot wsX4_isSlot rmX4_isSlot D cy w [.int (-1)] (nI 0) := by
  have h := c_X4_isSlot (l := l) (D := D) (cy := cy) (w := w) (-1)
  rwa [← bI_no inN_m1] at h
abbrev rmX4_slotOf : Room := { frames := 0, cells := 0, slots := 0, locals := 0 }
set_option maxHeartbeats 4000000 in
set_option maxRecDepth 100000 in
theorem c_X4_slotOf {l : Launch} {D : va_G} {cy : zCy} {w : va_W} (a b : Nat) : zR l yX4_slotOf wsX4_slotOf rmX4_slotOf D cy w [.int (nI a), .int (nI b)] (nI (a * 8 + b)) := by
  refine zR.of (cc := cX4_slotOf) (maxL := 2) (ret := (some .int)) (by decide) rfl rfl ?_
  intro p e s m below meth c ls C hP hK hl
  obtain ⟨hx, hb, hr, hml, hts, hown, hlocks⟩ := C
  have hS : va_S zF s.heap s.heap [] := va_S.rf
  have hl : lv_has ls 2 [(0, .int (nI a)), (1, .int (nI b))] := hl
  refine lv_iload_n hx hb dX4_slotOf_0 rfl (lv_at hl 0 rfl) ?_
  refine lv_bipush (v := nI 8) hx hb dX4_slotOf_1 (by decide) ?_
  refine lv_imul hx hb dX4_slotOf_3 ?_
  refine z_top (y := nI (a * 8)) (pk_mul _ _) ?_
  refine lv_iload_n hx hb dX4_slotOf_4 rfl (lv_at hl 1 rfl) ?_
  refine lv_iadd hx hb dX4_slotOf_5 ?_
  refine z_top (y := nI ((a * 8) + b)) (nI_add _ _) ?_
  exact z_iret hx hb hr hlocks hS dX4_slotOf_6 rfl
abbrev rmX4_bit : Room := { frames := 0, cells := 0, slots := 0, locals := 0 }
set_option maxHeartbeats 4000000 in
set_option maxRecDepth 100000 in
theorem c_X4_bit {l : Launch} {D : va_G} {cy : zCy} {w : va_W} {k : Nat} (hk : k < 31) : zR l yX4_bit wsX4_bit rmX4_bit D cy w [.int (nI k)] (nI (2 ^ k)) := by
  refine zR.of (cc := cX4_bit) (maxL := 1) (ret := (some .int)) (by decide) rfl rfl ?_
  intro p e s m below meth c ls C hP hK hl
  obtain ⟨hx, hb, hr, hml, hts, hown, hlocks⟩ := C
  have hS : va_S zF s.heap s.heap [] := va_S.rf
  have hl : lv_has ls 1 [(0, .int (nI k))] := hl
  refine lv_iload_n hx hb dX4_bit_0 rfl (lv_at hl 0 rfl) ?_
  refine lv_if_ge (tgt := 8) hx hb dX4_bit_1 (by decide) (fun cb1 => ?_) (fun cb1 => ?_)
  · have cb1 : 0 ≤ k := zn_ge_t (a := k) (b := 0) (by omega) (by omega) cb1
    refine lv_iconst (v := nI 1) hx hb dX4_bit_8 (by decide) ?_
    refine lv_iload_n hx hb dX4_bit_9 rfl (lv_at hl 0 rfl) ?_
    refine lv_ishl hx hb dX4_bit_10 ?_
    refine z_top (y := nI (2 ^ k)) (z_sh k hk) ?_
    exact z_iret hx hb hr hlocks hS dX4_bit_11 rfl
  · have cb1 : ¬ (0 ≤ k) := zn_ge_f (a := k) (b := 0) (by omega) (by omega) cb1
    exact absurd (Nat.zero_le _) cb1
set_option maxHeartbeats 4000000 in
set_option maxRecDepth 100000 in
theorem c_X4_bit_m1 {l : Launch} {D : va_G} {cy : zCy} {w : va_W} : zR l yX4_bit wsX4_bit rmX4_bit D cy w [.int ((-1 : Int32))] (nI 0) := by
  refine zR.of (cc := cX4_bit) (maxL := 1) (ret := (some .int)) (by decide) rfl rfl ?_
  intro p e s m below meth c ls C hP hK hl
  obtain ⟨hx, hb, hr, hml, hts, hown, hlocks⟩ := C
  have hS : va_S zF s.heap s.heap [] := va_S.rf
  have hl : lv_has ls 1 [(0, .int ((-1 : Int32)))] := hl
  refine lv_iload_n hx hb dX4_bit_0 rfl (lv_at hl 0 rfl) ?_
  refine lv_if_ge (tgt := 8) hx hb dX4_bit_1 (by decide) (fun cb1 => ?_) (fun cb1 => ?_)
  · have cb1 : ((0 : Nat) : Int) ≤ ((-1 : Int32)).toInt := ziNI_le_t (a := 0) (by omega) cb1
    exact absurd cb1 (by decide)
  · have cb1 : ¬ (((0 : Nat) : Int) ≤ ((-1 : Int32)).toInt) := ziNI_le_f (a := 0) (by omega) cb1
    refine lv_iconst (v := nI 0) hx hb dX4_bit_4 (by decide) ?_
    refine lv_goto (tgt := 11) hx hb dX4_bit_5 (by decide) ?_
    exact z_iret hx hb hr hlocks hS dX4_bit_11 rfl
set_option maxRecDepth 20000 in
theorem lk0_wsX3_size : Cond.fieldLink RX3 18 "QueryGateway$Query" "count" "I" ∈ wsX3_size := by decide +kernel
set_option maxRecDepth 20000 in
theorem in_wsX3_size_X3 : ∀ w ∈ wsX30, w ∈ wsX3_size := by decide +kernel
abbrev rmX3_size : Room := { frames := 0, cells := 0, slots := 0, locals := 0 }
set_option maxHeartbeats 4000000 in
set_option maxRecDepth 100000 in
theorem c_X3_size {l : Launch} {D : va_G} {cy : zCy} {w : va_W} {i q a b : Nat} {ty : Int32} {nn : Nat} (h : w[i]? = some (q, .inr (3, [.ref a, .ref b, .int ty, .int (nI nn)]))) : zR l yX3_size wsX3_size rmX3_size D cy w [.ref q] (nI nn) := by
  refine zR.of (cc := cX3_size) (maxL := 1) (ret := (some .int)) (by decide) rfl rfl ?_
  intro p e s m below meth c ls C hP hK hl
  obtain ⟨hx, hb, hr, hml, hts, hown, hlocks⟩ := C
  have hS : va_S zF s.heap s.heap [] := va_S.rf
  have hl : lv_has ls 1 [(0, .ref q)] := hl
  refine lv_aload_n hx hb dX3_size_0 rfl (lv_at hl 0 rfl) ?_
  refine va_get (D := D) (ci := 3) (v := .int (nI nn)) (C := RX3) (T := TX3) (N := 4) hx hb hts in_wsX3_size_X3 hown hK.1 hP i h rfl 3 (by decide) (hts _ lk0_wsX3_size) (fun _ h9 => h9) rfl dX3_size_1 ?_
  exact z_iret hx hb hr hlocks hS dX3_size_4 rfl
set_option maxRecDepth 20000 in
theorem lk2_wsX3_type : Cond.fieldLink RX3 22 "QueryGateway$Query" "type" "I" ∈ wsX3_type := by decide +kernel
set_option maxRecDepth 20000 in
theorem in_wsX3_type_X3 : ∀ w ∈ wsX30, w ∈ wsX3_type := by decide +kernel
abbrev rmX3_type : Room := { frames := 0, cells := 0, slots := 0, locals := 0 }
set_option maxHeartbeats 4000000 in
set_option maxRecDepth 100000 in
theorem c_X3_type {l : Launch} {D : va_G} {cy : zCy} {w : va_W} {i q a b : Nat} {ty : Int32} {nn : Nat} (h : w[i]? = some (q, .inr (3, [.ref a, .ref b, .int ty, .int (nI nn)]))) : zR l yX3_type wsX3_type rmX3_type D cy w [.ref q] (ty) := by
  refine zR.of (cc := cX3_type) (maxL := 1) (ret := (some .int)) (by decide) rfl rfl ?_
  intro p e s m below meth c ls C hP hK hl
  obtain ⟨hx, hb, hr, hml, hts, hown, hlocks⟩ := C
  have hS : va_S zF s.heap s.heap [] := va_S.rf
  have hl : lv_has ls 1 [(0, .ref q)] := hl
  refine lv_aload_n hx hb dX3_type_0 rfl (lv_at hl 0 rfl) ?_
  refine va_get (D := D) (ci := 3) (v := .int ty) (C := RX3) (T := TX3) (N := 4) hx hb hts in_wsX3_type_X3 hown hK.1 hP i h rfl 2 (by decide) (hts _ lk2_wsX3_type) (fun _ h9 => h9) rfl dX3_type_1 ?_
  exact z_iret hx hb hr hlocks hS dX3_type_4 rfl
set_option maxRecDepth 20000 in
theorem lk4_wsX3_has : Cond.fieldLink RX3 18 "QueryGateway$Query" "count" "I" ∈ wsX3_has := by decide +kernel
set_option maxRecDepth 20000 in
theorem in_wsX3_has_X3 : ∀ w ∈ wsX30, w ∈ wsX3_has := by decide +kernel
abbrev rmX3_has : Room := { frames := 0, cells := 0, slots := 0, locals := 0 }
set_option maxHeartbeats 4000000 in
set_option maxRecDepth 100000 in
theorem c_X3_has {l : Launch} {D : va_G} {cy : zCy} {w : va_W} {i q a b : Nat} {ty : Int32} {nn : Nat} (h : w[i]? = some (q, .inr (3, [.ref a, .ref b, .int ty, .int (nI nn)]))) (hn : nn ≤ 12) (x : Int32) : zR l yX3_has wsX3_has rmX3_has D cy w [.ref q, .int x] (bI (decide (inN nn x))) := by
  refine zR.of (cc := cX3_has) (maxL := 2) (ret := (some .boolean)) (by decide) rfl rfl ?_
  intro p e s m below meth c ls C hP hK hl
  obtain ⟨hx, hb, hr, hml, hts, hown, hlocks⟩ := C
  have hS : va_S zF s.heap s.heap [] := va_S.rf
  have hl : lv_has ls 2 [(0, .ref q), (1, .int x)] := hl
  refine lv_iload_n hx hb dX3_has_0 rfl (lv_at hl 1 rfl) ?_
  refine lv_if_lt (tgt := 22) hx hb dX3_has_1 (by decide) (fun cb1 => ?_) (fun cb1 => ?_)
  · have cb1 : (x).toInt < ((0 : Nat) : Int) := ziIN_lt_t (b := 0) (by omega) cb1
    refine lv_iconst (v := nI 0) hx hb dX3_has_22 (by decide) ?_
    exact z_zret hx hb hr hlocks hS dX3_has_23 (bI_no (by unfold inN; omega)) (by decide)
  · have cb1 : ¬ ((x).toInt < ((0 : Nat) : Int)) := ziIN_lt_f (b := 0) (by omega) cb1
    refine lv_iload_n hx hb dX3_has_4 rfl (lv_at hl 1 rfl) ?_
    refine lv_aload_n hx hb dX3_has_5 rfl (lv_at hl 0 rfl) ?_
    refine va_get (D := D) (ci := 3) (v := .int (nI nn)) (C := RX3) (T := TX3) (N := 4) hx hb hts in_wsX3_has_X3 hown hK.1 hP i h rfl 3 (by decide) (hts _ lk4_wsX3_has) (fun _ h9 => h9) rfl dX3_has_6 ?_
    refine lv_icmp_ge (tgt := 22) hx hb dX3_has_9 (by decide) (fun cb2 => ?_) (fun cb2 => ?_)
    · have cb2 : ((nn : Nat) : Int) ≤ (x).toInt := ziNI_le_t (a := nn) (by omega) cb2
      refine lv_iconst (v := nI 0) hx hb dX3_has_22 (by decide) ?_
      exact z_zret hx hb hr hlocks hS dX3_has_23 (bI_no (by unfold inN; omega)) (by decide)
    · have cb2 : ¬ (((nn : Nat) : Int) ≤ (x).toInt) := ziNI_le_f (a := nn) (by omega) cb2
      refine lv_iload_n hx hb dX3_has_12 rfl (lv_at hl 1 rfl) ?_
      refine lv_bipush (v := nI 12) hx hb dX3_has_13 (by decide) ?_
      refine lv_icmp_ge (tgt := 22) hx hb dX3_has_15 (by decide) (fun cb3 => ?_) (fun cb3 => ?_)
      · have cb3 : ((12 : Nat) : Int) ≤ (x).toInt := ziNI_le_t (a := 12) (by omega) cb3
        refine lv_iconst (v := nI 0) hx hb dX3_has_22 (by decide) ?_
        exact z_zret hx hb hr hlocks hS dX3_has_23 (bI_no (by unfold inN; omega)) (by decide)
      · have cb3 : ¬ (((12 : Nat) : Int) ≤ (x).toInt) := ziNI_le_f (a := 12) (by omega) cb3
        refine lv_iconst (v := nI 1) hx hb dX3_has_18 (by decide) ?_
        refine lv_goto (tgt := 23) hx hb dX3_has_19 (by decide) ?_
        exact z_zret hx hb hr hlocks hS dX3_has_23 (bI_yes (by unfold inN; omega)) (by decide)
theorem c_X3_has_in {l : Launch} {D : va_G} {cy : zCy} {w : va_W} {i q a b : Nat} {ty : Int32} {nn : Nat} (h : w[i]? = some (q, .inr (3, [.ref a, .ref b, .int ty, .int (nI nn)]))) (hn : nn ≤ 12) {k : Nat} (hk : k < nn) : zR l yX3_has wsX3_has rmX3_has D cy w [.ref q, .int (nI k)] (nI 1) := by
  have h := c_X3_has (l := l) (D := D) (cy := cy) h hn (nI k)
  rwa [← bI_yes ((inN_nI (by omega)).mpr hk)] at h
theorem c_X3_has_m1 {l : Launch} {D : va_G} {cy : zCy} {w : va_W} {i q a b : Nat} {ty : Int32} {nn : Nat} (h : w[i]? = some (q, .inr (3, [.ref a, .ref b, .int ty, .int (nI nn)]))) (hn : nn ≤ 12) : zR l yX3_has wsX3_has rmX3_has D cy w [.ref q, .int (-1)] (nI 0) := by
  have h := c_X3_has (l := l) (D := D) (cy := cy) h hn (-1)
  rwa [← bI_no inN_m1] at h
theorem k_yX3_has : yX3_has.cls = RX3 ∧ yX3_has.cls ≠ "java/lang/invoke/MethodHandle" ∧ yX3_has.cls ≠ "java/lang/invoke/VarHandle" ∧ (parseMethodDescriptor yX3_has.desc).map (fun d => d.parameters.length) = some 1 := by decide +kernel
set_option maxRecDepth 20000 in
theorem lk7_wsX3_aboveOf : Cond.fieldLink RX3 9 "QueryGateway$Query" "above" "[I" ∈ wsX3_aboveOf := by decide +kernel
set_option maxRecDepth 20000 in
theorem in_wsX3_aboveOf_X3 : ∀ w ∈ wsX30, w ∈ wsX3_aboveOf := by decide +kernel
abbrev rmX3_aboveOf : Room := { frames := 1, cells := 0, slots := 0, locals := 21 }
set_option maxHeartbeats 4000000 in
set_option maxRecDepth 100000 in
theorem c_X3_aboveOf {l : Launch} {D : va_G} {cy : zCy} {w : va_W} {i q a b : Nat} {ty : Int32} {nn : Nat} (h : w[i]? = some (q, .inr (3, [.ref a, .ref b, .int ty, .int (nI nn)]))) {j : Nat} {ab : Nat → Int32} (ha : w[j]? = some (a, .inl (cy.1, 12, .inl ab))) (hn : nn ≤ 12) {z : Nat} (hz : z < nn) : zR l yX3_aboveOf wsX3_aboveOf rmX3_aboveOf D cy w [.ref q, .int (nI z)] (ab z) := by
  refine zR.of (cc := cX3_aboveOf) (maxL := 2) (ret := (some .int)) (by decide) rfl rfl ?_
  intro p e s m below meth c ls C hP hK hl
  obtain ⟨hx, hb, hr, hml, hts, hown, hlocks⟩ := C
  have hS : va_S zF s.heap s.heap [] := va_S.rf
  have hl : lv_has ls 2 [(0, .ref q), (1, .int (nI z))] := hl
  refine lv_aload_n hx hb dX3_aboveOf_0 rfl (lv_at hl 0 rfl) ?_
  refine lv_iload_n hx hb dX3_aboveOf_1 rfl (lv_at hl 1 rfl) ?_
  refine z_callV (b := q) (As := [.int (nI z)]) (rest := []) ⟨hx, hb, hml, hown, hts⟩ hK hP hS (c_X3_has_in h hn hz) (cwV 1 hts gX3_aboveOf_X3_has rfl rfl rfl k_yX3_has ⟨Nat.le_of_ble_eq_true rfl, Nat.le_of_ble_eq_true rfl⟩) i 3 h rfl rfl rfl hl.1 rfl rfl dX3_aboveOf_2 ⟨Nat.le_of_ble_eq_true rfl, Nat.le_of_ble_eq_true rfl⟩ (fun H locs hP hS => ?_)
  refine lv_if_eq (tgt := 17) hx hb dX3_aboveOf_5 (by decide) (fun cb1 => ?_) (fun cb1 => ?_)
  · have cb1 : 1 = 0 := zn_eq_t (a := 1) (b := 0) (by omega) (by omega) cb1
    exact absurd cb1 (by decide)
  · have cb1 : ¬ (1 = 0) := zn_eq_f (a := 1) (b := 0) (by omega) (by omega) cb1
    refine lv_aload_n hx hb dX3_aboveOf_8 rfl (lv_at hl 0 rfl) ?_
    refine va_get (D := D) (ci := 3) (v := .ref a) (C := RX3) (T := TX3) (N := 4) hx hb hts in_wsX3_aboveOf_X3 hown hK.1 hP i h rfl 0 (by decide) (hts _ lk7_wsX3_aboveOf) (fun _ h9 => h9) rfl dX3_aboveOf_9 ?_
    refine lv_iload_n hx hb dX3_aboveOf_12 rfl (lv_at hl 1 rfl) ?_
    refine z_iald (v := ab z) hx hb hK.1 hP j 0 ha rfl (k := z) (by omega) (by decide) rfl dX3_aboveOf_13 ?_
    refine lv_goto (tgt := 18) hx hb dX3_aboveOf_14 (by decide) ?_
    exact z_iret hx hb hr hlocks hS dX3_aboveOf_18 rfl
set_option maxRecDepth 20000 in
theorem lk9_wsX3_slotAt : Cond.fieldLink RX3 15 "QueryGateway$Query" "slots" "[I" ∈ wsX3_slotAt := by decide +kernel
set_option maxRecDepth 20000 in
theorem in_wsX3_slotAt_X3 : ∀ w ∈ wsX30, w ∈ wsX3_slotAt := by decide +kernel
abbrev rmX3_slotAt : Room := { frames := 1, cells := 0, slots := 0, locals := 21 }
set_option maxHeartbeats 4000000 in
set_option maxRecDepth 100000 in
theorem c_X3_slotAt {l : Launch} {D : va_G} {cy : zCy} {w : va_W} {i q a b : Nat} {ty : Int32} {nn : Nat} (h : w[i]? = some (q, .inr (3, [.ref a, .ref b, .int ty, .int (nI nn)]))) {j : Nat} {sl : Nat → Nat} (hsl : w[j]? = some (b, .inl (cy.1, 12, .inl (fun z => nI (sl z))))) (hn : nn ≤ 12) {z : Nat} (hz : z < nn) : zR l yX3_slotAt wsX3_slotAt rmX3_slotAt D cy w [.ref q, .int (nI z)] (nI (sl z)) := by
  refine zR.of (cc := cX3_slotAt) (maxL := 2) (ret := (some .int)) (by decide) rfl rfl ?_
  intro p e s m below meth c ls C hP hK hl
  obtain ⟨hx, hb, hr, hml, hts, hown, hlocks⟩ := C
  have hS : va_S zF s.heap s.heap [] := va_S.rf
  have hl : lv_has ls 2 [(0, .ref q), (1, .int (nI z))] := hl
  refine lv_aload_n hx hb dX3_slotAt_0 rfl (lv_at hl 0 rfl) ?_
  refine lv_iload_n hx hb dX3_slotAt_1 rfl (lv_at hl 1 rfl) ?_
  refine z_callV (b := q) (As := [.int (nI z)]) (rest := []) ⟨hx, hb, hml, hown, hts⟩ hK hP hS (c_X3_has_in h hn hz) (cwV 1 hts gX3_slotAt_X3_has rfl rfl rfl k_yX3_has ⟨Nat.le_of_ble_eq_true rfl, Nat.le_of_ble_eq_true rfl⟩) i 3 h rfl rfl rfl hl.1 rfl rfl dX3_slotAt_2 ⟨Nat.le_of_ble_eq_true rfl, Nat.le_of_ble_eq_true rfl⟩ (fun H locs hP hS => ?_)
  refine lv_if_eq (tgt := 17) hx hb dX3_slotAt_5 (by decide) (fun cb1 => ?_) (fun cb1 => ?_)
  · have cb1 : 1 = 0 := zn_eq_t (a := 1) (b := 0) (by omega) (by omega) cb1
    exact absurd cb1 (by decide)
  · have cb1 : ¬ (1 = 0) := zn_eq_f (a := 1) (b := 0) (by omega) (by omega) cb1
    refine lv_aload_n hx hb dX3_slotAt_8 rfl (lv_at hl 0 rfl) ?_
    refine va_get (D := D) (ci := 3) (v := .ref b) (C := RX3) (T := TX3) (N := 4) hx hb hts in_wsX3_slotAt_X3 hown hK.1 hP i h rfl 1 (by decide) (hts _ lk9_wsX3_slotAt) (fun _ h9 => h9) rfl dX3_slotAt_9 ?_
    refine lv_iload_n hx hb dX3_slotAt_12 rfl (lv_at hl 1 rfl) ?_
    refine z_iald (v := nI (sl z)) hx hb hK.1 hP j 0 hsl rfl (k := z) (by omega) (by decide) rfl dX3_slotAt_13 ?_
    refine lv_goto (tgt := 18) hx hb dX3_slotAt_14 (by decide) ?_
    exact z_iret hx hb hr hlocks hS dX3_slotAt_18 rfl
set_option maxRecDepth 20000 in
theorem lk11_wsX3_hasRoom : Cond.fieldLink RX3 18 "QueryGateway$Query" "count" "I" ∈ wsX3_hasRoom := by decide +kernel
set_option maxRecDepth 20000 in
theorem in_wsX3_hasRoom_X3 : ∀ w ∈ wsX30, w ∈ wsX3_hasRoom := by decide +kernel
theorem k_yX3_aboveOf : yX3_aboveOf.cls = RX3 ∧ yX3_aboveOf.cls ≠ "java/lang/invoke/MethodHandle" ∧ yX3_aboveOf.cls ≠ "java/lang/invoke/VarHandle" ∧ (parseMethodDescriptor yX3_aboveOf.desc).map (fun d => d.parameters.length) = some 1 := by decide +kernel
theorem k_yX3_slotAt : yX3_slotAt.cls = RX3 ∧ yX3_slotAt.cls ≠ "java/lang/invoke/MethodHandle" ∧ yX3_slotAt.cls ≠ "java/lang/invoke/VarHandle" ∧ (parseMethodDescriptor yX3_slotAt.desc).map (fun d => d.parameters.length) = some 1 := by decide +kernel
abbrev rmX3_hasRoom : Room := { frames := 2, cells := 0, slots := 0, locals := 42 }
set_option maxHeartbeats 4000000 in
set_option maxRecDepth 100000 in
theorem c_X3_hasRoom {l : Launch} {D : va_G} {cy : zCy} {w : va_W} {i q a b : Nat} {ty : Int32} {nn : Nat} (h : w[i]? = some (q, .inr (3, [.ref a, .ref b, .int ty, .int (nI nn)]))) {j : Nat} {ab : Nat → Int32} (ha : w[j]? = some (a, .inl (cy.1, 12, .inl ab))) {j2 : Nat} {sl : Nat → Nat} (hsl : w[j2]? = some (b, .inl (cy.1, 12, .inl (fun z => nI (sl z))))) (hn : nn ≤ 12) (x : Int32) (s0 : Nat) (hs0 : s0 < 2 ^ 31) (hsb : ∀ k, k < nn → sl k < 2 ^ 31) : zR l yX3_hasRoom wsX3_hasRoom rmX3_hasRoom D cy w [.ref q, .int x, .int (nI s0)] (bI (decide ((∀ k, k < nn → ¬ (ab k = x ∧ sl k = s0)) ∧ nn < 12 ∧ zcnt (fun k => decide (ab k = x)) nn < 4))) := by
  refine zR.of (cc := cX3_hasRoom) (maxL := 5) (ret := (some .boolean)) (by decide) rfl rfl ?_
  intro p e s m below meth c ls C hP hK hl
  obtain ⟨hx, hb, hr, hml, hts, hown, hlocks⟩ := C
  have hS : va_S zF s.heap s.heap [] := va_S.rf
  have hl : lv_has ls 5 [(0, .ref q), (1, .int x), (2, .int (nI s0))] := hl
  refine lv_iconst (v := nI 0) hx hb dX3_hasRoom_0 (by decide) ?_
  refine lv_istore_n (lv' := [(3, .int (nI 0)), (0, .ref q), (1, .int x), (2, .int (nI s0))]) hx hb dX3_hasRoom_1 rfl hl (by decide) rfl (fun ls hl => ?_)
  refine lv_iconst (v := nI 0) hx hb dX3_hasRoom_2 (by decide) ?_
  refine lv_istore (lv' := [(4, .int (nI 0)), (3, .int (nI 0)), (0, .ref q), (1, .int x), (2, .int (nI s0))]) hx hb dX3_hasRoom_3 hl (by decide) rfl (fun ls hl => ?_)
  have lp : ∀ (fuel : Nat) (i0 t : Nat), nn + 1 ≤ i0 + fuel → i0 ≤ nn → (t = zcnt (fun k => decide (ab k = x)) i0) → (∀ k, k < i0 → ¬ (ab k = x ∧ sl k = s0)) → ∀ (H : Heap) (locs : List Loc) (ls : Array Slot), va_P D vwCl w H → va_S zF s.heap H locs → lv_has ls 5 [(0, .ref q), (1, .int x), (2, .int (nI s0)), (3, .int (nI t)), (4, .int (nI i0))] → W p l e rmX3_hasRoom s m [.ref q, .int x, .int (nI s0)].toArray below meth c H locs 0 0 (zRQ below [.ref q, .int x, .int (nI s0)].toArray s (bI (decide ((∀ k, k < nn → ¬ (ab k = x ∧ sl k = s0)) ∧ nn < 12 ∧ zcnt (fun k => decide (ab k = x)) nn < 4)))) (F0 m 5 ls []) := by
    intro fuel
    induction fuel with
    | zero => intro i0 t hfu hi ht hno; exact absurd hfu (by omega)
    | succ fuel ih_lp =>
      intro i0 t hfu hi ht hno H locs ls hP hS hl
      have hlt : t ≤ i0 := by rw [ht]; exact zcnt_le _ _
      refine lv_iload hx hb dX3_hasRoom_5 (lv_at hl 4 rfl) ?_
      refine lv_aload_n hx hb dX3_hasRoom_7 rfl (lv_at hl 0 rfl) ?_
      refine va_get (D := D) (ci := 3) (v := .int (nI nn)) (C := RX3) (T := TX3) (N := 4) hx hb hts in_wsX3_hasRoom_X3 hown hK.1 hP i h rfl 3 (by decide) (hts _ lk11_wsX3_hasRoom) (fun _ h9 => h9) rfl dX3_hasRoom_8 ?_
      refine lv_icmp_ge (tgt := 45) hx hb dX3_hasRoom_11 (by decide) (fun cb1 => ?_) (fun cb1 => ?_)
      · have cb1 : nn ≤ i0 := zn_ge_t (a := i0) (b := nn) (by omega) (by omega) cb1
        refine lv_aload_n hx hb dX3_hasRoom_45 rfl (lv_at hl 0 rfl) ?_
        refine va_get (D := D) (ci := 3) (v := .int (nI nn)) (C := RX3) (T := TX3) (N := 4) hx hb hts in_wsX3_hasRoom_X3 hown hK.1 hP i h rfl 3 (by decide) (hts _ lk11_wsX3_hasRoom) (fun _ h9 => h9) rfl dX3_hasRoom_46 ?_
        refine lv_bipush (v := nI 12) hx hb dX3_hasRoom_49 (by decide) ?_
        refine lv_icmp_ge (tgt := 63) hx hb dX3_hasRoom_51 (by decide) (fun cb2 => ?_) (fun cb2 => ?_)
        · have cb2 : 12 ≤ nn := zn_ge_t (a := nn) (b := 12) (by omega) (by omega) cb2
          refine lv_iconst (v := nI 0) hx hb dX3_hasRoom_63 (by decide) ?_
          exact z_zret hx hb hr hlocks hS dX3_hasRoom_64 (bI_no (fun hh => by obtain rfl : i0 = nn := (by omega); have h2 := hh.2; omega)) (by decide)
        · have cb2 : ¬ (12 ≤ nn) := zn_ge_f (a := nn) (b := 12) (by omega) (by omega) cb2
          refine lv_iload_n hx hb dX3_hasRoom_54 rfl (lv_at hl 3 rfl) ?_
          refine lv_iconst (v := nI 4) hx hb dX3_hasRoom_55 (by decide) ?_
          refine lv_icmp_ge (tgt := 63) hx hb dX3_hasRoom_56 (by decide) (fun cb3 => ?_) (fun cb3 => ?_)
          · have cb3 : 4 ≤ t := zn_ge_t (a := t) (b := 4) (by omega) (by omega) cb3
            refine lv_iconst (v := nI 0) hx hb dX3_hasRoom_63 (by decide) ?_
            exact z_zret hx hb hr hlocks hS dX3_hasRoom_64 (bI_no (fun hh => by obtain rfl : i0 = nn := (by omega); have h2 := hh.2; omega)) (by decide)
          · have cb3 : ¬ (4 ≤ t) := zn_ge_f (a := t) (b := 4) (by omega) (by omega) cb3
            refine lv_iconst (v := nI 1) hx hb dX3_hasRoom_59 (by decide) ?_
            refine lv_goto (tgt := 64) hx hb dX3_hasRoom_60 (by decide) ?_
            exact z_zret hx hb hr hlocks hS dX3_hasRoom_64 (bI_yes ⟨fun k hk => hno k (by omega), by omega, by obtain rfl : i0 = nn := (by omega); omega⟩) (by decide)
      · have cb1 : ¬ (nn ≤ i0) := zn_ge_f (a := i0) (b := nn) (by omega) (by omega) cb1
        refine lv_aload_n hx hb dX3_hasRoom_14 rfl (lv_at hl 0 rfl) ?_
        refine lv_iload hx hb dX3_hasRoom_15 (lv_at hl 4 rfl) ?_
        refine z_callV (b := q) (As := [.int (nI i0)]) (rest := []) ⟨hx, hb, hml, hown, hts⟩ hK hP hS (c_X3_aboveOf h ha hn (z := i0) (by omega)) (cwV 1 hts gX3_hasRoom_X3_aboveOf rfl rfl rfl k_yX3_aboveOf ⟨Nat.le_of_ble_eq_true rfl, Nat.le_of_ble_eq_true rfl⟩) i 3 h rfl rfl rfl hl.1 rfl rfl dX3_hasRoom_17 ⟨Nat.le_of_ble_eq_true rfl, Nat.le_of_ble_eq_true rfl⟩ (fun H locs hP hS => ?_)
        refine lv_iload_n hx hb dX3_hasRoom_20 rfl (lv_at hl 1 rfl) ?_
        refine lv_icmp_ne (tgt := 39) hx hb dX3_hasRoom_21 (by decide) (fun cb4 => ?_) (fun cb4 => ?_)
        · skip
          refine lv_iinc (v := nI (i0 + 1)) (lv' := [(4, .int (nI (i0 + 1))), (0, .ref q), (1, .int x), (2, .int (nI s0)), (3, .int (nI t))]) hx hb dX3_hasRoom_39 hl (k := 4) rfl (z_inc _) (by decide) rfl (fun ls hl => ?_)
          refine lv_goto (tgt := 5) hx hb dX3_hasRoom_42 (by decide) ?_
          exact ih_lp (i0 + 1) (t) (by omega) (by omega) (by rw [zcnt, ht]; simp [*]) (lt_s hno (fun ⟨h1, h2⟩ => by contradiction)) _ _ _ hP hS (lv_sub hl [1, 2, 3, 4, 0] rfl)
        · skip
          have hsi := hsb i0 (by omega)
          refine lv_iinc (v := nI (t + 1)) (lv' := [(3, .int (nI (t + 1))), (0, .ref q), (1, .int x), (2, .int (nI s0)), (4, .int (nI i0))]) hx hb dX3_hasRoom_24 hl (k := 3) rfl (z_inc _) (by decide) rfl (fun ls hl => ?_)
          refine lv_aload_n hx hb dX3_hasRoom_27 rfl (lv_at hl 1 rfl) ?_
          refine lv_iload hx hb dX3_hasRoom_28 (lv_at hl 4 rfl) ?_
          refine z_callV (b := q) (As := [.int (nI i0)]) (rest := []) ⟨hx, hb, hml, hown, hts⟩ hK hP hS (c_X3_slotAt h hsl hn (z := i0) (by omega)) (cwV 1 hts gX3_hasRoom_X3_slotAt rfl rfl rfl k_yX3_slotAt ⟨Nat.le_of_ble_eq_true rfl, Nat.le_of_ble_eq_true rfl⟩) i 3 h rfl rfl rfl hl.1 rfl rfl dX3_hasRoom_30 ⟨Nat.le_of_ble_eq_true rfl, Nat.le_of_ble_eq_true rfl⟩ (fun H locs hP hS => ?_)
          refine lv_iload_n hx hb dX3_hasRoom_33 rfl (lv_at hl 3 rfl) ?_
          refine lv_icmp_ne (tgt := 39) hx hb dX3_hasRoom_34 (by decide) (fun cb5 => ?_) (fun cb5 => ?_)
          · have cb5 : ¬ ((sl i0) = s0) := zn_ne_f (a := (sl i0)) (b := s0) (by omega) (by omega) cb5
            refine lv_iinc (v := nI (i0 + 1)) (lv' := [(4, .int (nI (i0 + 1))), (3, .int (nI (t + 1))), (0, .ref q), (1, .int x), (2, .int (nI s0))]) hx hb dX3_hasRoom_39 hl (k := 4) rfl (z_inc _) (by decide) rfl (fun ls hl => ?_)
            refine lv_goto (tgt := 5) hx hb dX3_hasRoom_42 (by decide) ?_
            exact ih_lp (i0 + 1) (t + 1) (by omega) (by omega) (by rw [zcnt, ht]; simp [*]) (lt_s hno (fun ⟨h1, h2⟩ => by contradiction)) _ _ _ hP hS (lv_sub hl [2, 3, 4, 1, 0] rfl)
          · have cb5 : (sl i0) = s0 := zn_ne_t (a := (sl i0)) (b := s0) (by omega) (by omega) cb5
            refine lv_iconst (v := nI 0) hx hb dX3_hasRoom_37 (by decide) ?_
            exact z_zret hx hb hr hlocks hS dX3_hasRoom_38 (bI_no (fun hh => hh.1 i0 (by omega) ⟨by assumption, by assumption⟩)) (by decide)
  exact lp (nn + 1) 0 0 (by omega) (by omega) rfl (fun k hk => absurd hk (by omega)) _ _ _ hP hS (lv_sub hl [2, 3, 4, 1, 0] rfl)
set_option maxRecDepth 20000 in
theorem lk15_wsX3_restart : Cond.fieldLink RX3 18 "QueryGateway$Query" "count" "I" ∈ wsX3_restart := by decide +kernel
set_option maxRecDepth 20000 in
theorem in_wsX3_restart_X3 : ∀ w ∈ wsX30, w ∈ wsX3_restart := by decide +kernel
set_option maxRecDepth 20000 in
theorem lk17_wsX3_restart : Cond.fieldLink RX3 22 "QueryGateway$Query" "type" "I" ∈ wsX3_restart := by decide +kernel
abbrev rmX3_restart : Room := { frames := 0, cells := 0, slots := 0, locals := 0 }
set_option maxHeartbeats 4000000 in
set_option maxRecDepth 100000 in
theorem c_X3_restart {l : Launch} {D : va_G} {cy : zCy} {q a b : Nat} {ty : Int32} {nn : Nat} (t2 : Int32) : zW (Unit) l yX3_restart wsX3_restart rmX3_restart D cy [(q, .inr (3, [.ref a, .ref b, .int ty, .int (nI nn)]))] [.ref q, .int t2] (fun r _ => r = nI nn) (fun _ => [(q, .inr (3, [.ref a, .ref b, .int t2, .int (nI 0)]))]) := by
  refine zW.of (cc := cX3_restart) (maxL := 3) (ret := (some .int)) (by decide) rfl rfl ?_
  intro p e s m below meth c ls C hP hK hD hl
  obtain ⟨hx, hb, hr, hml, hts, hown, hlocks⟩ := C
  have hS : va_S (zIn [(q, .inr (3, [.ref a, .ref b, .int ty, .int (nI nn)]))]) s.heap s.heap [] := va_S.rf
  have hl : lv_has ls 3 [(0, .ref q), (1, .int t2)] := hl
  refine lv_aload_n hx hb dX3_restart_0 rfl (lv_at hl 0 rfl) ?_
  refine va_get (D := D) (ci := 3) (v := .int (nI nn)) (C := RX3) (T := TX3) (N := 4) hx hb hts in_wsX3_restart_X3 hown hK.1 hP 0 rfl rfl 3 (by decide) (hts _ lk15_wsX3_restart) (fun _ h9 => h9) rfl dX3_restart_1 ?_
  refine lv_istore_n (lv' := [(2, .int (nI nn)), (0, .ref q), (1, .int t2)]) hx hb dX3_restart_4 rfl hl (by decide) rfl (fun ls hl => ?_)
  refine lv_aload_n hx hb dX3_restart_5 rfl (lv_at hl 1 rfl) ?_
  refine lv_iload_n hx hb dX3_restart_6 rfl (lv_at hl 2 rfl) ?_
  refine va_put (D := D) (ci := 3) (v := .int t2) (ty := .int) (C := RX3) (T := TX3) (N := 4) hx hb hts in_wsX3_restart_X3 tyX3 tyX3_ok nmX3 hown hK.1 hP hD hS 0 rfl rfl 2 (by decide) (hts _ lk17_wsX3_restart) (fun _ h9 => h9) rfl (by decide +kernel) rfl rfl (Nat.le_of_ble_eq_true rfl) dX3_restart_7 (fun H locs hP hD hS => ?_)
  have hP : va_P D vwCl [(q, .inr (3, [.ref a, .ref b, .int t2, .int (nI nn)]))] H := hP
  have hD : va_D (zIn [(q, .inr (3, [.ref a, .ref b, .int ty, .int (nI nn)]))]) [(q, .inr (3, [.ref a, .ref b, .int t2, .int (nI nn)]))] := hD
  refine lv_aload_n hx hb dX3_restart_10 rfl (lv_at hl 1 rfl) ?_
  refine lv_iconst (v := nI 0) hx hb dX3_restart_11 (by decide) ?_
  refine va_put (D := D) (ci := 3) (v := .int (nI 0)) (ty := .int) (C := RX3) (T := TX3) (N := 4) hx hb hts in_wsX3_restart_X3 tyX3 tyX3_ok nmX3 hown hK.1 hP hD hS 0 rfl rfl 3 (by decide) (hts _ lk15_wsX3_restart) (fun _ h9 => h9) rfl (by decide +kernel) rfl rfl (Nat.le_of_ble_eq_true rfl) dX3_restart_12 (fun H locs hP hD hS => ?_)
  have hP : va_P D vwCl [(q, .inr (3, [.ref a, .ref b, .int t2, .int (nI 0)]))] H := hP
  have hD : va_D (zIn [(q, .inr (3, [.ref a, .ref b, .int ty, .int (nI nn)]))]) [(q, .inr (3, [.ref a, .ref b, .int t2, .int (nI 0)]))] := hD
  refine lv_iload_n hx hb dX3_restart_15 rfl (lv_at hl 0 rfl) ?_
  exact z_iretW () hx hb hr hlocks hS dX3_restart_16 hP rfl
set_option maxRecDepth 20000 in
theorem lk18_wsX3_append : Cond.fieldLink RX3 18 "QueryGateway$Query" "count" "I" ∈ wsX3_append := by decide +kernel
set_option maxRecDepth 20000 in
theorem in_wsX3_append_X3 : ∀ w ∈ wsX30, w ∈ wsX3_append := by decide +kernel
set_option maxRecDepth 20000 in
theorem lk20_wsX3_append : Cond.fieldLink RX3 9 "QueryGateway$Query" "above" "[I" ∈ wsX3_append := by decide +kernel
set_option maxRecDepth 20000 in
theorem lk21_wsX3_append : Cond.fieldLink RX3 15 "QueryGateway$Query" "slots" "[I" ∈ wsX3_append := by decide +kernel
abbrev rmX3_append : Room := { frames := 0, cells := 0, slots := 0, locals := 0 }
set_option maxHeartbeats 4000000 in
set_option maxRecDepth 100000 in
theorem c_X3_append {l : Launch} {D : va_G} {cy : zCy} {q a b : Nat} {ty : Int32} {nn : Nat} {ab : Nat → Int32} {sl : Nat → Nat} (hn : nn < 12) (x : Int32) (s0 : Nat) : zW (Unit) l yX3_append wsX3_append rmX3_append D cy [(q, .inr (3, [.ref a, .ref b, .int ty, .int (nI nn)])), (a, .inl (cy.1, 12, .inl ab)), (b, .inl (cy.1, 12, .inl (fun z => nI (sl z))))] [.ref q, .int x, .int (nI s0)] (fun r _ => r = nI nn) (fun _ => [(q, .inr (3, [.ref a, .ref b, .int ty, .int (nI (nn + 1))])), (a, .inl (cy.1, 12, .inl (upd ab nn x))), (b, .inl (cy.1, 12, .inl (fun z => nI (va_up sl nn s0 z))))]) := by
  refine zW.of (cc := cX3_append) (maxL := 4) (ret := (some .int)) (by decide) rfl rfl ?_
  intro p e s m below meth c ls C hP hK hD hl
  obtain ⟨hx, hb, hr, hml, hts, hown, hlocks⟩ := C
  have hS : va_S (zIn [(q, .inr (3, [.ref a, .ref b, .int ty, .int (nI nn)])), (a, .inl (cy.1, 12, .inl ab)), (b, .inl (cy.1, 12, .inl (fun z => nI (sl z))))]) s.heap s.heap [] := va_S.rf
  have hl : lv_has ls 4 [(0, .ref q), (1, .int x), (2, .int (nI s0))] := hl
  refine lv_aload_n hx hb dX3_append_0 rfl (lv_at hl 0 rfl) ?_
  refine va_get (D := D) (ci := 3) (v := .int (nI nn)) (C := RX3) (T := TX3) (N := 4) hx hb hts in_wsX3_append_X3 hown hK.1 hP 0 rfl rfl 3 (by decide) (hts _ lk18_wsX3_append) (fun _ h9 => h9) rfl dX3_append_1 ?_
  refine lv_if_lt (tgt := 16) hx hb dX3_append_4 (by decide) (fun cb1 => ?_) (fun cb1 => ?_)
  · have cb1 : nn < 0 := zn_lt_t (a := nn) (b := 0) (by omega) (by omega) cb1
    exact absurd cb1 (by omega)
  · have cb1 : ¬ (nn < 0) := zn_lt_f (a := nn) (b := 0) (by omega) (by omega) cb1
    refine lv_aload_n hx hb dX3_append_7 rfl (lv_at hl 0 rfl) ?_
    refine va_get (D := D) (ci := 3) (v := .int (nI nn)) (C := RX3) (T := TX3) (N := 4) hx hb hts in_wsX3_append_X3 hown hK.1 hP 0 rfl rfl 3 (by decide) (hts _ lk18_wsX3_append) (fun _ h9 => h9) rfl dX3_append_8 ?_
    refine lv_bipush (v := nI 12) hx hb dX3_append_11 (by decide) ?_
    refine lv_icmp_lt (tgt := 18) hx hb dX3_append_13 (by decide) (fun cb2 => ?_) (fun cb2 => ?_)
    · have cb2 : nn < 12 := zn_lt_t (a := nn) (b := 12) (by omega) (by omega) cb2
      refine lv_aload_n hx hb dX3_append_18 rfl (lv_at hl 0 rfl) ?_
      refine va_get (D := D) (ci := 3) (v := .int (nI nn)) (C := RX3) (T := TX3) (N := 4) hx hb hts in_wsX3_append_X3 hown hK.1 hP 0 rfl rfl 3 (by decide) (hts _ lk18_wsX3_append) (fun _ h9 => h9) rfl dX3_append_19 ?_
      refine lv_istore_n (lv' := [(3, .int (nI nn)), (0, .ref q), (1, .int x), (2, .int (nI s0))]) hx hb dX3_append_22 rfl hl (by decide) rfl (fun ls hl => ?_)
      refine lv_aload_n hx hb dX3_append_23 rfl (lv_at hl 1 rfl) ?_
      refine va_get (D := D) (ci := 3) (v := .ref a) (C := RX3) (T := TX3) (N := 4) hx hb hts in_wsX3_append_X3 hown hK.1 hP 0 rfl rfl 0 (by decide) (hts _ lk20_wsX3_append) (fun _ h9 => h9) rfl dX3_append_24 ?_
      refine lv_iload_n hx hb dX3_append_27 rfl (lv_at hl 0 rfl) ?_
      refine lv_iload_n hx hb dX3_append_28 rfl (lv_at hl 2 rfl) ?_
      refine z_iast (g := upd ab nn x) hx hb hK.1 hP hD hS 1 0 rfl rfl (k := nn) (by omega) (by decide) (fun _ _ => rfl) dX3_append_29 (fun H locs hP hD hS => ?_)
      have hP : va_P D vwCl [(q, .inr (3, [.ref a, .ref b, .int ty, .int (nI nn)])), (a, .inl (cy.1, 12, .inl (upd ab nn x))), (b, .inl (cy.1, 12, .inl (fun z => nI (sl z))))] H := hP
      have hD : va_D (zIn [(q, .inr (3, [.ref a, .ref b, .int ty, .int (nI nn)])), (a, .inl (cy.1, 12, .inl ab)), (b, .inl (cy.1, 12, .inl (fun z => nI (sl z))))]) [(q, .inr (3, [.ref a, .ref b, .int ty, .int (nI nn)])), (a, .inl (cy.1, 12, .inl (upd ab nn x))), (b, .inl (cy.1, 12, .inl (fun z => nI (sl z))))] := hD
      refine lv_aload_n hx hb dX3_append_30 rfl (lv_at hl 1 rfl) ?_
      refine va_get (D := D) (ci := 3) (v := .ref b) (C := RX3) (T := TX3) (N := 4) hx hb hts in_wsX3_append_X3 hown hK.1 hP 0 rfl rfl 1 (by decide) (hts _ lk21_wsX3_append) (fun _ h9 => h9) rfl dX3_append_31 ?_
      refine lv_iload_n hx hb dX3_append_34 rfl (lv_at hl 0 rfl) ?_
      refine lv_iload_n hx hb dX3_append_35 rfl (lv_at hl 3 rfl) ?_
      refine z_iast (g := fun z => nI (va_up sl nn s0 z)) hx hb hK.1 hP hD hS 2 0 rfl rfl (k := nn) (by omega) (by decide) (fun j _ => z_upN sl nn s0 j) dX3_append_36 (fun H locs hP hD hS => ?_)
      have hP : va_P D vwCl [(q, .inr (3, [.ref a, .ref b, .int ty, .int (nI nn)])), (a, .inl (cy.1, 12, .inl (upd ab nn x))), (b, .inl (cy.1, 12, .inl (fun z => nI (va_up sl nn s0 z))))] H := hP
      have hD : va_D (zIn [(q, .inr (3, [.ref a, .ref b, .int ty, .int (nI nn)])), (a, .inl (cy.1, 12, .inl ab)), (b, .inl (cy.1, 12, .inl (fun z => nI (sl z))))]) [(q, .inr (3, [.ref a, .ref b, .int ty, .int (nI nn)])), (a, .inl (cy.1, 12, .inl (upd ab nn x))), (b, .inl (cy.1, 12, .inl (fun z => nI (va_up sl nn s0 z))))] := hD
      refine lv_aload_n hx hb dX3_append_37 rfl (lv_at hl 1 rfl) ?_
      refine lv_iload_n hx hb dX3_append_38 rfl (lv_at hl 0 rfl) ?_
      refine lv_iconst (v := nI 1) hx hb dX3_append_39 (by decide) ?_
      refine lv_iadd hx hb dX3_append_40 ?_
      refine z_top (y := nI (nn + 1)) (nI_add _ _) ?_
      refine va_put (D := D) (ci := 3) (v := .int (nI (nn + 1))) (ty := .int) (C := RX3) (T := TX3) (N := 4) hx hb hts in_wsX3_append_X3 tyX3 tyX3_ok nmX3 hown hK.1 hP hD hS 0 rfl rfl 3 (by decide) (hts _ lk18_wsX3_append) (fun _ h9 => h9) rfl (by decide +kernel) rfl rfl (Nat.le_of_ble_eq_true rfl) dX3_append_41 (fun H locs hP hD hS => ?_)
      have hP : va_P D vwCl [(q, .inr (3, [.ref a, .ref b, .int ty, .int (nI (nn + 1))])), (a, .inl (cy.1, 12, .inl (upd ab nn x))), (b, .inl (cy.1, 12, .inl (fun z => nI (va_up sl nn s0 z))))] H := hP
      have hD : va_D (zIn [(q, .inr (3, [.ref a, .ref b, .int ty, .int (nI nn)])), (a, .inl (cy.1, 12, .inl ab)), (b, .inl (cy.1, 12, .inl (fun z => nI (sl z))))]) [(q, .inr (3, [.ref a, .ref b, .int ty, .int (nI (nn + 1))])), (a, .inl (cy.1, 12, .inl (upd ab nn x))), (b, .inl (cy.1, 12, .inl (fun z => nI (va_up sl nn s0 z))))] := hD
      refine lv_iload_n hx hb dX3_append_44 rfl (lv_at hl 0 rfl) ?_
      exact z_iretW () hx hb hr hlocks hS dX3_append_45 hP rfl
    · have cb2 : ¬ (nn < 12) := zn_lt_f (a := nn) (b := 12) (by omega) (by omega) cb2
      exact absurd cb2 (by omega)
-- end of the queries
