/-- a void method that leaves the world -/
def zU (l : Launch) (y : MethodName) (ws : List Cond) (rm : Room) (D : va_G) (cy : zCy) (w : va_W) (av : List Value) : Prop :=
  Met l y ws rm (va_Pc av (fun U => va_P D vwCl w U.heap ∧ zK D cy U)) (va_Qv (fun _ : Unit => True) (fun _ _ => True) zF) 0 0 zF
abbrev zUQ (below : List Frame) (args : Array Value) (s : State) : State → Prop := MQ below (va_Qv (fun _ : Unit => True) (fun _ _ => True) zF) args s 0 0 zF
section ZU
variable {p : Program} {l : Launch} {e : Env} {R : Room} {s : State} {m : MethodId} {args : Array Value} {below : List Frame} {meth : Method} {c : Code} {H H0 : Heap} {locs : List Loc} {cells slots : Nat} {Q : State → Prop} {D : va_G} {cy : zCy} {w : va_W} {A0 : Nat → Prop}
variable {cc bytes : ByteArray} {pc nL maxL index n : Nat} {ls : Array Slot} {rest As st0 : List Value} {y : MethodName} {ret : Option FieldType} {ws ws' Ts : List Cond} {rm : Room} {own C : String} {b : Addr}
theorem zU.of {av : List Value} (hy : plainName y.cls = true) (hw : ws = Cond.code y cc maxL ret :: ws') (hlen : Nat.ble (lg_sl av).length maxL = true)
    (body : ∀ (p : Program) (e : Env) (s : State) (m : MethodId) (below : List Frame) (meth : Method) (c : Code) (ls : Array Slot), zC p s m av.toArray meth c cc maxL ret ws y.cls → va_P D vwCl w s.heap → zK D cy s → lv_has ls maxL (lv_args 0 av) →
      W p l e rm s m av.toArray below meth c s.heap [] 0 0 (zUQ below av.toArray s) (F0 m 0 ls [])) : zU l y ws rm D cy w av := by
  refine Met.ofW (cc := cc) (maxL := maxL) (ret := ret) hy hw ?_
  intro p e s m args below meth c s₁ B hml hv
  obtain ⟨rfl, hP, hK⟩ := hv
  have hl := lv_entry av (n := maxL) (z_len hlen)
  rw [lg_entry_eq]
  exact body p e s m below meth c _ ⟨B.exec, B.bytes, B.returns, hml, atoms_spec (ws := ws) B.pre, findClass_of_methodNamed B.named, B.notSynchronized⟩ hP hK hl
theorem z_uret (hx : p.tables.exec = Jvm.exec) (hb : c.code = cc) (hr : meth.sig.returnType = none) (hlocks : meth.locks = false) (hS : va_S zF s.heap H locs) (hd : decode cc pc = .ok (.return_, 1)) :
    W p l e R s m args below meth c H locs 0 0 (zUQ below args s) (F0 m pc ls []) :=
  W.vret hx hb hr (fun t ht _ => ⟨⟨(), rfl, trivial, trivial⟩, hS.F ht⟩) hS.2.2 hd hlocks
theorem z_callUV (S : CallFix p m c cc nL s args Ts own) (hK : zK D cy s) (hP : va_P D vwCl w H) (hS : va_S A0 s.heap H locs) (hM : zU l y ws rm D cy w (.ref b :: As)) (cw : CallW R s args own C index y bytes maxL ret ws rm 0 0 n) (q0 ci : Nat) {fs : List Value} {q : vw_C} (he : w[q0]? = some (b, .inr (ci, fs))) (hc : vwCl[ci]? = some q) (hC : q.1 = C)
    (hn : As.length = n) (hsize : ls.size = nL) (hst : st0 = As.reverse ++ .ref b :: rest) (hroom : Nat.ble (rest.map fun v => v.category).sum 8 = true) (hdg : decode cc pc = .ok (.invokevirtual index, 3)) (hf : cells ≤ R.cells ∧ slots ≤ R.slots)
    (kk : ∀ (H1 : Heap) (locs1 : List Loc), va_P D vwCl w H1 → va_S A0 s.heap H1 locs1 → W p l e R s m args below meth c H1 locs1 cells slots Q (F0 m (pc + 3) ls rest)) : W p l e R s m args below meth c H locs cells slots Q (F0 m pc ls st0) := by
  subst hC
  exact va_callv (va_runV (As := As) (rest := rest) S hM cw ⟨zR.blind, va_recv hK.1 hP hc he, fun U hU hW => ⟨rfl, by rw [hU]; exact hP, hK.warm hW⟩⟩ rfl hn hsize hst (lv_room (Nat.le_of_ble_eq_true hroom)) hdg hf) hS (fun _ _ h => h.elim) (fun _ h => h.elim) (fun u t H1 locs1 ht hvm hw hB hz hk hS1 => kk H1 locs1 (z_kept hP hk) hS1)
theorem z_callUS (S : CallFix p m c cc nL s args Ts own) (hK : zK D cy s) (hP : va_P D vwCl w H) (hS : va_S A0 s.heap H locs) (hM : zU l y ws rm D cy w As) (cw : CallB R s args own index y bytes maxL ret ws rm 0 0 n ∧ (Cond.static y).before args s = true)
    (hn : As.length = n) (hsize : ls.size = nL) (hst : st0 = As.reverse ++ rest) (hroom : Nat.ble (rest.map fun v => v.category).sum 8 = true) (hdg : decode cc pc = .ok (.invokestatic index, 3)) (hf : cells ≤ R.cells ∧ slots ≤ R.slots)
    (kk : ∀ (H1 : Heap) (locs1 : List Loc), va_P D vwCl w H1 → va_S A0 s.heap H1 locs1 → W p l e R s m args below meth c H1 locs1 cells slots Q (F0 m (pc + 3) ls rest)) : W p l e R s m args below meth c H locs cells slots Q (F0 m pc ls st0) :=
  va_callv (va_runS (As := As) (rest := rest) S hM cw ⟨zR.blind, fun U hU hW => ⟨rfl, by rw [hU]; exact hP, hK.warm hW⟩⟩ rfl hn hsize hst (lv_room (Nat.le_of_ble_eq_true hroom)) hdg hf) hS (fun _ _ h => h.elim) (fun _ h => h.elim) (fun u t H1 locs1 ht hvm hw hB hz hk hS1 => kk H1 locs1 (z_kept hP hk) hS1)
end ZU
theorem k_yX4_isService : yX4_isService.cls ≠ "java/lang/invoke/MethodHandle" ∧ yX4_isService.cls ≠ "java/lang/invoke/VarHandle" ∧ (parseMethodDescriptor yX4_isService.desc).map (fun d => d.parameters.length) = some 1 := by decide +kernel
abbrev rmX4_checkService : Room := { frames := 1, cells := 0, slots := 0, locals := 20 }
set_option maxHeartbeats 4000000 in
set_option maxRecDepth 100000 in
theorem c_X4_checkService_ok {l : Launch} {D : va_G} {cy : zCy} {w : va_W} {k : Nat} (hk : k < 4) : zU l yX4_checkService wsX4_checkService rmX4_checkService D cy w [.int (nI k)] := by
  refine zU.of (cc := cX4_checkService) (maxL := 1) (ret := none) (by decide) rfl rfl ?_
  intro p e s m below meth c ls C hP hK hl
  obtain ⟨hx, hb, hr, hml, hts, hown, hlocks⟩ := C
  have hS : va_S zF s.heap s.heap [] := va_S.rf
  have hl : lv_has ls 1 [(0, .int (nI k))] := hl
  refine lv_iload_n hx hb dX4_checkService_0 rfl (lv_at hl 0 rfl) ?_
  refine z_callS (As := [.int (nI k)]) (rest := []) ⟨hx, hb, hml, hown, hts⟩ hK hP hS (c_X4_isService_in (k := k) (by omega)) (va_cwS 1 hts gX4_checkService_X4_isService rfl rfl rfl k_yX4_isService ⟨Nat.le_of_ble_eq_true rfl, Nat.le_of_ble_eq_true rfl⟩) rfl hl.1 rfl rfl dX4_checkService_1 ⟨Nat.le_of_ble_eq_true rfl, Nat.le_of_ble_eq_true rfl⟩ (fun H locs hP hS => ?_)
  refine lv_if_ne (tgt := 17) hx hb dX4_checkService_4 (by decide) (fun cb1 => ?_) (fun cb1 => ?_)
  · have cb1 : ¬ (1 = 0) := zn_ne_f (a := 1) (b := 0) (by omega) (by omega) cb1
    exact z_uret hx hb hr hlocks hS dX4_checkService_17
  · have cb1 : 1 = 0 := zn_ne_t (a := 1) (b := 0) (by omega) (by omega) cb1
    exact absurd cb1 (by decide)
set_option maxRecDepth 20000 in
theorem lk177_wsX4_checkService : Cond.classLink RX4 52 "java/lang/IllegalArgumentException" ∈ wsX4_checkService := by decide +kernel
set_option maxRecDepth 20000 in
theorem lk178_wsX4_checkService : Cond.initialized "java/lang/IllegalArgumentException" ∈ wsX4_checkService := by decide +kernel
abbrev rmX4_checkService_t : Room := { frames := 6, cells := 1, slots := 6, locals := 82 }
set_option maxHeartbeats 4000000 in
set_option maxRecDepth 100000 in
theorem c_X4_checkService_bad {l : Launch} {D : va_G} {cy : zCy} {w : va_W} {x : Int32} (hbad : ¬ inN 4 x) (hl9 : l.stackTraces = false) : zX (Unit) l yX4_checkService wsX4_checkService rmX4_checkService_t D cy w [.int x] zIAE (fun _ => True) (fun _ => w) := by
  refine zX.of (cc := cX4_checkService) (maxL := 1) (ret := none) (by decide) rfl rfl ?_
  intro p e s m below meth c ls C htab hP hK hD hTs hTh hl
  obtain ⟨hx, hb, hr, hml, hts, hown, hlocks⟩ := C
  have hS : va_S (zIn w) s.heap s.heap [] := va_S.rf
  have hl : lv_has ls 1 [(0, .int x)] := hl
  refine lv_iload_n hx hb dX4_checkService_0 rfl (lv_at hl 0 rfl) ?_
  refine z_callS (As := [.int x]) (rest := []) ⟨hx, hb, hml, hown, hts⟩ hK hP hS (c_X4_isService x) (va_cwS 1 hts gX4_checkService_X4_isService rfl rfl rfl k_yX4_isService ⟨Nat.le_of_ble_eq_true rfl, Nat.le_of_ble_eq_true rfl⟩) rfl hl.1 rfl rfl dX4_checkService_1 ⟨Nat.le_of_ble_eq_true rfl, Nat.le_of_ble_eq_true rfl⟩ (fun H locs hP hS => ?_)
  refine lv_if_ne (tgt := 17) hx hb dX4_checkService_4 (by decide) (fun cb1 => ?_) (fun cb1 => ?_)
  · have cb1 : (decide (inN 4 x)) = true := bI_f0 cb1
    exact absurd (of_decide_eq_true cb1) hbad
  · have cb1 : (decide (inN 4 x)) = false := bI_t0 cb1
    exact z_throw (E := zIAE) (ik := 52) (is := 181) (ic := 56) (tx := "a service is 0 to 3") () hx hb hl9 hml hl.1 hown hlocks (by decide) hts (fun w hw => List.mem_cons_of_mem _ (List.mem_append_right _ hw)) lk177_wsX4_checkService lk178_wsX4_checkService hB_56 hG_56 rfl hTs (by decide) (by decide) hTh hS dX4_checkService_7 dX4_checkService_10 dX4_checkService_11 dX4_checkService_13 dX4_checkService_16 htab ⟨rfl, rfl, rfl, rfl⟩ hP trivial
abbrev rmX4_checkType : Room := { frames := 1, cells := 0, slots := 0, locals := 20 }
set_option maxHeartbeats 4000000 in
set_option maxRecDepth 100000 in
theorem c_X4_checkType_ok {l : Launch} {D : va_G} {cy : zCy} {w : va_W} {k : Nat} (hk : k < 4) : zU l yX4_checkType wsX4_checkType rmX4_checkType D cy w [.int (nI k)] := by
  refine zU.of (cc := cX4_checkType) (maxL := 1) (ret := none) (by decide) rfl rfl ?_
  intro p e s m below meth c ls C hP hK hl
  obtain ⟨hx, hb, hr, hml, hts, hown, hlocks⟩ := C
  have hS : va_S zF s.heap s.heap [] := va_S.rf
  have hl : lv_has ls 1 [(0, .int (nI k))] := hl
  refine lv_iload_n hx hb dX4_checkType_0 rfl (lv_at hl 0 rfl) ?_
  refine z_callS (As := [.int (nI k)]) (rest := []) ⟨hx, hb, hml, hown, hts⟩ hK hP hS (c_X4_isType_in (k := k) (by omega)) (va_cwS 1 hts gX4_checkType_X4_isType rfl rfl rfl k_yX4_isType ⟨Nat.le_of_ble_eq_true rfl, Nat.le_of_ble_eq_true rfl⟩) rfl hl.1 rfl rfl dX4_checkType_1 ⟨Nat.le_of_ble_eq_true rfl, Nat.le_of_ble_eq_true rfl⟩ (fun H locs hP hS => ?_)
  refine lv_if_ne (tgt := 17) hx hb dX4_checkType_4 (by decide) (fun cb1 => ?_) (fun cb1 => ?_)
  · have cb1 : ¬ (1 = 0) := zn_ne_f (a := 1) (b := 0) (by omega) (by omega) cb1
    exact z_uret hx hb hr hlocks hS dX4_checkType_17
  · have cb1 : 1 = 0 := zn_ne_t (a := 1) (b := 0) (by omega) (by omega) cb1
    exact absurd cb1 (by decide)
set_option maxRecDepth 20000 in
theorem lk179_wsX4_checkType : Cond.classLink RX4 52 "java/lang/IllegalArgumentException" ∈ wsX4_checkType := by decide +kernel
set_option maxRecDepth 20000 in
theorem lk180_wsX4_checkType : Cond.initialized "java/lang/IllegalArgumentException" ∈ wsX4_checkType := by decide +kernel
abbrev rmX4_checkType_t : Room := { frames := 6, cells := 1, slots := 6, locals := 82 }
set_option maxHeartbeats 4000000 in
set_option maxRecDepth 100000 in
theorem c_X4_checkType_bad {l : Launch} {D : va_G} {cy : zCy} {w : va_W} {x : Int32} (hbad : ¬ inN 4 x) (hl9 : l.stackTraces = false) : zX (Unit) l yX4_checkType wsX4_checkType rmX4_checkType_t D cy w [.int x] zIAE (fun _ => True) (fun _ => w) := by
  refine zX.of (cc := cX4_checkType) (maxL := 1) (ret := none) (by decide) rfl rfl ?_
  intro p e s m below meth c ls C htab hP hK hD hTs hTh hl
  obtain ⟨hx, hb, hr, hml, hts, hown, hlocks⟩ := C
  have hS : va_S (zIn w) s.heap s.heap [] := va_S.rf
  have hl : lv_has ls 1 [(0, .int x)] := hl
  refine lv_iload_n hx hb dX4_checkType_0 rfl (lv_at hl 0 rfl) ?_
  refine z_callS (As := [.int x]) (rest := []) ⟨hx, hb, hml, hown, hts⟩ hK hP hS (c_X4_isType x) (va_cwS 1 hts gX4_checkType_X4_isType rfl rfl rfl k_yX4_isType ⟨Nat.le_of_ble_eq_true rfl, Nat.le_of_ble_eq_true rfl⟩) rfl hl.1 rfl rfl dX4_checkType_1 ⟨Nat.le_of_ble_eq_true rfl, Nat.le_of_ble_eq_true rfl⟩ (fun H locs hP hS => ?_)
  refine lv_if_ne (tgt := 17) hx hb dX4_checkType_4 (by decide) (fun cb1 => ?_) (fun cb1 => ?_)
  · have cb1 : (decide (inN 4 x)) = true := bI_f0 cb1
    exact absurd (of_decide_eq_true cb1) hbad
  · have cb1 : (decide (inN 4 x)) = false := bI_t0 cb1
    exact z_throw (E := zIAE) (ik := 52) (is := 183) (ic := 56) (tx := "a type is 0 to 3") () hx hb hl9 hml hl.1 hown hlocks (by decide) hts (fun w hw => List.mem_cons_of_mem _ (List.mem_append_right _ hw)) lk179_wsX4_checkType lk180_wsX4_checkType hB_56 hG_56 rfl hTs (by decide) (by decide) hTh hS dX4_checkType_7 dX4_checkType_10 dX4_checkType_11 dX4_checkType_13 dX4_checkType_16 htab ⟨rfl, rfl, rfl, rfl⟩ hP trivial
abbrev rmX4_checkKey : Room := { frames := 1, cells := 0, slots := 0, locals := 20 }
set_option maxHeartbeats 4000000 in
set_option maxRecDepth 100000 in
theorem c_X4_checkKey_ok {l : Launch} {D : va_G} {cy : zCy} {w : va_W} {k : Nat} (hk : k < 20) : zU l yX4_checkKey wsX4_checkKey rmX4_checkKey D cy w [.int (nI k)] := by
  refine zU.of (cc := cX4_checkKey) (maxL := 1) (ret := none) (by decide) rfl rfl ?_
  intro p e s m below meth c ls C hP hK hl
  obtain ⟨hx, hb, hr, hml, hts, hown, hlocks⟩ := C
  have hS : va_S zF s.heap s.heap [] := va_S.rf
  have hl : lv_has ls 1 [(0, .int (nI k))] := hl
  refine lv_iload_n hx hb dX4_checkKey_0 rfl (lv_at hl 0 rfl) ?_
  refine z_callS (As := [.int (nI k)]) (rest := []) ⟨hx, hb, hml, hown, hts⟩ hK hP hS (c_X4_isKey_in (k := k) (by omega)) (va_cwS 1 hts gX4_checkKey_X4_isKey rfl rfl rfl k_yX4_isKey ⟨Nat.le_of_ble_eq_true rfl, Nat.le_of_ble_eq_true rfl⟩) rfl hl.1 rfl rfl dX4_checkKey_1 ⟨Nat.le_of_ble_eq_true rfl, Nat.le_of_ble_eq_true rfl⟩ (fun H locs hP hS => ?_)
  refine lv_if_ne (tgt := 17) hx hb dX4_checkKey_4 (by decide) (fun cb1 => ?_) (fun cb1 => ?_)
  · have cb1 : ¬ (1 = 0) := zn_ne_f (a := 1) (b := 0) (by omega) (by omega) cb1
    exact z_uret hx hb hr hlocks hS dX4_checkKey_17
  · have cb1 : 1 = 0 := zn_ne_t (a := 1) (b := 0) (by omega) (by omega) cb1
    exact absurd cb1 (by decide)
set_option maxRecDepth 20000 in
theorem lk181_wsX4_checkKey : Cond.classLink RX4 52 "java/lang/IllegalArgumentException" ∈ wsX4_checkKey := by decide +kernel
set_option maxRecDepth 20000 in
theorem lk182_wsX4_checkKey : Cond.initialized "java/lang/IllegalArgumentException" ∈ wsX4_checkKey := by decide +kernel
abbrev rmX4_checkKey_t : Room := { frames := 6, cells := 1, slots := 6, locals := 82 }
set_option maxHeartbeats 4000000 in
set_option maxRecDepth 100000 in
theorem c_X4_checkKey_bad {l : Launch} {D : va_G} {cy : zCy} {w : va_W} {x : Int32} (hbad : ¬ inN 20 x) (hl9 : l.stackTraces = false) : zX (Unit) l yX4_checkKey wsX4_checkKey rmX4_checkKey_t D cy w [.int x] zIAE (fun _ => True) (fun _ => w) := by
  refine zX.of (cc := cX4_checkKey) (maxL := 1) (ret := none) (by decide) rfl rfl ?_
  intro p e s m below meth c ls C htab hP hK hD hTs hTh hl
  obtain ⟨hx, hb, hr, hml, hts, hown, hlocks⟩ := C
  have hS : va_S (zIn w) s.heap s.heap [] := va_S.rf
  have hl : lv_has ls 1 [(0, .int x)] := hl
  refine lv_iload_n hx hb dX4_checkKey_0 rfl (lv_at hl 0 rfl) ?_
  refine z_callS (As := [.int x]) (rest := []) ⟨hx, hb, hml, hown, hts⟩ hK hP hS (c_X4_isKey x) (va_cwS 1 hts gX4_checkKey_X4_isKey rfl rfl rfl k_yX4_isKey ⟨Nat.le_of_ble_eq_true rfl, Nat.le_of_ble_eq_true rfl⟩) rfl hl.1 rfl rfl dX4_checkKey_1 ⟨Nat.le_of_ble_eq_true rfl, Nat.le_of_ble_eq_true rfl⟩ (fun H locs hP hS => ?_)
  refine lv_if_ne (tgt := 17) hx hb dX4_checkKey_4 (by decide) (fun cb1 => ?_) (fun cb1 => ?_)
  · have cb1 : (decide (inN 20 x)) = true := bI_f0 cb1
    exact absurd (of_decide_eq_true cb1) hbad
  · have cb1 : (decide (inN 20 x)) = false := bI_t0 cb1
    exact z_throw (E := zIAE) (ik := 52) (is := 188) (ic := 56) (tx := "a key is 0 to 19") () hx hb hl9 hml hl.1 hown hlocks (by decide) hts (fun w hw => List.mem_cons_of_mem _ (List.mem_append_right _ hw)) lk181_wsX4_checkKey lk182_wsX4_checkKey hB_56 hG_56 rfl hTs (by decide) (by decide) hTh hS dX4_checkKey_7 dX4_checkKey_10 dX4_checkKey_11 dX4_checkKey_13 dX4_checkKey_16 htab ⟨rfl, rfl, rfl, rfl⟩ hP trivial
set_option maxRecDepth 20000 in
theorem lk183_wsX4_checkField : Cond.fieldLink RX4 20 "QueryGateway" "graph" "LQueryGateway$Graph;" ∈ wsX4_checkField := by decide +kernel
set_option maxRecDepth 20000 in
theorem in_wsX4_checkField_X4 : ∀ w ∈ wsX40, w ∈ wsX4_checkField := by decide +kernel
abbrev rmX4_checkField : Room := { frames := 2, cells := 0, slots := 0, locals := 41 }
set_option maxHeartbeats 4000000 in
set_option maxRecDepth 100000 in
theorem c_X4_checkField_ok {l : Launch} {D : va_G} {cy : zCy} {w : va_W} {io o g q P A U : Nat} (ho : w[io]? = some (o, .inr (4, [.ref g, .ref q, .ref P, .ref A, .ref U]))) {i a1 a2 a3 a4 a5 : Nat} {fa : Int32} (h : w[i]? = some (g, .inr (1, [.ref a1, .ref a2, .ref a3, .ref a4, .ref a5, .int fa]))) {j : Nat} {fc : Nat → Nat} (ha : w[j]? = some (a1, .inl (cy.1, 4, .inl (fun z => nI (fc z))))) {t : Nat} (ht : t < 4) {f : Nat} (hf : f < fc t) (hf8 : fc t ≤ 8) : zU l yX4_checkField wsX4_checkField rmX4_checkField D cy w [.ref o, .int (nI t), .int (nI f)] := by
  refine zU.of (cc := cX4_checkField) (maxL := 3) (ret := none) (by decide) rfl rfl ?_
  intro p e s m below meth c ls C hP hK hl
  obtain ⟨hx, hb, hr, hml, hts, hown, hlocks⟩ := C
  have hS : va_S zF s.heap s.heap [] := va_S.rf
  have hl : lv_has ls 3 [(0, .ref o), (1, .int (nI t)), (2, .int (nI f))] := hl
  refine lv_iload_n hx hb dX4_checkField_0 rfl (lv_at hl 2 rfl) ?_
  refine lv_if_lt (tgt := 16) hx hb dX4_checkField_1 (by decide) (fun cb1 => ?_) (fun cb1 => ?_)
  · have cb1 : f < 0 := zn_lt_t (a := f) (b := 0) (by omega) (by omega) cb1
    exact absurd cb1 (by omega)
  · have cb1 : ¬ (f < 0) := zn_lt_f (a := f) (b := 0) (by omega) (by omega) cb1
    refine lv_iload_n hx hb dX4_checkField_4 rfl (lv_at hl 2 rfl) ?_
    refine lv_aload_n hx hb dX4_checkField_5 rfl (lv_at hl 0 rfl) ?_
    refine va_get (D := D) (ci := 4) (v := .ref g) (C := RX4) (T := TX4) (N := 5) hx hb hts in_wsX4_checkField_X4 hown hK.1 hP io ho rfl 0 (by decide) (hts _ lk183_wsX4_checkField) (fun _ h9 => h9) rfl dX4_checkField_6 ?_
    refine lv_iload_n hx hb dX4_checkField_9 rfl (lv_at hl 1 rfl) ?_
    refine z_callV (b := g) (As := [.int (nI t)]) (rest := [.int (nI f)]) ⟨hx, hb, hml, hown, hts⟩ hK hP hS (c_X1_fieldsOf h ha ht) (cwV 1 hts gX4_checkField_X1_fieldsOf rfl rfl rfl k_yX1_fieldsOf ⟨Nat.le_of_ble_eq_true rfl, Nat.le_of_ble_eq_true rfl⟩) i 1 h rfl rfl rfl hl.1 rfl rfl dX4_checkField_10 ⟨Nat.le_of_ble_eq_true rfl, Nat.le_of_ble_eq_true rfl⟩ (fun H locs hP hS => ?_)
    refine lv_icmp_lt (tgt := 26) hx hb dX4_checkField_13 (by decide) (fun cb2 => ?_) (fun cb2 => ?_)
    · have cb2 : f < (fc t) := zn_lt_t (a := f) (b := (fc t)) (by omega) (by omega) cb2
      exact z_uret hx hb hr hlocks hS dX4_checkField_26
    · have cb2 : ¬ (f < (fc t)) := zn_lt_f (a := f) (b := (fc t)) (by omega) (by omega) cb2
      exact absurd hf cb2
set_option maxRecDepth 20000 in
theorem lk185_wsX4_checkField : Cond.classLink RX4 190 "java/lang/IndexOutOfBoundsException" ∈ wsX4_checkField := by decide +kernel
set_option maxRecDepth 20000 in
theorem lk186_wsX4_checkField : Cond.initialized "java/lang/IndexOutOfBoundsException" ∈ wsX4_checkField := by decide +kernel
abbrev rmX4_checkField_t : Room := { frames := 6, cells := 1, slots := 6, locals := 82 }
set_option maxHeartbeats 4000000 in
set_option maxRecDepth 100000 in
theorem c_X4_checkField_bad {l : Launch} {D : va_G} {cy : zCy} {w : va_W} {io o g q P A U : Nat} (ho : w[io]? = some (o, .inr (4, [.ref g, .ref q, .ref P, .ref A, .ref U]))) {i a1 a2 a3 a4 a5 : Nat} {fa : Int32} (h : w[i]? = some (g, .inr (1, [.ref a1, .ref a2, .ref a3, .ref a4, .ref a5, .int fa]))) {j : Nat} {fc : Nat → Nat} (ha : w[j]? = some (a1, .inl (cy.1, 4, .inl (fun z => nI (fc z))))) {t : Nat} (ht : t < 4) {x : Int32} (hbad : ¬ inN (fc t) x) (hf8 : fc t ≤ 8) (hl9 : l.stackTraces = false) : zX (Unit) l yX4_checkField wsX4_checkField rmX4_checkField_t D cy w [.ref o, .int (nI t), .int x] zIOE (fun _ => True) (fun _ => w) := by
  refine zX.of (cc := cX4_checkField) (maxL := 3) (ret := none) (by decide) rfl rfl ?_
  intro p e s m below meth c ls C htab hP hK hD hTs hTh hl
  obtain ⟨hx, hb, hr, hml, hts, hown, hlocks⟩ := C
  have hS : va_S (zIn w) s.heap s.heap [] := va_S.rf
  have hl : lv_has ls 3 [(0, .ref o), (1, .int (nI t)), (2, .int x)] := hl
  refine lv_iload_n hx hb dX4_checkField_0 rfl (lv_at hl 2 rfl) ?_
  refine lv_if_lt (tgt := 16) hx hb dX4_checkField_1 (by decide) (fun cb1 => ?_) (fun cb1 => ?_)
  · have cb1 : (x).toInt < ((0 : Nat) : Int) := ziIN_lt_t (b := 0) (by omega) cb1
    exact z_throw (E := zIOE) (ik := 190) (is := 192) (ic := 194) (tx := "there is no such field") () hx hb hl9 hml hl.1 hown hlocks (by decide) hts (fun w hw => List.mem_cons_of_mem _ (List.mem_append_right _ hw)) lk185_wsX4_checkField lk186_wsX4_checkField hB_194 hG_194 rfl hTs (by decide) (by decide) hTh hS dX4_checkField_16 dX4_checkField_19 dX4_checkField_20 dX4_checkField_22 dX4_checkField_25 htab ⟨rfl, rfl, rfl, rfl⟩ hP trivial
  · have cb1 : ¬ ((x).toInt < ((0 : Nat) : Int)) := ziIN_lt_f (b := 0) (by omega) cb1
    refine lv_iload_n hx hb dX4_checkField_4 rfl (lv_at hl 2 rfl) ?_
    refine lv_aload_n hx hb dX4_checkField_5 rfl (lv_at hl 0 rfl) ?_
    refine va_get (D := D) (ci := 4) (v := .ref g) (C := RX4) (T := TX4) (N := 5) hx hb hts in_wsX4_checkField_X4 hown hK.1 hP io ho rfl 0 (by decide) (hts _ lk183_wsX4_checkField) (fun _ h9 => h9) rfl dX4_checkField_6 ?_
    refine lv_iload_n hx hb dX4_checkField_9 rfl (lv_at hl 1 rfl) ?_
    refine z_callV (b := g) (As := [.int (nI t)]) (rest := [.int x]) ⟨hx, hb, hml, hown, hts⟩ hK hP hS (c_X1_fieldsOf h ha ht) (cwV 1 hts gX4_checkField_X1_fieldsOf rfl rfl rfl k_yX1_fieldsOf ⟨Nat.le_of_ble_eq_true rfl, Nat.le_of_ble_eq_true rfl⟩) i 1 h rfl rfl rfl hl.1 rfl rfl dX4_checkField_10 ⟨Nat.le_of_ble_eq_true rfl, Nat.le_of_ble_eq_true rfl⟩ (fun H locs hP hS => ?_)
    refine lv_icmp_lt (tgt := 26) hx hb dX4_checkField_13 (by decide) (fun cb2 => ?_) (fun cb2 => ?_)
    · have cb2 : (x).toInt < ((fc t : Nat) : Int) := ziIN_lt_t (b := (fc t)) (by omega) cb2
      exact absurd (show inN (fc t) x by unfold inN; omega) hbad
    · have cb2 : ¬ ((x).toInt < ((fc t : Nat) : Int)) := ziIN_lt_f (b := (fc t)) (by omega) cb2
      exact z_throw (E := zIOE) (ik := 190) (is := 192) (ic := 194) (tx := "there is no such field") () hx hb hl9 hml hl.1 hown hlocks (by decide) hts (fun w hw => List.mem_cons_of_mem _ (List.mem_append_right _ hw)) lk185_wsX4_checkField lk186_wsX4_checkField hB_194 hG_194 rfl hTs (by decide) (by decide) hTh hS dX4_checkField_16 dX4_checkField_19 dX4_checkField_20 dX4_checkField_22 dX4_checkField_25 htab ⟨rfl, rfl, rfl, rfl⟩ hP trivial
set_option maxRecDepth 20000 in
theorem lk187_wsX4_checkNode : Cond.fieldLink RX4 24 "QueryGateway" "query" "LQueryGateway$Query;" ∈ wsX4_checkNode := by decide +kernel
set_option maxRecDepth 20000 in
theorem in_wsX4_checkNode_X4 : ∀ w ∈ wsX40, w ∈ wsX4_checkNode := by decide +kernel
abbrev rmX4_checkNode : Room := { frames := 1, cells := 0, slots := 0, locals := 21 }
set_option maxHeartbeats 4000000 in
set_option maxRecDepth 100000 in
theorem c_X4_checkNode_ok {l : Launch} {D : va_G} {cy : zCy} {w : va_W} {io o g q P A U : Nat} (ho : w[io]? = some (o, .inr (4, [.ref g, .ref q, .ref P, .ref A, .ref U]))) {iq a b nn : Nat} {ty : Int32} (hq : w[iq]? = some (q, .inr (3, [.ref a, .ref b, .int ty, .int (nI nn)]))) (hn : nn ≤ 12) {k : Nat} (hk : k < nn) : zU l yX4_checkNode wsX4_checkNode rmX4_checkNode D cy w [.ref o, .int (nI k)] := by
  refine zU.of (cc := cX4_checkNode) (maxL := 2) (ret := none) (by decide) rfl rfl ?_
  intro p e s m below meth c ls C hP hK hl
  obtain ⟨hx, hb, hr, hml, hts, hown, hlocks⟩ := C
  have hS : va_S zF s.heap s.heap [] := va_S.rf
  have hl : lv_has ls 2 [(0, .ref o), (1, .int (nI k))] := hl
  refine lv_aload_n hx hb dX4_checkNode_0 rfl (lv_at hl 0 rfl) ?_
  refine va_get (D := D) (ci := 4) (v := .ref q) (C := RX4) (T := TX4) (N := 5) hx hb hts in_wsX4_checkNode_X4 hown hK.1 hP io ho rfl 1 (by decide) (hts _ lk187_wsX4_checkNode) (fun _ h9 => h9) rfl dX4_checkNode_1 ?_
  refine lv_iload_n hx hb dX4_checkNode_4 rfl (lv_at hl 1 rfl) ?_
  refine z_callV (b := q) (As := [.int (nI k)]) (rest := []) ⟨hx, hb, hml, hown, hts⟩ hK hP hS (c_X3_has_in hq hn hk) (cwV 1 hts gX4_checkNode_X3_has rfl rfl rfl k_yX3_has ⟨Nat.le_of_ble_eq_true rfl, Nat.le_of_ble_eq_true rfl⟩) iq 3 hq rfl rfl rfl hl.1 rfl rfl dX4_checkNode_5 ⟨Nat.le_of_ble_eq_true rfl, Nat.le_of_ble_eq_true rfl⟩ (fun H locs hP hS => ?_)
  refine lv_if_ne (tgt := 21) hx hb dX4_checkNode_8 (by decide) (fun cb1 => ?_) (fun cb1 => ?_)
  · have cb1 : ¬ (1 = 0) := zn_ne_f (a := 1) (b := 0) (by omega) (by omega) cb1
    exact z_uret hx hb hr hlocks hS dX4_checkNode_21
  · have cb1 : 1 = 0 := zn_ne_t (a := 1) (b := 0) (by omega) (by omega) cb1
    exact absurd cb1 (by decide)
set_option maxRecDepth 20000 in
theorem lk189_wsX4_checkNode : Cond.classLink RX4 190 "java/lang/IndexOutOfBoundsException" ∈ wsX4_checkNode := by decide +kernel
set_option maxRecDepth 20000 in
theorem lk190_wsX4_checkNode : Cond.initialized "java/lang/IndexOutOfBoundsException" ∈ wsX4_checkNode := by decide +kernel
abbrev rmX4_checkNode_t : Room := { frames := 6, cells := 1, slots := 6, locals := 82 }
set_option maxHeartbeats 4000000 in
set_option maxRecDepth 100000 in
theorem c_X4_checkNode_bad {l : Launch} {D : va_G} {cy : zCy} {w : va_W} {io o g q P A U : Nat} (ho : w[io]? = some (o, .inr (4, [.ref g, .ref q, .ref P, .ref A, .ref U]))) {iq a b nn : Nat} {ty : Int32} (hq : w[iq]? = some (q, .inr (3, [.ref a, .ref b, .int ty, .int (nI nn)]))) (hn : nn ≤ 12) {x : Int32} (hbad : ¬ inN nn x) (hl9 : l.stackTraces = false) : zX (Unit) l yX4_checkNode wsX4_checkNode rmX4_checkNode_t D cy w [.ref o, .int x] zIOE (fun _ => True) (fun _ => w) := by
  refine zX.of (cc := cX4_checkNode) (maxL := 2) (ret := none) (by decide) rfl rfl ?_
  intro p e s m below meth c ls C htab hP hK hD hTs hTh hl
  obtain ⟨hx, hb, hr, hml, hts, hown, hlocks⟩ := C
  have hS : va_S (zIn w) s.heap s.heap [] := va_S.rf
  have hl : lv_has ls 2 [(0, .ref o), (1, .int x)] := hl
  refine lv_aload_n hx hb dX4_checkNode_0 rfl (lv_at hl 0 rfl) ?_
  refine va_get (D := D) (ci := 4) (v := .ref q) (C := RX4) (T := TX4) (N := 5) hx hb hts in_wsX4_checkNode_X4 hown hK.1 hP io ho rfl 1 (by decide) (hts _ lk187_wsX4_checkNode) (fun _ h9 => h9) rfl dX4_checkNode_1 ?_
  refine lv_iload_n hx hb dX4_checkNode_4 rfl (lv_at hl 1 rfl) ?_
  refine z_callV (b := q) (As := [.int x]) (rest := []) ⟨hx, hb, hml, hown, hts⟩ hK hP hS (c_X3_has hq hn x) (cwV 1 hts gX4_checkNode_X3_has rfl rfl rfl k_yX3_has ⟨Nat.le_of_ble_eq_true rfl, Nat.le_of_ble_eq_true rfl⟩) iq 3 hq rfl rfl rfl hl.1 rfl rfl dX4_checkNode_5 ⟨Nat.le_of_ble_eq_true rfl, Nat.le_of_ble_eq_true rfl⟩ (fun H locs hP hS => ?_)
  refine lv_if_ne (tgt := 21) hx hb dX4_checkNode_8 (by decide) (fun cb1 => ?_) (fun cb1 => ?_)
  · have cb1 : (decide (inN nn x)) = true := bI_f0 cb1
    exact absurd (of_decide_eq_true cb1) hbad
  · have cb1 : (decide (inN nn x)) = false := bI_t0 cb1
    exact z_throw (E := zIOE) (ik := 190) (is := 198) (ic := 194) (tx := "there is no such node") () hx hb hl9 hml hl.1 hown hlocks (by decide) hts (fun w hw => List.mem_cons_of_mem _ (List.mem_append_right _ hw)) lk189_wsX4_checkNode lk190_wsX4_checkNode hB_194 hG_194 rfl hTs (by decide) (by decide) hTh hS dX4_checkNode_11 dX4_checkNode_14 dX4_checkNode_15 dX4_checkNode_17 dX4_checkNode_20 htab ⟨rfl, rfl, rfl, rfl⟩ hP trivial
set_option maxRecDepth 20000 in
theorem lk191_wsX4_typeAt : Cond.fieldLink RX4 24 "QueryGateway" "query" "LQueryGateway$Query;" ∈ wsX4_typeAt := by decide +kernel
set_option maxRecDepth 20000 in
theorem in_wsX4_typeAt_X4 : ∀ w ∈ wsX40, w ∈ wsX4_typeAt := by decide +kernel
theorem k_yX3_type : yX3_type.cls = RX3 ∧ yX3_type.cls ≠ "java/lang/invoke/MethodHandle" ∧ yX3_type.cls ≠ "java/lang/invoke/VarHandle" ∧ (parseMethodDescriptor yX3_type.desc).map (fun d => d.parameters.length) = some 0 := by decide +kernel
abbrev rmX4_typeAt : Room := { frames := 2, cells := 0, slots := 0, locals := 42 }
set_option maxHeartbeats 4000000 in
set_option maxRecDepth 100000 in
theorem c_X4_typeAt_top {l : Launch} {D : va_G} {cy : zCy} {w : va_W} {io o g q P A U : Nat} (ho : w[io]? = some (o, .inr (4, [.ref g, .ref q, .ref P, .ref A, .ref U]))) {iq a b nn : Nat} {ty : Int32} (hq : w[iq]? = some (q, .inr (3, [.ref a, .ref b, .int ty, .int (nI nn)]))) : zR l yX4_typeAt wsX4_typeAt rmX4_typeAt D cy w [.ref o, .int ((-1 : Int32))] (ty) := by
  refine zR.of (cc := cX4_typeAt) (maxL := 2) (ret := (some .int)) (by decide) rfl rfl ?_
  intro p e s m below meth c ls C hP hK hl
  obtain ⟨hx, hb, hr, hml, hts, hown, hlocks⟩ := C
  have hS : va_S zF s.heap s.heap [] := va_S.rf
  have hl : lv_has ls 2 [(0, .ref o), (1, .int ((-1 : Int32)))] := hl
  refine lv_iload_n hx hb dX4_typeAt_0 rfl (lv_at hl 1 rfl) ?_
  refine lv_iconst (v := (-1 : Int32)) hx hb dX4_typeAt_1 (by decide) ?_
  refine lv_icmp_ne (tgt := 15) hx hb dX4_typeAt_2 (by decide) (fun cb1 => ?_) (fun cb1 => ?_)
  · skip
    exact absurd rfl cb1
  · skip
    refine lv_aload_n hx hb dX4_typeAt_5 rfl (lv_at hl 0 rfl) ?_
    refine va_get (D := D) (ci := 4) (v := .ref q) (C := RX4) (T := TX4) (N := 5) hx hb hts in_wsX4_typeAt_X4 hown hK.1 hP io ho rfl 1 (by decide) (hts _ lk191_wsX4_typeAt) (fun _ h9 => h9) rfl dX4_typeAt_6 ?_
    refine z_callV (b := q) (As := []) (rest := []) ⟨hx, hb, hml, hown, hts⟩ hK hP hS (c_X3_type hq) (cwV 0 hts gX4_typeAt_X3_type rfl rfl rfl k_yX3_type ⟨Nat.le_of_ble_eq_true rfl, Nat.le_of_ble_eq_true rfl⟩) iq 3 hq rfl rfl rfl hl.1 rfl rfl dX4_typeAt_9 ⟨Nat.le_of_ble_eq_true rfl, Nat.le_of_ble_eq_true rfl⟩ (fun H locs hP hS => ?_)
    refine lv_goto (tgt := 30) hx hb dX4_typeAt_12 (by decide) ?_
    exact z_iret hx hb hr hlocks hS dX4_typeAt_30 rfl
set_option maxRecDepth 20000 in
theorem lk194_wsX4_typeAt : Cond.fieldLink RX4 20 "QueryGateway" "graph" "LQueryGateway$Graph;" ∈ wsX4_typeAt := by decide +kernel
set_option maxHeartbeats 4000000 in
set_option maxRecDepth 100000 in
theorem c_X4_typeAt_at {l : Launch} {D : va_G} {cy : zCy} {w : va_W} {io o g q P A U : Nat} (ho : w[io]? = some (o, .inr (4, [.ref g, .ref q, .ref P, .ref A, .ref U]))) {i a1 a2 a3 a4 a5 : Nat} {fa : Int32} (h : w[i]? = some (g, .inr (1, [.ref a1, .ref a2, .ref a3, .ref a4, .ref a5, .int fa]))) {jl : Nat} {ld : Nat → Int32} (hle : w[jl]? = some (a2, .inl (cy.1, 32, .inl ld))) {iq a b nn : Nat} {ty : Int32} (hq : w[iq]? = some (q, .inr (3, [.ref a, .ref b, .int ty, .int (nI nn)]))) {jb : Nat} {sl : Nat → Nat} (hsl : w[jb]? = some (b, .inl (cy.1, 12, .inl (fun z => nI (sl z))))) (hn : nn ≤ 12) {k : Nat} (hk : k < nn) (hsl32 : sl k < 32) : zR l yX4_typeAt wsX4_typeAt rmX4_typeAt D cy w [.ref o, .int (nI k)] (ld (sl k)) := by
  refine zR.of (cc := cX4_typeAt) (maxL := 2) (ret := (some .int)) (by decide) rfl rfl ?_
  intro p e s m below meth c ls C hP hK hl
  obtain ⟨hx, hb, hr, hml, hts, hown, hlocks⟩ := C
  have hS : va_S zF s.heap s.heap [] := va_S.rf
  have hl : lv_has ls 2 [(0, .ref o), (1, .int (nI k))] := hl
  refine lv_iload_n hx hb dX4_typeAt_0 rfl (lv_at hl 1 rfl) ?_
  refine lv_iconst (v := (-1 : Int32)) hx hb dX4_typeAt_1 (by decide) ?_
  refine lv_icmp_ne (tgt := 15) hx hb dX4_typeAt_2 (by decide) (fun cb1 => ?_) (fun cb1 => ?_)
  · skip
    refine lv_aload_n hx hb dX4_typeAt_15 rfl (lv_at hl 0 rfl) ?_
    refine va_get (D := D) (ci := 4) (v := .ref g) (C := RX4) (T := TX4) (N := 5) hx hb hts in_wsX4_typeAt_X4 hown hK.1 hP io ho rfl 0 (by decide) (hts _ lk194_wsX4_typeAt) (fun _ h9 => h9) rfl dX4_typeAt_16 ?_
    refine lv_aload_n hx hb dX4_typeAt_19 rfl (lv_at hl 0 rfl) ?_
    refine va_get (D := D) (ci := 4) (v := .ref q) (C := RX4) (T := TX4) (N := 5) hx hb hts in_wsX4_typeAt_X4 hown hK.1 hP io ho rfl 1 (by decide) (hts _ lk191_wsX4_typeAt) (fun _ h9 => h9) rfl dX4_typeAt_20 ?_
    refine lv_iload_n hx hb dX4_typeAt_23 rfl (lv_at hl 1 rfl) ?_
    refine z_callV (b := q) (As := [.int (nI k)]) (rest := [.ref g]) ⟨hx, hb, hml, hown, hts⟩ hK hP hS (c_X3_slotAt hq hsl hn (z := k) hk) (cwV 1 hts gX4_typeAt_X3_slotAt rfl rfl rfl k_yX3_slotAt ⟨Nat.le_of_ble_eq_true rfl, Nat.le_of_ble_eq_true rfl⟩) iq 3 hq rfl rfl rfl hl.1 rfl rfl dX4_typeAt_24 ⟨Nat.le_of_ble_eq_true rfl, Nat.le_of_ble_eq_true rfl⟩ (fun H locs hP hS => ?_)
    refine z_callV (b := g) (As := [.int (nI (sl k))]) (rest := []) ⟨hx, hb, hml, hown, hts⟩ hK hP hS (c_X1_leadsOf h hle (t := sl k) hsl32) (cwV 1 hts gX4_typeAt_X1_leadsOf rfl rfl rfl k_yX1_leadsOf ⟨Nat.le_of_ble_eq_true rfl, Nat.le_of_ble_eq_true rfl⟩) i 1 h rfl rfl rfl hl.1 rfl rfl dX4_typeAt_27 ⟨Nat.le_of_ble_eq_true rfl, Nat.le_of_ble_eq_true rfl⟩ (fun H locs hP hS => ?_)
    exact z_iret hx hb hr hlocks hS dX4_typeAt_30 rfl
  · skip
    exact absurd cb1 (nI_m1 (by omega))
