/-! METHODS THAT THROW, AND THEIR CATCHING: the uniform contracts -/
abbrev zIAE : String := "java/lang/IllegalArgumentException"
abbrev zISE : String := "java/lang/IllegalStateException"
abbrev zIOE : String := "java/lang/IndexOutOfBoundsException"
abbrev zNSE : String := "java/util/NoSuchElementException"
abbrev zNm : List String := ["java/lang/RuntimeException", "java/lang/Exception"]
def zStr : List (Nat × String) := [(54, "a field is plain or leads to a type from 0 to 3"), (65, "the type has 8 fields"), (97, "the value is out of the field's range"), (116, "the field of the node above is plain"), (121, "there is no room for this node"), (160, "the last key is below the first one"), (162, "the field of the node is plain"), (175, "the node is missing in all answers"), (181, "a service is 0 to 3"), (183, "a type is 0 to 3"), (188, "a key is 0 to 19"), (192, "there is no such field"), (198, "there is no such node"), (203, "there is no plan")]
def zEx : List String := [zIAE, zISE, zIOE, zNSE]
def zNo : List (String × String) := [(zISE, zIAE), (zIOE, zIAE), (zISE, zIOE), (zNSE, zIOE), (zNSE, zISE)]
def zSup : List String := ["java/lang/RuntimeException", "java/lang/Exception", "java/lang/Throwable"]
def zTs (U : State) : Prop := (∀ q ∈ zStr, ∃ a, vk_R RX4 q.1 q.2 a U) ∧ (∀ E ∈ zEx, va_Nw (.castable E E) U) ∧ (∀ q ∈ zNo, va_Nc q.1 q.2 U) ∧ ∀ Y ∈ zSup, va_Nw (.declares (Bundle.initS Y)) U
theorem z_warmD {y : MethodName} {s U : State} (hW : s.WarmedH U.vm) (hZ : va_Nw (.declares y) s) : va_Nw (.declares y) U := va_tabs rfl (rfl : (s.setVm U.vm).vm = U.vm) (by rw [Cond.declares_setVm hW.alike]; exact hZ)
theorem zTs.warm {s U : State} (hW : s.WarmedH U.vm) (h : zTs s) : zTs U := ⟨fun q hq => by obtain ⟨a, ha⟩ := h.1 q hq; exact ⟨a, vk_R.warm hW ha⟩, fun E hE => va_Nw.warmC hW (h.2.1 E hE), fun q hq => (h.2.2.1 q hq).moved hW.alike, fun Y hY => z_warmD hW (h.2.2.2 Y hY)⟩
theorem zTs.call {U : State} {g : JFrame} {mk : MethodId} {a : Array Value} (h : zTs U) : zTs (U.calling g mk a) := h.warm (U := U.calling g mk a) (State.WarmedH.refl U)
def zTh (A : Nat → Prop) (U : State) (H : Heap) : Prop := vx_Zq Bundle.tN "UNASSIGNED_STACK" Bundle.steD A U H ∧ vx_Zq Bundle.tN "SUPPRESSED_SENTINEL" Bundle.listD A U H
theorem zTh.moved {A : Nat → Prop} {u U : State} {H : Heap} (hvm : u.vm.Alike U.vm) (h : zTh A u H) : zTh A U H := ⟨h.1.moved hvm, h.2.moved hvm⟩
theorem zTh.kept {A : Nat → Prop} {U : State} {H H1 : Heap} (h : zTh A U H) (hq : ∀ a : Nat, a < H.size → ¬ A a → H1[a]? = H[a]?) : zTh A U H1 := ⟨h.1.kept hq, h.2.kept hq⟩
theorem zTh.narrow {A B : Nat → Prop} {U : State} {H : Heap} (h : zTh A U H) (hAB : ∀ q, B q → A q) : zTh B U H := ⟨h.1.narrow hAB, h.2.narrow hAB⟩
/-- always throws E; the world becomes another -/
def zX (S : Type) (l : Launch) (y : MethodName) (ws : List Cond) (rm : Room) (D : va_G) (cy : zCy) (w : va_W) (av : List Value) (E : String) (post : S → Prop) (w' : S → va_W) : Prop :=
  vx_Met l y ws rm (va_Pc av (fun U => va_P D vwCl w U.heap ∧ zK D cy U ∧ va_D (fun _ => True) w ∧ zTs U ∧ zTh (zIn w) U U.heap)) (va_Qv (fun _ : Unit => False) (fun _ _ => True) zF) (vx_X (fun u : S => post u) (fun E' u t => E' = E ∧ va_P D vwCl (w' u) t.heap) (zIn w)) 1 6 (zIn w)
abbrev zXQ (S : Type) (D : va_G) (below : List Frame) (args : Array Value) (s : State) (w : va_W) (E : String) (post : S → Prop) (w' : S → va_W) : State → Prop := vx_MQ below (va_Qv (fun _ : Unit => False) (fun _ _ => True) zF) (vx_X (fun u : S => post u) (fun E' u t => E' = E ∧ va_P D vwCl (w' u) t.heap) (zIn w)) args s 1 6 (zIn w)
/-- catches what is thrown below; one cell of six slots may come -/
def zB (S : Type) (l : Launch) (y : MethodName) (ws : List Cond) (rm : Room) (D : va_G) (cy : zCy) (w : va_W) (av : List Value) (post : Int32 → S → Prop) (w' : S → va_W) : Prop :=
  Met l y ws rm (va_Pc av (fun U => va_P D vwCl w U.heap ∧ zK D cy U ∧ va_D (fun _ => True) w ∧ zTs U ∧ zTh (zIn w) U U.heap)) (va_Qi post (fun u t => va_P D vwCl (w' u) t.heap) (zIn w)) 1 6 (zIn w)
abbrev zBQ (S : Type) (D : va_G) (below : List Frame) (args : Array Value) (s : State) (w : va_W) (post : Int32 → S → Prop) (w' : S → va_W) : State → Prop := MQ below (va_Qi post (fun u t => va_P D vwCl (w' u) t.heap) (zIn w)) args s 1 6 (zIn w)
section ZT
variable {p : Program} {l : Launch} {e : Env} {R : Room} {s : State} {m : MethodId} {args : Array Value} {below : List Frame} {meth : Method} {c : Code} {H H0 : Heap} {locs : List Loc} {D : va_G} {cy : zCy} {w W0 : va_W} {A0 : Nat → Prop}
variable {cc bytes : ByteArray} {pc nL maxL index n : Nat} {ls : Array Slot} {rest As st0 : List Value} {y : MethodName} {ret : Option FieldType} {ws ws' Ts : List Cond} {rm : Room} {own C : String} {b : Addr} {S S' : Type} {E : String}
theorem zX.blind {av : List Value} : FrameBlind (va_Pc av (fun U => va_P D vwCl w U.heap ∧ zK D cy U ∧ va_D (fun _ => True) w ∧ zTs U ∧ zTh (zIn w) U U.heap)) := fun _ _ _ _ q => ⟨q.1, q.2.1, q.2.2.1.call, q.2.2.2.1, q.2.2.2.2.1.call, q.2.2.2.2.2.moved (Vm.Alike.refl _)⟩
theorem zX.of {av : List Value} {post : S → Prop} {w' : S → va_W} (hy : plainName y.cls = true) (hw : ws = Cond.code y cc maxL ret :: ws') (hlen : Nat.ble (lg_sl av).length maxL = true)
    (body : ∀ (p : Program) (e : Env) (s : State) (m : MethodId) (below : List Frame) (meth : Method) (c : Code) (ls : Array Slot), zC p s m av.toArray meth c cc maxL ret ws y.cls → (∀ x ∈ c.exceptionTable.toList, False) → va_P D vwCl w s.heap → zK D cy s → va_D (zIn w) w → zTs s → zTh (zIn w) s s.heap → lv_has ls maxL (lv_args 0 av) →
      W p l e rm s m av.toArray below meth c s.heap [] 0 0 (zXQ S D below av.toArray s w E post w') (F0 m 0 ls [])) : zX S l y ws rm D cy w av E post w' := by
  refine vx_ofW (cc := cc) (maxL := maxL) (ret := ret) hy hw ?_
  intro p e s m args below meth c s₁ B hml ht hv
  obtain ⟨rfl, hP, hK, hD, hTs, hTh⟩ := hv
  have hl := lv_entry av (n := maxL) (z_len hlen)
  rw [lg_entry_eq]
  exact body p e s m below meth c _ ⟨B.exec, B.bytes, B.returns, hml, atoms_spec (ws := ws) B.pre, findClass_of_methodNamed B.named, B.notSynchronized⟩ ht hP hK (zIn.D hD) hTs hTh hl
/-- methods with handlers of their own -/
theorem Met.ofWH {Pc : Array Value → State → Prop} {Qc : Array Value → State → Outcome → State → Prop} {mc ms : Nat} {free : Addr → Prop} {hh : List (Nat × Nat × Nat × Nat)}
    (hy : plainName y.cls = true) (hw : ws = Cond.codeWith y cc maxL ret hh :: ws')
    (body : ∀ p e s m args below meth c s₁, BodyLoose p l y (headSpec ws rm) cc maxL ret e s m args below meth c s₁ → c.maxLocals = maxL → Pc args s →
      W p l e (headSpec ws rm).room s m args below meth c s.heap [] 0 0 (MQ below Qc args s mc ms free) (entryFrame m args maxL)) : Met l y ws rm Pc Qc mc ms free := by
  refine MetFree.of_bodyS (code := cc) (maxLocals := maxL) (ret := ret) hy ?_ ?_
  · intro args s m h hn
    obtain ⟨m9, meth, c, hn9, h1, h2, h3, h4, -, h5, h6, -⟩ := Cond.codeWith_spec (atoms_spec (ws := ws) h _ (by rw [hw]; exact List.mem_cons_self))
    cases hn.symm.trans hn9
    exact ⟨meth, c, h1, h2, h3, h4, h5, h6⟩
  · intro p e s m args below meth c s₁ B hml hP _
    have hh0 : s₁.heap = s.heap := by rw [B.state]; rfl
    obtain ⟨t, a1, o, b1, b2, b3⟩ := body p e s m args below meth c s₁ B hml hP s₁ hh0 (Stand.of_body B)
    exact ⟨t, o, a1, b1, b2, ⟨b3.1, b3.2⟩⟩
theorem zW.ofH {av : List Value} {post : Int32 → S → Prop} {w' : S → va_W} {hh : List (Nat × Nat × Nat × Nat)} (hy : plainName y.cls = true) (hw : ws = Cond.codeWith y cc maxL ret hh :: ws') (hlen : Nat.ble (lg_sl av).length maxL = true)
    (body : ∀ (p : Program) (e : Env) (s : State) (m : MethodId) (below : List Frame) (meth : Method) (c : Code) (ls : Array Slot), zC p s m av.toArray meth c cc maxL ret ws y.cls → va_P D vwCl w s.heap → zK D cy s → va_D (zIn w) w → lv_has ls maxL (lv_args 0 av) →
      W p l e rm s m av.toArray below meth c s.heap [] 0 0 (zWQ S D below av.toArray s w post w') (F0 m 0 ls [])) : zW S l y ws rm D cy w av post w' := by
  refine Met.ofWH (cc := cc) (maxL := maxL) (ret := ret) (hh := hh) hy hw ?_
  intro p e s m args below meth c s₁ B hml hv
  obtain ⟨rfl, hP, hK, hD⟩ := hv
  have hl := lv_entry av (n := maxL) (z_len hlen)
  rw [lg_entry_eq]
  exact body p e s m below meth c _ ⟨B.exec, B.bytes, B.returns, hml, atoms_spec (ws := ws) B.pre, findClass_of_methodNamed B.named, B.notSynchronized⟩ hP hK (zIn.D hD) hl
theorem zB.ofH {av : List Value} {post : Int32 → S → Prop} {w' : S → va_W} {hh : List (Nat × Nat × Nat × Nat)} (hy : plainName y.cls = true) (hw : ws = Cond.codeWith y cc maxL ret hh :: ws') (hlen : Nat.ble (lg_sl av).length maxL = true)
    (body : ∀ (p : Program) (e : Env) (s : State) (m : MethodId) (below : List Frame) (meth : Method) (c : Code) (ls : Array Slot), zC p s m av.toArray meth c cc maxL ret ws y.cls → c.exceptionTable.toList = tableOf hh → va_P D vwCl w s.heap → zK D cy s → va_D (zIn w) w → zTs s → zTh (zIn w) s s.heap → lv_has ls maxL (lv_args 0 av) →
      W p l e rm s m av.toArray below meth c s.heap [] 0 0 (zBQ S D below av.toArray s w post w') (F0 m 0 ls [])) : zB S l y ws rm D cy w av post w' := by
  refine Met.ofWH (cc := cc) (maxL := maxL) (ret := ret) (hh := hh) hy hw ?_
  intro p e s m args below meth c s₁ B hml hv
  obtain ⟨rfl, hP, hK, hD, hTs, hTh⟩ := hv
  have hts := atoms_spec (ws := ws) B.pre
  have hl := lv_entry av (n := maxL) (z_len hlen)
  rw [lg_entry_eq]
  exact body p e s m below meth c _ ⟨B.exec, B.bytes, B.returns, hml, hts, findClass_of_methodNamed B.named, B.notSynchronized⟩ (vx_table (x := y) B (hts _ (by rw [hw]; exact List.mem_cons_self))) hP hK (zIn.D hD) hTs hTh hl
/-- new E("text"), thrown -/
theorem z_throw {post : S → Prop} {w' : S → va_W} (u : S) {ik is ic : Nat} {tx : String} (hx : p.tables.exec = Jvm.exec) (hb : c.code = cc) (hl : l.stackTraces = false) (hml : c.maxLocals = nL) (hsize : ls.size = nL) (hown : s.vm.findClass own = some m.cls) (hlocks : meth.locks = false) (hcls : Bundle.fit E = true)
    (hts : ∀ w ∈ Ts, w.before args s = true) (h1 : ∀ w ∈ (vx_atS own ic E zNm).filter goodWord, w ∈ Ts) (hk : Cond.classLink own ik E ∈ Ts) (hini : Cond.initialized E ∈ Ts) (h2 : ∀ w ∈ (vx_atS own ic E zNm).filter (fun w => !goodWord w), w ∈ [Cond.castable E E, Cond.declares (Bundle.initS "java/lang/RuntimeException"), Cond.declares (Bundle.initS "java/lang/Exception"), Cond.declares (Bundle.initS "java/lang/Throwable")]) (hgood : ∀ w ∈ Cond.classLink own ik E :: Cond.initialized E :: vx_atS own ic E zNm, vx_ot w = true)
    (hO : own = RX4) (hTs : zTs s) (hstr : (is, tx) ∈ zStr) (hEx : E ∈ zEx) (hTh : zTh (zIn w) s s.heap) (hS : va_S (zIn w) s.heap H locs)
    (d0 : decode cc pc = .ok (.new ik, 3)) (d3 : decode cc (pc + 3) = .ok (.dup, 1)) (d4 : decode cc (pc + 4) = .ok (.ldc is, 2)) (d6 : decode cc (pc + 6) = .ok (.invokespecial ic, 3)) (d9 : decode cc (pc + 9) = .ok (.athrow, 1))
    (ht : ∀ x ∈ c.exceptionTable.toList, False) (hR : Nat.ble 6 R.frames = true ∧ Nat.ble 82 R.locals = true ∧ Nat.ble 1 R.cells = true ∧ Nat.ble 6 R.slots = true) (hP : va_P D vwCl (w' u) H) (hp : post u) :
    W p l e R s m args below meth c H locs 0 0 (zXQ S D below args s w E post w') (F0 m pc ls []) := by
  subst hO
  obtain ⟨sa, hsa⟩ := hTs.1 _ hstr
  have hR1 := Nat.le_of_ble_eq_true hR.1
  have hR2 := Nat.le_of_ble_eq_true hR.2.1
  have hR3 := Nat.le_of_ble_eq_true hR.2.2.1
  have hR4 := Nat.le_of_ble_eq_true hR.2.2.2
  refine vx_throwS (names := zNm) hx hb hl hown hcls (by decide) (hts _ hk) (hts _ hini) hsa (vx_hat (fun w hw => hts w (h1 w hw)) h2 (vx_c (va_Nw.use rfl (hTs.2.1 E hEx)) (vx_c (va_Nw.use rfl (hTs.2.2.2 _ (by decide))) (vx_c (va_Nw.use rfl (hTs.2.2.2 _ (by decide))) (vx_c (va_Nw.use rfl (hTs.2.2.2 _ (by decide))) vx_n))))) hgood hTh.1 hTh.2 hS (hsize.trans hml.symm) d0 d3 d4 d6 d9 (fun x hx => (ht x hx).elim) ?_ ?_ ?_ ?_ hlocks ?_ hS.2.2 (by omega) (by omega)
  · show 2 + 3 < R.frames; omega
  · show 0 + (13 * (2 + 1) + 43) ≤ R.locals; omega
  · omega
  · omega
  · intro t _ h3 h4
    exact ⟨u, hp, ⟨rfl, hP.kept fun k q hk => h4 q.1 (hP k q hk).lt⟩, ⟨Nat.le_trans hS.1 h3, fun q h5 h6 => (h4 q (Nat.lt_of_lt_of_le h5 hS.1)).trans (hS.2.1 q h5 h6)⟩⟩
/-- new NoSuchElementException("text"), thrown -/
theorem z_throwN {post : S → Prop} {w' : S → va_W} (u : S) {is : Nat} {tx : String} (hx : p.tables.exec = Jvm.exec) (hb : c.code = cc) (hl : l.stackTraces = false) (hml : c.maxLocals = nL) (hsize : ls.size = nL) (hown : s.vm.findClass own = some m.cls) (hlocks : meth.locks = false)
    (hts : ∀ w ∈ Ts, w.before args s = true) (h1 : ∀ w ∈ vx_atN.filter goodWord, w ∈ Ts) (hk : Cond.classLink own 173 zNSE ∈ Ts) (hini : Cond.initialized zNSE ∈ Ts)
    (hO : own = RX4) (hTs : zTs s) (hstr : (is, tx) ∈ zStr) (hTh : zTh (zIn w) s s.heap) (hS : va_S (zIn w) s.heap H locs)
    (d0 : decode cc pc = .ok (.new 173, 3)) (d3 : decode cc (pc + 3) = .ok (.dup, 1)) (d4 : decode cc (pc + 4) = .ok (.ldc is, 2)) (d6 : decode cc (pc + 6) = .ok (.invokespecial 177, 3)) (d9 : decode cc (pc + 9) = .ok (.athrow, 1))
    (ht : ∀ x ∈ c.exceptionTable.toList, False) (hR : Nat.ble 6 R.frames = true ∧ Nat.ble 82 R.locals = true ∧ Nat.ble 1 R.cells = true ∧ Nat.ble 6 R.slots = true) (hP : va_P D vwCl (w' u) H) (hp : post u) :
    W p l e R s m args below meth c H locs 0 0 (zXQ S D below args s w zNSE post w') (F0 m pc ls []) := by
  subst hO
  obtain ⟨sa, hsa⟩ := hTs.1 _ hstr
  have hR1 := Nat.le_of_ble_eq_true hR.1
  have hR2 := Nat.le_of_ble_eq_true hR.2.1
  have hR3 := Nat.le_of_ble_eq_true hR.2.2.1
  have hR4 := Nat.le_of_ble_eq_true hR.2.2.2
  refine vx_throwN hx hb hl hown (hts _ hk) (hts _ hini) hsa (vx_hat (fun w hw => hts w (h1 w hw)) nsBad (vx_c (va_Nw.use rfl (hTs.2.1 zNSE (by decide))) (vx_c (va_Nw.use rfl (hTs.2.2.2 _ (by decide))) (vx_c (va_Nw.use rfl (hTs.2.2.2 _ (by decide))) (vx_c (va_Nw.use rfl (hTs.2.2.2 _ (by decide))) vx_n))))) hTh.1 hTh.2 hS (hsize.trans hml.symm) d0 d3 d4 d6 d9 (fun x hx => (ht x hx).elim) ?_ ?_ ?_ ?_ hlocks ?_ hS.2.2 (by omega) (by omega)
  · show 2 + 3 < R.frames; omega
  · show 0 + (13 * (2 + 1) + 43) ≤ R.locals; omega
  · omega
  · omega
  · intro t _ h3 h4
    exact ⟨u, hp, ⟨rfl, hP.kept fun k q hk => h4 q.1 (hP k q hk).lt⟩, ⟨Nat.le_trans hS.1 h3, fun q h5 h6 => (h4 q (Nat.lt_of_lt_of_le h5 hS.1)).trans (hS.2.1 q h5 h6)⟩⟩
/-- what a callee throws goes on to the caller -/
theorem z_thruV {post : S → Prop} {w' : S → va_W} {post1 : S' → Prop} {w1 : S' → va_W} (wr : va_W) (Sx : CallFix p m c cc nL s args Ts own) (hK : zK D cy s) (hP : va_P D vwCl W0 H) (hD : va_D (zIn w) W0) (hS : va_S (zIn w) s.heap H locs) (hTs : zTs s) (hTh : zTh (zIn w) s s.heap) {wc : va_W} (hM : zX S' l y ws rm D cy wc (.ref b :: As) E post1 w1) (cw : CallW R s args own C index y bytes maxL ret ws rm 1 6 n)
    (isC isR : List Nat) (hC : isC.map (fun i => W0[i]?) = wc.map some) (hR : isR.map (fun i => W0[i]?) = wr.map some) (hnd : (va_nd isC && va_nd isR && isR.all (fun i => decide (i ∉ isC))) = true) (had : ∀ u, (w1 u).map Prod.fst = wc.map Prod.fst)
    (q0 ci : Nat) {fs : List Value} {q : vw_C} (he : W0[q0]? = some (b, .inr (ci, fs))) (hc : vwCl[ci]? = some q) (hCq : q.1 = C)
    (hn : As.length = n) (hsize : ls.size = nL) (hst : st0 = As.reverse ++ .ref b :: rest) (hroom : Nat.ble (rest.map fun v => v.category).sum 8 = true) (hdg : decode cc pc = .ok (.invokevirtual index, 3)) (hf : 0 + 1 ≤ R.cells ∧ 0 + 6 ≤ R.slots) (ht : ∀ x ∈ c.exceptionTable.toList, False) (hlocks : meth.locks = false)
    (kk : ∀ (u : S') (H1 : Heap), post1 u → va_P D vwCl (wr ++ w1 u) H1 → ∃ u2 : S, post u2 ∧ va_P D vwCl (w' u2) H1) : W p l e R s m args below meth c H locs 0 0 (zXQ S D below args s w E post w') (F0 m pc ls st0) := by
  subst hCq
  simp only [Bool.and_eq_true, List.all_eq_true, decide_eq_true_eq] at hnd
  have hDc := hD.sub isC hnd.1.1 hC
  have hPc : va_P D vwCl wc H := hP.sub isC (by have := congrArg (List.filterMap id) hC; simpa [List.filterMap_map, Function.comp_def] using this)
  have hle : ∀ q, zIn wc q → zIn w q := zIn.le hDc
  refine vx_callv (vx_runV (As := As) (rest := rest) Sx hM cw ⟨zX.blind, va_recv hK.1 hP hc he, fun U hU hW => ⟨rfl, by rw [hU]; exact hPc, hK.warm hW, hDc.weaken (fun _ _ _ _ => trivial), hTs.warm hW, by rw [hU]; exact ((hTh.kept hS.2.1).moved hW.alike).narrow hle⟩⟩ rfl hn hsize hst (lv_room (Nat.le_of_ble_eq_true hroom)) hdg hf) hS (fun _ _ h => h.elim) hle (fun q _ h => hle q h) (fun E' ce q9 u t H1 locs1 h1 h2 h3 h4 h5 h6 h7 h8 h9 h10 => ?_) (fun u t H1 locs1 h1 h2 h3 => h3.elim)
  obtain ⟨rfl, h4⟩ := h4
  rw [h1] at h4
  obtain ⟨hP1, -⟩ := z_frame hP hD isC isR hC hR hnd.1.1 hnd.1.2 hnd.2 h6 h4 (had u)
  obtain ⟨u2, hp2, hP2⟩ := kk u H1 h3 hP1
  exact vx_out (fun x hx => (ht x hx).elim) hlocks h8 h9 h10 (fun t2 ht2 _ => ⟨u2, hp2, ⟨rfl, by show va_P D vwCl (w' u2) t2.heap; rw [ht2]; exact hP2⟩, h7.F ht2⟩) h7.2.2 (Nat.le_refl _) (Nat.le_refl _)
/-- the same of a static callee that leaves the world -/
theorem z_thruS {post : S → Prop} {w' : S → va_W} (u2 : S) (Sx : CallFix p m c cc nL s args Ts own) (hK : zK D cy s) (hP : va_P D vwCl W0 H) (hD : va_D (zIn w) W0) (hS : va_S (zIn w) s.heap H locs) (hTs : zTs s) (hTh : zTh (zIn w) s s.heap) (hM : zX Unit l y ws rm D cy W0 As E (fun _ => True) (fun _ => W0)) (cw : CallB R s args own index y bytes maxL ret ws rm 1 6 n ∧ (Cond.static y).before args s = true)
    (hn : As.length = n) (hsize : ls.size = nL) (hst : st0 = As.reverse ++ rest) (hroom : Nat.ble (rest.map fun v => v.category).sum 8 = true) (hdg : decode cc pc = .ok (.invokestatic index, 3)) (hf : 0 + 1 ≤ R.cells ∧ 0 + 6 ≤ R.slots) (ht : ∀ x ∈ c.exceptionTable.toList, False) (hlocks : meth.locks = false)
    (hp : post u2) (hw : w' u2 = W0) : W p l e R s m args below meth c H locs 0 0 (zXQ S D below args s w E post w') (F0 m pc ls st0) := by
  have hle : ∀ q, zIn W0 q → zIn w q := zIn.le hD
  refine vx_callv (vx_runS (As := As) (rest := rest) Sx hM cw ⟨zX.blind, fun U hU hW => ⟨rfl, by rw [hU]; exact hP, hK.warm hW, hD.weaken (fun _ _ _ _ => trivial), hTs.warm hW, by rw [hU]; exact ((hTh.kept hS.2.1).moved hW.alike).narrow hle⟩⟩ rfl hn hsize hst (lv_room (Nat.le_of_ble_eq_true hroom)) hdg hf) hS (fun _ _ h => h.elim) hle (fun q _ h => hle q h) (fun E' ce q9 u t H1 locs1 h1 h2 h3 h4 h5 h6 h7 h8 h9 h10 => ?_) (fun u t H1 locs1 h1 h2 h3 => h3.elim)
  obtain ⟨rfl, h4⟩ := h4
  rw [h1] at h4
  exact vx_out (fun x hx => (ht x hx).elim) hlocks h8 h9 h10 (fun t2 ht2 _ => ⟨u2, hp, ⟨rfl, by show va_P D vwCl (w' u2) t2.heap; rw [ht2, hw]; exact h4⟩, h7.F ht2⟩) h7.2.2 (Nat.le_refl _) (Nat.le_refl _)
/-- the same of a callee of this object that leaves the world -/
theorem z_thruO {post : S → Prop} {w' : S → va_W} (u2 : S) (Sx : CallFix p m c cc nL s args Ts own) (hK : zK D cy s) (hP : va_P D vwCl W0 H) (hD : va_D (zIn w) W0) (hS : va_S (zIn w) s.heap H locs) (hTs : zTs s) (hTh : zTh (zIn w) s s.heap) (hM : zX Unit l y ws rm D cy W0 (.ref b :: As) E (fun _ => True) (fun _ => W0)) (cw : CallW R s args own C index y bytes maxL ret ws rm 1 6 n)
    (q0 ci : Nat) {fs : List Value} {q : vw_C} (he : W0[q0]? = some (b, .inr (ci, fs))) (hc : vwCl[ci]? = some q) (hCq : q.1 = C)
    (hn : As.length = n) (hsize : ls.size = nL) (hst : st0 = As.reverse ++ .ref b :: rest) (hroom : Nat.ble (rest.map fun v => v.category).sum 8 = true) (hdg : decode cc pc = .ok (.invokevirtual index, 3)) (hf : 0 + 1 ≤ R.cells ∧ 0 + 6 ≤ R.slots) (ht : ∀ x ∈ c.exceptionTable.toList, False) (hlocks : meth.locks = false)
    (hp : post u2) (hw : w' u2 = W0) : W p l e R s m args below meth c H locs 0 0 (zXQ S D below args s w E post w') (F0 m pc ls st0) := by
  subst hCq
  have hle : ∀ q, zIn W0 q → zIn w q := zIn.le hD
  refine vx_callv (vx_runV (As := As) (rest := rest) Sx hM cw ⟨zX.blind, va_recv hK.1 hP hc he, fun U hU hW => ⟨rfl, by rw [hU]; exact hP, hK.warm hW, hD.weaken (fun _ _ _ _ => trivial), hTs.warm hW, by rw [hU]; exact ((hTh.kept hS.2.1).moved hW.alike).narrow hle⟩⟩ rfl hn hsize hst (lv_room (Nat.le_of_ble_eq_true hroom)) hdg hf) hS (fun _ _ h => h.elim) hle (fun q _ h => hle q h) (fun E' ce q9 u t H1 locs1 h1 h2 h3 h4 h5 h6 h7 h8 h9 h10 => ?_) (fun u t H1 locs1 h1 h2 h3 => h3.elim)
  obtain ⟨rfl, h4⟩ := h4
  rw [h1] at h4
  exact vx_out (fun x hx => (ht x hx).elim) hlocks h8 h9 h10 (fun t2 ht2 _ => ⟨u2, hp, ⟨rfl, by show va_P D vwCl (w' u2) t2.heap; rw [ht2, hw]; exact h4⟩, h7.F ht2⟩) h7.2.2 (Nat.le_refl _) (Nat.le_refl _)
/-- what a callee throws is caught here: on at the handler x, past the rows pre -/
theorem z_catch {Q : State → Prop} {post1 : S' → Prop} {w1 : S' → va_W} {hh : List (Nat × Nat × Nat × Nat)} (wr : va_W) (Sx : CallFix p m c cc nL s args Ts own) (hK : zK D cy s) (hP : va_P D vwCl W0 H) (hD : va_D (zIn w) W0) (hS : va_S (zIn w) s.heap H locs) (hTs : zTs s) (hTh : zTh (zIn w) s s.heap) {wc : va_W} (hM : zX S' l y ws rm D cy wc (.ref b :: As) E post1 w1) (cw : CallW R s args own C index y bytes maxL ret ws rm 1 6 n)
    (isC isR : List Nat) (hC : isC.map (fun i => W0[i]?) = wc.map some) (hR : isR.map (fun i => W0[i]?) = wr.map some) (hnd : (va_nd isC && va_nd isR && isR.all (fun i => decide (i ∉ isC))) = true) (had : ∀ u, (w1 u).map Prod.fst = wc.map Prod.fst)
    (q0 ci : Nat) {fs : List Value} {q : vw_C} (he : W0[q0]? = some (b, .inr (ci, fs))) (hc : vwCl[ci]? = some q) (hCq : q.1 = C)
    (hn : As.length = n) (hsize : ls.size = nL) (hst : st0 = As.reverse ++ .ref b :: rest) (hroom : Nat.ble (rest.map fun v => v.category).sum 8 = true) (hdg : decode cc pc = .ok (.invokevirtual index, 3)) (hf : 0 + 1 ≤ R.cells ∧ 0 + 6 ≤ R.slots)
    (htab : c.exceptionTable.toList = tableOf hh) (pre : List ExceptionTableEntry) (x : ExceptionTableEntry) (suf : List ExceptionTableEntry) (hsplit : tableOf hh = pre ++ x :: suf)
    (hpass : ∀ z ∈ pre, z.catchType ≠ 0 ∧ ∃ nm : String, Cond.classLink own z.catchType nm ∈ Ts ∧ (E, nm) ∈ zNo) (hx : covers x pc = true) (h0 : x.catchType ≠ 0) (hlink : Cond.classLink own x.catchType E ∈ Ts) (hEx : E ∈ zEx)
    (kk : ∀ (q9 : Addr) (u : S') (H1 : Heap) (locs1 : List Loc), post1 u → va_P D vwCl (wr ++ w1 u) H1 → va_D (zIn w) (wr ++ w1 u) → va_S (zIn w) s.heap H1 locs1 → W p l e R s m args below meth c H1 locs1 1 6 Q (F0 m x.handlerPc ls [.ref q9])) : W p l e R s m args below meth c H locs 0 0 Q (F0 m pc ls st0) := by
  subst hCq
  obtain ⟨_, _, _, hown, hts⟩ := id Sx
  simp only [Bool.and_eq_true, List.all_eq_true, decide_eq_true_eq] at hnd
  have hDc := hD.sub isC hnd.1.1 hC
  have hPc : va_P D vwCl wc H := hP.sub isC (by have := congrArg (List.filterMap id) hC; simpa [List.filterMap_map, Function.comp_def] using this)
  have hle : ∀ q, zIn wc q → zIn w q := zIn.le hDc
  refine vx_callv (vx_runV (As := As) (rest := rest) Sx hM cw ⟨zX.blind, va_recv hK.1 hP hc he, fun U hU hW => ⟨rfl, by rw [hU]; exact hPc, hK.warm hW, hDc.weaken (fun _ _ _ _ => trivial), hTs.warm hW, by rw [hU]; exact ((hTh.kept hS.2.1).moved hW.alike).narrow hle⟩⟩ rfl hn hsize hst (lv_room (Nat.le_of_ble_eq_true hroom)) hdg hf) hS (fun _ _ h => h.elim) hle (fun q _ h => hle q h) (fun E' ce q9 u t H1 locs1 h1 h2 h3 h4 h5 h6 h7 h8 h9 h10 => ?_) (fun u t H1 locs1 h1 h2 h3 => h3.elim)
  obtain ⟨rfl, h4⟩ := h4
  rw [h1] at h4
  obtain ⟨hP1, hD1⟩ := z_frame hP hD isC isR hC hR hnd.1.1 hnd.1.2 hnd.2 h6 h4 (had u)
  exact vx_catch hown pre x suf (htab.trans hsplit) (fun z hz => Or.inr (by obtain ⟨g1, nm, g2, g3⟩ := hpass z hz; exact ⟨g1, nm, hts _ g2, hTs.2.2.1 _ g3⟩)) hx h0 (hts _ hlink) (va_Nw.use rfl (hTs.2.1 E' hEx)) h8 h9 h10 (kk q9 u H1 locs1 h3 hP1 hD1 h7)
end ZT
theorem hB_56 : ∀ w ∈ (vx_atS RX4 56 zIAE zNm).filter (fun w => !goodWord w), w ∈ [Cond.castable zIAE zIAE, Cond.declares (Bundle.initS "java/lang/RuntimeException"), Cond.declares (Bundle.initS "java/lang/Exception"), Cond.declares (Bundle.initS "java/lang/Throwable")] := by decide +kernel
theorem hG_56 : ∀ w ∈ Cond.classLink RX4 52 zIAE :: Cond.initialized zIAE :: vx_atS RX4 56 zIAE zNm, vx_ot w = true := by decide +kernel
theorem hB_67 : ∀ w ∈ (vx_atS RX4 67 zISE zNm).filter (fun w => !goodWord w), w ∈ [Cond.castable zISE zISE, Cond.declares (Bundle.initS "java/lang/RuntimeException"), Cond.declares (Bundle.initS "java/lang/Exception"), Cond.declares (Bundle.initS "java/lang/Throwable")] := by decide +kernel
theorem hG_67 : ∀ w ∈ Cond.classLink RX4 63 zISE :: Cond.initialized zISE :: vx_atS RX4 67 zISE zNm, vx_ot w = true := by decide +kernel
theorem hB_194 : ∀ w ∈ (vx_atS RX4 194 zIOE zNm).filter (fun w => !goodWord w), w ∈ [Cond.castable zIOE zIOE, Cond.declares (Bundle.initS "java/lang/RuntimeException"), Cond.declares (Bundle.initS "java/lang/Exception"), Cond.declares (Bundle.initS "java/lang/Throwable")] := by decide +kernel
theorem hG_194 : ∀ w ∈ Cond.classLink RX4 190 zIOE :: Cond.initialized zIOE :: vx_atS RX4 194 zIOE zNm, vx_ot w = true := by decide +kernel
