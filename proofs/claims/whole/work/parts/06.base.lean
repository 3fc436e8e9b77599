/-! THE UNIFORM CONTRACTS: what every method of this claim is proved as, and the calls of it in one row -/
def zN (U : State) : Prop := va_Nw (.methodLinkNest RX1 34 yX4_isType RX4) U ∧ va_Nw (.methodLinkNest RX1 42 yX4_slotOf RX4) U ∧ va_Nw (.methodLinkNest RX1 46 yX4_isSlot RX4) U ∧ va_Nw (.methodLinkNest RX1 49 yX4_bit RX4) U ∧ va_Nw (.methodLinkNest RX1 55 yX4_isKey RX4) U ∧ va_Nw (.methodLinkNest RX2 90 yX4_bit RX4) U ∧ va_Nw (.methodLinkNest RX0 74 yX4_bit RX4) U
theorem zN.warm {s U : State} (hW : s.WarmedH U.vm) (h : zN s) : zN U := ⟨va_Nw.warmM hW h.1, va_Nw.warmM hW h.2.1, va_Nw.warmM hW h.2.2.1, va_Nw.warmM hW h.2.2.2.1, va_Nw.warmM hW h.2.2.2.2.1, va_Nw.warmM hW h.2.2.2.2.2.1, va_Nw.warmM hW h.2.2.2.2.2.2⟩
theorem zN.same {u U : State} (hv : u.vm = U.vm) (h : zN u) : zN U := ⟨va_Nw.same rfl hv h.1, va_Nw.same rfl hv h.2.1, va_Nw.same rfl hv h.2.2.1, va_Nw.same rfl hv h.2.2.2.1, va_Nw.same rfl hv h.2.2.2.2.1, va_Nw.same rfl hv h.2.2.2.2.2.1, va_Nw.same rfl hv h.2.2.2.2.2.2⟩
abbrev zCy : Type := ClassId × ClassId × ClassId
abbrev zTy (cy : zCy) : List (ClassId × FieldType) := [(cy.1, .int), (cy.2.1, .boolean), (cy.2.2, .long)]
def zK (D : va_G) (cy : zCy) (U : State) : Prop := va_K D vwCl (zTy cy) U ∧ zN U
theorem zK.warm {D : va_G} {cy : zCy} {s U : State} (hW : s.WarmedH U.vm) (h : zK D cy s) : zK D cy U := ⟨va_K.moved hW.alike h.1, h.2.warm hW⟩
theorem zK.call {D : va_G} {cy : zCy} {U : State} {g : JFrame} {mk : MethodId} {a : Array Value} (h : zK D cy U) : zK D cy (U.calling g mk a) := ⟨va_K.moved (u := U) (U := U.calling g mk a) (Vm.Alike.refl U.vm) h.1, h.2.same rfl⟩
/-- what stands at a method's entry -/
def zC (p : Program) (s : State) (m : MethodId) (args : Array Value) (meth : Method) (c : Code) (cc : ByteArray) (nL : Nat) (ret : Option FieldType) (Ts : List Cond) (own : String) : Prop :=
  p.tables.exec = Jvm.exec ∧ c.code = cc ∧ meth.sig.returnType = ret ∧ c.maxLocals = nL ∧ (∀ w ∈ Ts, w.before args s = true) ∧ s.vm.findClass own = some m.cls ∧ meth.locks = false
def zF : Nat → Prop := fun _ => False
/-- the cells of a world -/
def zIn (w : va_W) : Nat → Prop := fun q => ∃ (k : Nat) (e : va_E), w[k]? = some (q, e)
theorem zIn.D {A : Nat → Prop} {w : va_W} (h : va_D A w) : va_D (zIn w) w := ⟨h.1, fun k q hk => ⟨k, q.2, hk⟩⟩
theorem zIn.le {A : Nat → Prop} {w : va_W} (h : va_D A w) : ∀ q, zIn w q → A q := fun q ⟨k, e, hk⟩ => h.2 k (q, e) hk
/-- an int (or boolean) out of a world that stays -/
def zR (l : Launch) (y : MethodName) (ws : List Cond) (rm : Room) (D : va_G) (cy : zCy) (w : va_W) (av : List Value) (r : Int32) : Prop :=
  Met l y ws rm (va_Pc av (fun U => va_P D vwCl w U.heap ∧ zK D cy U)) (va_Qi (fun (x : Int32) (_ : Unit) => x = r) (fun _ _ => True) zF) 0 0 zF
abbrev zRQ (below : List Frame) (args : Array Value) (s : State) (r : Int32) : State → Prop := MQ below (va_Qi (fun (x : Int32) (_ : Unit) => x = r) (fun _ _ => True) zF) args s 0 0 zF
/-- a world that becomes another (the same addresses), with an answer -/
def zW (S : Type) (l : Launch) (y : MethodName) (ws : List Cond) (rm : Room) (D : va_G) (cy : zCy) (w : va_W) (av : List Value) (post : Int32 → S → Prop) (w' : S → va_W) : Prop :=
  Met l y ws rm (va_Pc av (fun U => va_P D vwCl w U.heap ∧ zK D cy U ∧ va_D (fun _ => True) w)) (va_Qi post (fun u t => va_P D vwCl (w' u) t.heap) (zIn w)) 0 0 (zIn w)
abbrev zWQ (S : Type) (D : va_G) (below : List Frame) (args : Array Value) (s : State) (w : va_W) (post : Int32 → S → Prop) (w' : S → va_W) : State → Prop := MQ below (va_Qi post (fun u t => va_P D vwCl (w' u) t.heap) (zIn w)) args s 0 0 (zIn w)
/-- the same without an answer -/
def zV (S : Type) (l : Launch) (y : MethodName) (ws : List Cond) (rm : Room) (D : va_G) (cy : zCy) (w : va_W) (av : List Value) (post : S → Prop) (w' : S → va_W) : Prop :=
  Met l y ws rm (va_Pc av (fun U => va_P D vwCl w U.heap ∧ zK D cy U ∧ va_D (fun _ => True) w)) (va_Qv post (fun u t => va_P D vwCl (w' u) t.heap) (zIn w)) 0 0 (zIn w)
abbrev zVQ (S : Type) (D : va_G) (below : List Frame) (args : Array Value) (s : State) (w : va_W) (post : S → Prop) (w' : S → va_W) : State → Prop := MQ below (va_Qv post (fun u t => va_P D vwCl (w' u) t.heap) (zIn w)) args s 0 0 (zIn w)
section ZA
variable {p : Program} {l : Launch} {e : Env} {R : Room} {s : State} {m : MethodId} {args : Array Value} {below : List Frame} {meth : Method} {c : Code} {H H0 : Heap} {locs : List Loc} {Q : State → Prop} {D : va_G} {cy : zCy} {w : va_W}
theorem zR.blind {av : List Value} : FrameBlind (va_Pc av (fun U => va_P D vwCl w U.heap ∧ zK D cy U)) := fun _ _ _ _ q => ⟨q.1, q.2.1, q.2.2.call⟩
theorem zW.blind {av : List Value} : FrameBlind (va_Pc av (fun U => va_P D vwCl w U.heap ∧ zK D cy U ∧ va_D (fun _ => True) w)) := fun _ _ _ _ q => ⟨q.1, q.2.1, q.2.2.1.call, q.2.2.2⟩
theorem z_len {vs : List Value} {n : Nat} (h : Nat.ble (lg_sl vs).length n = true) : (lg_sl vs).length ≤ n := Nat.le_of_ble_eq_true h
/-- a method of the first kind: its walk -/
theorem zR.of {y : MethodName} {ws ws' : List Cond} {rm : Room} {cc : ByteArray} {maxL : Nat} {ret : Option FieldType} {av : List Value} {r : Int32} (hy : plainName y.cls = true) (hw : ws = Cond.code y cc maxL ret :: ws') (hlen : Nat.ble (lg_sl av).length maxL = true)
    (body : ∀ (p : Program) (e : Env) (s : State) (m : MethodId) (below : List Frame) (meth : Method) (c : Code) (ls : Array Slot), zC p s m av.toArray meth c cc maxL ret ws y.cls → va_P D vwCl w s.heap → zK D cy s → lv_has ls maxL (lv_args 0 av) →
      W p l e rm s m av.toArray below meth c s.heap [] 0 0 (zRQ below av.toArray s r) (F0 m 0 ls [])) : zR l y ws rm D cy w av r := by
  refine Met.ofW (cc := cc) (maxL := maxL) (ret := ret) hy hw ?_
  intro p e s m args below meth c s₁ B hml hv
  obtain ⟨rfl, hP, hK⟩ := hv
  have hl := lv_entry av (n := maxL) (z_len hlen)
  rw [lg_entry_eq]
  exact body p e s m below meth c _ ⟨B.exec, B.bytes, B.returns, hml, atoms_spec (ws := ws) B.pre, findClass_of_methodNamed B.named, B.notSynchronized⟩ hP hK hl
theorem zW.of {S : Type} {y : MethodName} {ws ws' : List Cond} {rm : Room} {cc : ByteArray} {maxL : Nat} {ret : Option FieldType} {av : List Value} {post : Int32 → S → Prop} {w' : S → va_W} (hy : plainName y.cls = true) (hw : ws = Cond.code y cc maxL ret :: ws') (hlen : Nat.ble (lg_sl av).length maxL = true)
    (body : ∀ (p : Program) (e : Env) (s : State) (m : MethodId) (below : List Frame) (meth : Method) (c : Code) (ls : Array Slot), zC p s m av.toArray meth c cc maxL ret ws y.cls → va_P D vwCl w s.heap → zK D cy s → va_D (zIn w) w → lv_has ls maxL (lv_args 0 av) →
      W p l e rm s m av.toArray below meth c s.heap [] 0 0 (zWQ S D below av.toArray s w post w') (F0 m 0 ls [])) : zW S l y ws rm D cy w av post w' := by
  refine Met.ofW (cc := cc) (maxL := maxL) (ret := ret) hy hw ?_
  intro p e s m args below meth c s₁ B hml hv
  obtain ⟨rfl, hP, hK, hD⟩ := hv
  have hl := lv_entry av (n := maxL) (z_len hlen)
  rw [lg_entry_eq]
  exact body p e s m below meth c _ ⟨B.exec, B.bytes, B.returns, hml, atoms_spec (ws := ws) B.pre, findClass_of_methodNamed B.named, B.notSynchronized⟩ hP hK (zIn.D hD) hl
theorem zV.of {S : Type} {y : MethodName} {ws ws' : List Cond} {rm : Room} {cc : ByteArray} {maxL : Nat} {ret : Option FieldType} {av : List Value} {post : S → Prop} {w' : S → va_W} (hy : plainName y.cls = true) (hw : ws = Cond.code y cc maxL ret :: ws') (hlen : Nat.ble (lg_sl av).length maxL = true)
    (body : ∀ (p : Program) (e : Env) (s : State) (m : MethodId) (below : List Frame) (meth : Method) (c : Code) (ls : Array Slot), zC p s m av.toArray meth c cc maxL ret ws y.cls → va_P D vwCl w s.heap → zK D cy s → va_D (zIn w) w → lv_has ls maxL (lv_args 0 av) →
      W p l e rm s m av.toArray below meth c s.heap [] 0 0 (zVQ S D below av.toArray s w post w') (F0 m 0 ls [])) : zV S l y ws rm D cy w av post w' := by
  refine Met.ofW (cc := cc) (maxL := maxL) (ret := ret) hy hw ?_
  intro p e s m args below meth c s₁ B hml hv
  obtain ⟨rfl, hP, hK, hD⟩ := hv
  have hl := lv_entry av (n := maxL) (z_len hlen)
  rw [lg_entry_eq]
  exact body p e s m below meth c _ ⟨B.exec, B.bytes, B.returns, hml, atoms_spec (ws := ws) B.pre, findClass_of_methodNamed B.named, B.notSynchronized⟩ hP hK (zIn.D hD) hl
variable {cc : ByteArray} {pc : Nat} {ls : Array Slot}
/-- the ends -/
theorem z_iret {v r : Int32} (hx : p.tables.exec = Jvm.exec) (hb : c.code = cc) (hr : meth.sig.returnType = some .int) (hlocks : meth.locks = false) (hS : va_S zF s.heap H locs) (hd : decode cc pc = .ok (.ireturn, 1)) (hv : v = r) :
    W p l e R s m args below meth c H locs 0 0 (zRQ below args s r) (F0 m pc ls [.int v]) :=
  W.iret hx hb hr (fun t ht _ => ⟨⟨v, (), rfl, hv, trivial⟩, hS.F ht⟩) hS.2.2 hd hlocks
theorem z_narB {v : Int32} (h : v = 0 ∨ v = 1) : narrow .boolean (.int v) = .int v := by rcases h with rfl | rfl <;> rfl
theorem z_zret {v r : Int32} (hx : p.tables.exec = Jvm.exec) (hb : c.code = cc) (hr : meth.sig.returnType = some .boolean) (hlocks : meth.locks = false) (hS : va_S zF s.heap H locs) (hd : decode cc pc = .ok (.ireturn, 1)) (hv : v = r) (h01 : v = 0 ∨ v = 1) :
    W p l e R s m args below meth c H locs 0 0 (zRQ below args s r) (F0 m pc ls [.int v]) :=
  W.zret hx hb hr (z_narB h01) (fun t ht _ => ⟨⟨v, (), rfl, hv, trivial⟩, hS.F ht⟩) hS.2.2 hd hlocks
theorem z_iretW {S : Type} {post : Int32 → S → Prop} {w' : S → va_W} {v : Int32} (u : S) (hx : p.tables.exec = Jvm.exec) (hb : c.code = cc) (hr : meth.sig.returnType = some .int) (hlocks : meth.locks = false) (hS : va_S (zIn w) s.heap H locs) (hd : decode cc pc = .ok (.ireturn, 1)) (hP : va_P D vwCl (w' u) H) (hp : post v u) :
    W p l e R s m args below meth c H locs 0 0 (zWQ S D below args s w post w') (F0 m pc ls [.int v]) :=
  W.iret hx hb hr (fun t ht _ => ⟨⟨v, u, rfl, hp, by show va_P D vwCl (w' u) t.heap; rw [ht]; exact hP⟩, hS.F ht⟩) hS.2.2 hd hlocks
theorem z_zretW {S : Type} {post : Int32 → S → Prop} {w' : S → va_W} {v : Int32} (u : S) (hx : p.tables.exec = Jvm.exec) (hb : c.code = cc) (hr : meth.sig.returnType = some .boolean) (hlocks : meth.locks = false) (hS : va_S (zIn w) s.heap H locs) (hd : decode cc pc = .ok (.ireturn, 1)) (hP : va_P D vwCl (w' u) H) (hp : post v u) (h01 : v = 0 ∨ v = 1) :
    W p l e R s m args below meth c H locs 0 0 (zWQ S D below args s w post w') (F0 m pc ls [.int v]) :=
  W.zret hx hb hr (z_narB h01) (fun t ht _ => ⟨⟨v, u, rfl, hp, by show va_P D vwCl (w' u) t.heap; rw [ht]; exact hP⟩, hS.F ht⟩) hS.2.2 hd hlocks
theorem z_vret {S : Type} {post : S → Prop} {w' : S → va_W} (u : S) (hx : p.tables.exec = Jvm.exec) (hb : c.code = cc) (hr : meth.sig.returnType = none) (hlocks : meth.locks = false) (hS : va_S (zIn w) s.heap H locs) (hd : decode cc pc = .ok (.return_, 1)) (hP : va_P D vwCl (w' u) H) (hp : post u) :
    W p l e R s m args below meth c H locs 0 0 (zVQ S D below args s w post w') (F0 m pc ls []) :=
  W.vret hx hb hr (fun t ht _ => ⟨⟨u, rfl, hp, by show va_P D vwCl (w' u) t.heap; rw [ht]; exact hP⟩, hS.F ht⟩) hS.2.2 hd hlocks
/-- the value on top, written otherwise -/
theorem z_top {x y : Int32} {rest : List Value} {cells slots : Nat} (h : x = y) (k : W p l e R s m args below meth c H locs cells slots Q (F0 m pc ls (.int y :: rest))) : W p l e R s m args below meth c H locs cells slots Q (F0 m pc ls (.int x :: rest)) := h ▸ k
end ZA
section ZB
variable {p : Program} {l : Launch} {e : Env} {R : Room} {s : State} {m : MethodId} {args : Array Value} {below : List Frame} {meth : Method} {c : Code} {H H0 : Heap} {locs : List Loc} {cells slots : Nat} {Q : State → Prop} {D : va_G} {cy : zCy} {w W0 : va_W} {A0 : Nat → Prop}
variable {cc bytes : ByteArray} {pc nL maxL index n : Nat} {ls : Array Slot} {rest As st0 : List Value} {y : MethodName} {ret : Option FieldType} {ws Ts : List Cond} {rm : Room} {own C host : String} {b : Addr} {r : Int32}
theorem z_kept {H1 : Heap} (hP : va_P D vwCl w H) (hk : ∀ q : Nat, q < H.size → ¬ zF q → H1[q]? = H[q]?) : va_P D vwCl w H1 := hP.kept fun _ _ h => hk _ (hP _ _ h).lt (fun z => z)
/-- calls of the first kind -/
theorem z_callV (S : CallFix p m c cc nL s args Ts own) (hK : zK D cy s) (hP : va_P D vwCl w H) (hS : va_S A0 s.heap H locs) (hM : zR l y ws rm D cy w (.ref b :: As) r) (cw : CallW R s args own C index y bytes maxL ret ws rm 0 0 n) (q0 ci : Nat) {fs : List Value} {q : vw_C} (he : w[q0]? = some (b, .inr (ci, fs))) (hc : vwCl[ci]? = some q) (hC : q.1 = C)
    (hn : As.length = n) (hsize : ls.size = nL) (hst : st0 = As.reverse ++ .ref b :: rest) (hroom : Nat.ble (rest.map fun v => v.category).sum 8 = true) (hdg : decode cc pc = .ok (.invokevirtual index, 3)) (hf : cells ≤ R.cells ∧ slots ≤ R.slots)
    (kk : ∀ (H1 : Heap) (locs1 : List Loc), va_P D vwCl w H1 → va_S A0 s.heap H1 locs1 → W p l e R s m args below meth c H1 locs1 cells slots Q (F0 m (pc + 3) ls (.int r :: rest))) : W p l e R s m args below meth c H locs cells slots Q (F0 m pc ls st0) := by
  subst hC
  refine va_calli (va_runV (As := As) (rest := rest) S hM cw ⟨zR.blind, va_recv hK.1 hP hc he, fun U hU hW => ⟨rfl, by rw [hU]; exact hP, hK.warm hW⟩⟩ rfl hn hsize hst (lv_room (Nat.le_of_ble_eq_true hroom)) hdg hf) hS (fun _ _ h => h.elim) (fun _ h => h.elim) (fun r1 u t H1 locs1 ht hvm hw hB hz hk hS1 => ?_)
  subst hw
  exact kk H1 locs1 (z_kept hP hk) hS1
theorem z_callS (S : CallFix p m c cc nL s args Ts own) (hK : zK D cy s) (hP : va_P D vwCl w H) (hS : va_S A0 s.heap H locs) (hM : zR l y ws rm D cy w As r) (cw : CallB R s args own index y bytes maxL ret ws rm 0 0 n ∧ (Cond.static y).before args s = true)
    (hn : As.length = n) (hsize : ls.size = nL) (hst : st0 = As.reverse ++ rest) (hroom : Nat.ble (rest.map fun v => v.category).sum 8 = true) (hdg : decode cc pc = .ok (.invokestatic index, 3)) (hf : cells ≤ R.cells ∧ slots ≤ R.slots)
    (kk : ∀ (H1 : Heap) (locs1 : List Loc), va_P D vwCl w H1 → va_S A0 s.heap H1 locs1 → W p l e R s m args below meth c H1 locs1 cells slots Q (F0 m (pc + 3) ls (.int r :: rest))) : W p l e R s m args below meth c H locs cells slots Q (F0 m pc ls st0) := by
  refine va_calli (va_runS (As := As) (rest := rest) S hM cw ⟨zR.blind, fun U hU hW => ⟨rfl, by rw [hU]; exact hP, hK.warm hW⟩⟩ rfl hn hsize hst (lv_room (Nat.le_of_ble_eq_true hroom)) hdg hf) hS (fun _ _ h => h.elim) (fun _ h => h.elim) (fun r1 u t H1 locs1 ht hvm hw hB hz hk hS1 => ?_)
  subst hw
  exact kk H1 locs1 (z_kept hP hk) hS1
theorem z_callSN (S : CallFix p m c cc nL s args Ts own) (hK : zK D cy s) (hP : va_P D vwCl w H) (hS : va_S A0 s.heap H locs) (hM : zR l y ws rm D cy w As r) (cw : va_CN R s args own index y host bytes maxL ret ws rm 0 0 n ∧ (Cond.static y).before args s = true ∧ True)
    (hn : As.length = n) (hsize : ls.size = nL) (hst : st0 = As.reverse ++ rest) (hroom : Nat.ble (rest.map fun v => v.category).sum 8 = true) (hdg : decode cc pc = .ok (.invokestatic index, 3)) (hf : cells ≤ R.cells ∧ slots ≤ R.slots)
    (kk : ∀ (H1 : Heap) (locs1 : List Loc), va_P D vwCl w H1 → va_S A0 s.heap H1 locs1 → W p l e R s m args below meth c H1 locs1 cells slots Q (F0 m (pc + 3) ls (.int r :: rest))) : W p l e R s m args below meth c H locs cells slots Q (F0 m pc ls st0) := by
  refine va_calli (va_runSN (As := As) (rest := rest) S hM cw ⟨zR.blind, fun U hU hW => ⟨rfl, by rw [hU]; exact hP, hK.warm hW⟩⟩ rfl hn hsize hst (lv_room (Nat.le_of_ble_eq_true hroom)) hdg hf) hS (fun _ _ h => h.elim) (fun _ h => h.elim) (fun r1 u t H1 locs1 ht hvm hw hB hz hk hS1 => ?_)
  subst hw
  exact kk H1 locs1 (z_kept hP hk) hS1
/-- the frame: a part of the world goes into the call, the rest stays -/
theorem z_frame {wc wr w1 : va_W} {H1 : Heap} (hP : va_P D vwCl W0 H) (hD : va_D A0 W0) (isC isR : List Nat) (hC : isC.map (fun i => W0[i]?) = wc.map some) (hR : isR.map (fun i => W0[i]?) = wr.map some) (hnC : va_nd isC = true) (hn : va_nd isR = true) (hdis : ∀ i ∈ isR, i ∉ isC)
    (hk : ∀ q : Nat, q < H.size → ¬ zIn wc q → H1[q]? = H[q]?) (hP1 : va_P D vwCl w1 H1) (had : w1.map Prod.fst = wc.map Prod.fst) : va_P D vwCl (wr ++ w1) H1 ∧ va_D A0 (wr ++ w1) := by
  have hDc : va_D A0 wc := hD.sub isC hnC hC
  have key : ∀ (k : Nat) (q : Nat × va_E), w1[k]? = some q → ∃ e, wc[k]? = some (q.1, e) := by
    intro k q hq
    have h1 : (w1.map Prod.fst)[k]? = some q.1 := by rw [List.getElem?_map, hq]; rfl
    rw [had, List.getElem?_map] at h1
    cases h2 : wc[k]? with
    | none => rw [h2] at h1; cases h1
    | some x => rw [h2] at h1; exact ⟨x.2, by rw [← Option.some.inj h1]⟩
  have hD1 : va_D (va_A wc H.size) w1 := ⟨fun i j a b ha hb hab => by
    obtain ⟨e1, h1⟩ := key i a ha
    obtain ⟨e2, h2⟩ := key j b hb
    exact hDc.1 i j _ _ h1 h2 hab, fun k q hq => by obtain ⟨e1, h1⟩ := key k q hq; exact Or.inl ⟨k, e1, h1⟩⟩
  have hF : ∀ q, va_A wc H.size q → (fun z => A0 z ∨ H.size ≤ z) q := fun q h => h.elim (fun ⟨k, e, h⟩ => Or.inl (hDc.2 k (q, e) h)) Or.inr
  have hj := va_join (A0 := fun z => A0 z ∨ H.size ≤ z) hP (hD.weaken fun _ _ _ h => Or.inl h) isC isR hC hR hn hdis (fun q h1 h2 => hk q h1 (fun z => h2 (Or.inl z))) hF hP1 hD1
  refine ⟨hj.1, va_D.app (hD.sub isR hn hR) ⟨hD1.1, fun k q hq => by obtain ⟨e1, h1⟩ := key k q hq; exact hDc.2 k (q.1, e1) h1⟩ ?_⟩
  intro i j p q hp hq hpq
  have hh := hj.2.1 i (wr.length + j) p q (by rw [List.getElem?_append_left (List.getElem?_eq_some_iff.mp hp).1]; exact hp) (by rw [List.getElem?_append_right (Nat.le_add_right _ _), Nat.add_sub_cancel_left]; exact hq) hpq
  have hl := (List.getElem?_eq_some_iff.mp hp).1
  omega
/-- calls of the second kind, and of the third -/
theorem z_callVW {S' : Type} {post : Int32 → S' → Prop} {w' : S' → va_W} (wr : va_W) (S : CallFix p m c cc nL s args Ts own) (hK : zK D cy s) (hP : va_P D vwCl W0 H) (hD : va_D A0 W0) (hS : va_S A0 s.heap H locs) (hM : zW S' l y ws rm D cy w (.ref b :: As) post w') (cw : CallW R s args own C index y bytes maxL ret ws rm 0 0 n) (isC isR : List Nat) (hC : isC.map (fun i => W0[i]?) = w.map some) (hR : isR.map (fun i => W0[i]?) = wr.map some) (hnd : (va_nd isC && va_nd isR && isR.all (fun i => decide (i ∉ isC))) = true) (had : ∀ u, (w' u).map Prod.fst = w.map Prod.fst)
    (q0 ci : Nat) {fs : List Value} {q : vw_C} (he : W0[q0]? = some (b, .inr (ci, fs))) (hc : vwCl[ci]? = some q) (hCq : q.1 = C)
    (hn : As.length = n) (hsize : ls.size = nL) (hst : st0 = As.reverse ++ .ref b :: rest) (hroom : Nat.ble (rest.map fun v => v.category).sum 8 = true) (hdg : decode cc pc = .ok (.invokevirtual index, 3)) (hf : cells ≤ R.cells ∧ slots ≤ R.slots)
    (kk : ∀ (r : Int32) (u : S') (H1 : Heap) (locs1 : List Loc), post r u → va_P D vwCl (wr ++ w' u) H1 → va_D A0 (wr ++ w' u) → va_S A0 s.heap H1 locs1 → W p l e R s m args below meth c H1 locs1 cells slots Q (F0 m (pc + 3) ls (.int r :: rest))) : W p l e R s m args below meth c H locs cells slots Q (F0 m pc ls st0) := by
  subst hCq
  simp only [Bool.and_eq_true, List.all_eq_true, decide_eq_true_eq] at hnd
  have hDc := hD.sub isC hnd.1.1 hC
  have hPc : va_P D vwCl w H := hP.sub isC (by have := congrArg (List.filterMap id) hC; simpa [List.filterMap_map, Function.comp_def] using this)
  refine va_calli (va_runV (As := As) (rest := rest) S hM cw ⟨zW.blind, va_recv hK.1 hP hc he, fun U hU hW => ⟨rfl, by rw [hU]; exact hPc, hK.warm hW, hDc.weaken (fun _ _ _ _ => trivial)⟩⟩ rfl hn hsize hst (lv_room (Nat.le_of_ble_eq_true hroom)) hdg hf) hS (fun q _ h => zIn.le hDc q h) (fun q h => zIn.le hDc q h) (fun r1 u t H1 locs1 ht hvm hw hB hz hk hS1 => ?_)
  rw [ht] at hB
  obtain ⟨hP1, hD1⟩ := z_frame hP hD isC isR hC hR hnd.1.1 hnd.1.2 hnd.2 hk hB (had u)
  exact kk r1 u H1 locs1 hw hP1 hD1 hS1
theorem z_callVV {S' : Type} {post : S' → Prop} {w' : S' → va_W} (wr : va_W) (S : CallFix p m c cc nL s args Ts own) (hK : zK D cy s) (hP : va_P D vwCl W0 H) (hD : va_D A0 W0) (hS : va_S A0 s.heap H locs) (hM : zV S' l y ws rm D cy w (.ref b :: As) post w') (cw : CallW R s args own C index y bytes maxL ret ws rm 0 0 n) (isC isR : List Nat) (hC : isC.map (fun i => W0[i]?) = w.map some) (hR : isR.map (fun i => W0[i]?) = wr.map some) (hnd : (va_nd isC && va_nd isR && isR.all (fun i => decide (i ∉ isC))) = true) (had : ∀ u, (w' u).map Prod.fst = w.map Prod.fst)
    (q0 ci : Nat) {fs : List Value} {q : vw_C} (he : W0[q0]? = some (b, .inr (ci, fs))) (hc : vwCl[ci]? = some q) (hCq : q.1 = C)
    (hn : As.length = n) (hsize : ls.size = nL) (hst : st0 = As.reverse ++ .ref b :: rest) (hroom : Nat.ble (rest.map fun v => v.category).sum 8 = true) (hdg : decode cc pc = .ok (.invokevirtual index, 3)) (hf : cells ≤ R.cells ∧ slots ≤ R.slots)
    (kk : ∀ (u : S') (H1 : Heap) (locs1 : List Loc), post u → va_P D vwCl (wr ++ w' u) H1 → va_D A0 (wr ++ w' u) → va_S A0 s.heap H1 locs1 → W p l e R s m args below meth c H1 locs1 cells slots Q (F0 m (pc + 3) ls rest)) : W p l e R s m args below meth c H locs cells slots Q (F0 m pc ls st0) := by
  subst hCq
  simp only [Bool.and_eq_true, List.all_eq_true, decide_eq_true_eq] at hnd
  have hDc := hD.sub isC hnd.1.1 hC
  have hPc : va_P D vwCl w H := hP.sub isC (by have := congrArg (List.filterMap id) hC; simpa [List.filterMap_map, Function.comp_def] using this)
  refine va_callv (va_runV (As := As) (rest := rest) S hM cw ⟨zW.blind, va_recv hK.1 hP hc he, fun U hU hW => ⟨rfl, by rw [hU]; exact hPc, hK.warm hW, hDc.weaken (fun _ _ _ _ => trivial)⟩⟩ rfl hn hsize hst (lv_room (Nat.le_of_ble_eq_true hroom)) hdg hf) hS (fun q _ h => zIn.le hDc q h) (fun q h => zIn.le hDc q h) (fun u t H1 locs1 ht hvm hw hB hz hk hS1 => ?_)
  rw [ht] at hB
  obtain ⟨hP1, hD1⟩ := z_frame hP hD isC isR hC hR hnd.1.1 hnd.1.2 hnd.2 hk hB (had u)
  exact kk u H1 locs1 hw hP1 hD1 hS1
/-- an array's contents matter below its length alone -/
theorem z_cell {cA : ClassId} {n : Nat} {f g : Nat → Int32} (h : ∀ j, j < n → f j = g j) : vp_cell cA (n, .inl f) = vp_cell cA (n, .inl g) := by
  have e : (fun j : Fin n => Value.int (f j.val)) = (fun j : Fin n => Value.int (g j.val)) := funext fun j => by rw [h j.val j.isLt]
  exact congrArg (fun F => ({ cls := cA, slots := Array.ofFn (n := n) F, vm := .none } : Cell)) e
end ZB
def bI (b : Bool) : Int32 := if b then 1 else 0
theorem bI01 (b : Bool) : bI b = 0 ∨ bI b = 1 := by cases b <;> simp [bI]
theorem bI_t0 {b : Bool} (h : bI b = 0) : b = false := by cases b <;> first | rfl | exact absurd h (by decide)
theorem bI_f0 {b : Bool} (h : ¬ bI b = 0) : b = true := by cases b <;> first | rfl | exact absurd rfl h
theorem bI_t1 {b : Bool} (h : bI b = nI 1) : b = true := by cases b <;> first | rfl | exact absurd h (by decide)
theorem bI_f1 {b : Bool} (h : ¬ bI b = nI 1) : b = false := by cases b <;> first | rfl | exact absurd rfl h
theorem bI_eq {b c : Bool} (h : bI b = bI c) : b = c := by cases b <;> cases c <;> first | rfl | exact absurd h (by decide)
theorem z_inc (k : Nat) : nI k + Int32.ofInt 1 = nI (k + 1) := nI_add k 1
theorem z_inc5 (k : Nat) : nI k + Int32.ofInt 5 = nI (k + 5) := nI_add k 5
theorem z_dec (k : Nat) : nI k + Int32.ofInt (-1) = nI k - 1 := (Int32.sub_eq_add_neg (nI k) 1).symm
theorem zn_eq_t {a b : Nat} (ha : a < 2 ^ 31) (hb : b < 2 ^ 31) (h : nI a = nI b) : a = b := (nI_eq ha hb).mp h
theorem zn_eq_f {a b : Nat} (_ : a < 2 ^ 31) (_ : b < 2 ^ 31) (h : ¬ nI a = nI b) : ¬ (a = b) := fun e => h (e ▸ rfl)
theorem zn_ne_t {a b : Nat} (ha : a < 2 ^ 31) (hb : b < 2 ^ 31) (h : nI a = nI b) : a = b := (nI_eq ha hb).mp h
theorem zn_ne_f {a b : Nat} (_ : a < 2 ^ 31) (_ : b < 2 ^ 31) (h : ¬ nI a = nI b) : ¬ (a = b) := fun e => h (e ▸ rfl)
theorem zn_lt_t {a b : Nat} (ha : a < 2 ^ 31) (hb : b < 2 ^ 31) (h : nI a < nI b) : a < b := (nI_ltI ha hb).mp h
theorem zn_lt_f {a b : Nat} (ha : a < 2 ^ 31) (hb : b < 2 ^ 31) (h : ¬ nI a < nI b) : ¬ (a < b) := fun e => h ((nI_ltI ha hb).mpr e)
theorem zn_gt_t {a b : Nat} (ha : a < 2 ^ 31) (hb : b < 2 ^ 31) (h : nI b < nI a) : b < a := (nI_ltI hb ha).mp h
theorem zn_gt_f {a b : Nat} (ha : a < 2 ^ 31) (hb : b < 2 ^ 31) (h : ¬ nI b < nI a) : ¬ (b < a) := fun e => h ((nI_ltI hb ha).mpr e)
theorem zn_ge_t {a b : Nat} (ha : a < 2 ^ 31) (hb : b < 2 ^ 31) (h : nI b ≤ nI a) : b ≤ a := (nI_leI hb ha).mp h
theorem zn_ge_f {a b : Nat} (ha : a < 2 ^ 31) (hb : b < 2 ^ 31) (h : ¬ nI b ≤ nI a) : ¬ (b ≤ a) := fun e => h ((nI_leI hb ha).mpr e)
theorem zn_le_t {a b : Nat} (ha : a < 2 ^ 31) (hb : b < 2 ^ 31) (h : nI a ≤ nI b) : a ≤ b := (nI_leI ha hb).mp h
theorem zn_le_f {a b : Nat} (ha : a < 2 ^ 31) (hb : b < 2 ^ 31) (h : ¬ nI a ≤ nI b) : ¬ (a ≤ b) := fun e => h ((nI_leI ha hb).mpr e)
section ZD
variable {p : Program} {l : Launch} {e : Env} {R : Room} {s : State} {m : MethodId} {args : Array Value} {below : List Frame} {meth : Method} {c : Code} {H H0 : Heap} {locs : List Loc} {cells slots : Nat} {Q : State → Prop} {D : va_G} {ws : va_W} {A : Nat → Prop} {tys : List (ClassId × FieldType)}
variable {cc : ByteArray} {pc n k : Nat} {ls : Array Slot} {rest : List Value} {a : Nat} {cA : ClassId} {f g : Nat → Int32} {v x : Int32}
theorem z_recell {q0 : Nat} (hP : va_P D vwCl (ws.set q0 (a, .inl (cA, n, .inl f))) H) (hq : q0 < ws.length) (h : ∀ j, j < n → f j = g j) : va_P D vwCl (ws.set q0 (a, .inl (cA, n, .inl g))) H := by
  intro k q hk
  by_cases e : k = q0
  · subst e
    rw [List.getElem?_set_self hq] at hk
    cases hk
    have h1 := hP k (a, .inl (cA, n, .inl f)) (List.getElem?_set_self hq)
    show H[a]? = some (vp_cell cA (n, .inl g))
    rw [← z_cell h]
    exact h1
  · rw [List.getElem?_set_ne (Ne.symm e)] at hk
    exact hP k q (by rw [List.getElem?_set_ne (Ne.symm e)]; exact hk)
theorem z_iald (hexec : p.tables.exec = Jvm.exec) (hb : c.code = cc) (hK : va_K D vwCl tys s) (hP : va_P D vwCl ws H) (q0 t0 : Nat) (ha : ws[q0]? = some (a, .inl (cA, n, .inl f))) (ht : tys[t0]? = some (cA, .int)) (hk : k < n) (hn : n < 2 ^ 31) (hv : f k = v) (hdg : decode cc pc = .ok (.iaload, 1))
    (kk : W p l e R s m args below meth c H locs cells slots Q (F0 m (pc + 1) ls (.int v :: rest))) : W p l e R s m args below meth c H locs cells slots Q (F0 m pc ls (.int (nI k) :: .ref a :: rest)) :=
  va_iald hexec hb hK hP q0 t0 ha ht (vp_in_nI hk hn) hdg (by rw [nI_clamp (by omega), hv]; exact kk)
theorem z_zald (hexec : p.tables.exec = Jvm.exec) (hb : c.code = cc) (hK : va_K D vwCl tys s) (hP : va_P D vwCl ws H) (q0 t0 : Nat) (ha : ws[q0]? = some (a, .inl (cA, n, .inl f))) (ht : tys[t0]? = some (cA, .boolean)) (hk : k < n) (hn : n < 2 ^ 31) (hv : f k = v) (hdg : decode cc pc = .ok (.baload, 1))
    (kk : W p l e R s m args below meth c H locs cells slots Q (F0 m (pc + 1) ls (.int v :: rest))) : W p l e R s m args below meth c H locs cells slots Q (F0 m pc ls (.int (nI k) :: .ref a :: rest)) :=
  va_zald hexec hb hK hP q0 t0 ha ht (vp_in_nI hk hn) hdg (by rw [nI_clamp (by omega), hv]; exact kk)
theorem z_iast (hexec : p.tables.exec = Jvm.exec) (hb : c.code = cc) (hK : va_K D vwCl tys s) (hP : va_P D vwCl ws H) (hD : va_D A ws) (hS : va_S A H0 H locs) (q0 t0 : Nat) (ha : ws[q0]? = some (a, .inl (cA, n, .inl f))) (ht : tys[t0]? = some (cA, .int)) (hk : k < n) (hn : n < 2 ^ 31) (hg : ∀ j, j < n → upd f k x j = g j) (hdg : decode cc pc = .ok (.iastore, 1))
    (kk : ∀ (H1 : Heap) (locs1 : List Loc), va_P D vwCl (ws.set q0 (a, .inl (cA, n, .inl g))) H1 → va_D A (ws.set q0 (a, .inl (cA, n, .inl g))) → va_S A H0 H1 locs1 → W p l e R s m args below meth c H1 locs1 cells slots Q (F0 m (pc + 1) ls rest)) : W p l e R s m args below meth c H locs cells slots Q (F0 m pc ls (.int x :: .int (nI k) :: .ref a :: rest)) :=
  va_iast hexec hb hK hP hD hS q0 t0 ha ht (vp_in_nI hk hn) hdg (fun H1 locs1 hP1 hD1 hS1 => by
    rw [nI_clamp (by omega)] at hP1
    exact kk H1 locs1 (z_recell hP1 (List.getElem?_eq_some_iff.mp ha).1 hg) (hD.set ha) hS1)
theorem z_narZ (h : x = 0 ∨ x = 1) : vp_nar .boolean x = x := by rcases h with rfl | rfl <;> first | rfl | decide
theorem z_zast (hexec : p.tables.exec = Jvm.exec) (hb : c.code = cc) (hK : va_K D vwCl tys s) (hP : va_P D vwCl ws H) (hD : va_D A ws) (hS : va_S A H0 H locs) (q0 t0 : Nat) (ha : ws[q0]? = some (a, .inl (cA, n, .inl f))) (ht : tys[t0]? = some (cA, .boolean)) (hk : k < n) (hn : n < 2 ^ 31) (h01 : x = 0 ∨ x = 1) (hg : ∀ j, j < n → upd f k x j = g j) (hdg : decode cc pc = .ok (.bastore, 1))
    (kk : ∀ (H1 : Heap) (locs1 : List Loc), va_P D vwCl (ws.set q0 (a, .inl (cA, n, .inl g))) H1 → va_D A (ws.set q0 (a, .inl (cA, n, .inl g))) → va_S A H0 H1 locs1 → W p l e R s m args below meth c H1 locs1 cells slots Q (F0 m (pc + 1) ls rest)) : W p l e R s m args below meth c H locs cells slots Q (F0 m pc ls (.int x :: .int (nI k) :: .ref a :: rest)) :=
  va_zast hexec hb hK hP hD hS q0 t0 ha ht (vp_in_nI hk hn) hdg (fun H1 locs1 hP1 hD1 hS1 => by
    rw [nI_clamp (by omega), z_narZ h01] at hP1
    exact kk H1 locs1 (z_recell hP1 (List.getElem?_eq_some_iff.mp ha).1 hg) (hD.set ha) hS1)
end ZD
theorem ziII_lt_t {x y : Int32} (h : x < y) : x.toInt < y.toInt := Int32.lt_iff_toInt_lt.mp h
theorem ziII_lt_f {x y : Int32} (h : ¬ x < y) : ¬ (x.toInt < y.toInt) := fun e => h (Int32.lt_iff_toInt_lt.mpr e)
theorem ziII_le_t {x y : Int32} (h : x ≤ y) : x.toInt ≤ y.toInt := Int32.le_iff_toInt_le.mp h
theorem ziII_le_f {x y : Int32} (h : ¬ x ≤ y) : ¬ (x.toInt ≤ y.toInt) := fun e => h (Int32.le_iff_toInt_le.mpr e)
theorem ziIN_lt_t {x : Int32} {b : Nat} (hb : b < 2 ^ 31) (h : x < nI b) : x.toInt < ((b : Nat) : Int) := by have := ziII_lt_t h; rwa [nI_toInt hb] at this
theorem ziIN_lt_f {x : Int32} {b : Nat} (hb : b < 2 ^ 31) (h : ¬ x < nI b) : ¬ (x.toInt < ((b : Nat) : Int)) := by have := ziII_lt_f h; rwa [nI_toInt hb] at this
theorem ziIN_le_t {x : Int32} {b : Nat} (hb : b < 2 ^ 31) (h : x ≤ nI b) : x.toInt ≤ ((b : Nat) : Int) := by have := ziII_le_t h; rwa [nI_toInt hb] at this
theorem ziIN_le_f {x : Int32} {b : Nat} (hb : b < 2 ^ 31) (h : ¬ x ≤ nI b) : ¬ (x.toInt ≤ ((b : Nat) : Int)) := by have := ziII_le_f h; rwa [nI_toInt hb] at this
theorem ziNI_lt_t {y : Int32} {a : Nat} (ha : a < 2 ^ 31) (h : nI a < y) : ((a : Nat) : Int) < y.toInt := by have := ziII_lt_t h; rwa [nI_toInt ha] at this
theorem ziNI_lt_f {y : Int32} {a : Nat} (ha : a < 2 ^ 31) (h : ¬ nI a < y) : ¬ (((a : Nat) : Int) < y.toInt) := by have := ziII_lt_f h; rwa [nI_toInt ha] at this
theorem ziNI_le_t {y : Int32} {a : Nat} (ha : a < 2 ^ 31) (h : nI a ≤ y) : ((a : Nat) : Int) ≤ y.toInt := by have := ziII_le_t h; rwa [nI_toInt ha] at this
theorem ziNI_le_f {y : Int32} {a : Nat} (ha : a < 2 ^ 31) (h : ¬ nI a ≤ y) : ¬ (((a : Nat) : Int) ≤ y.toInt) := by have := ziII_le_f h; rwa [nI_toInt ha] at this
/-- an int in a range -/
abbrev inN (n : Nat) (x : Int32) : Prop := 0 ≤ x.toInt ∧ x.toInt < (n : Int)
theorem inN_nI {n k : Nat} (hk : k < 2 ^ 31) : inN n (nI k) ↔ k < n := by unfold inN; rw [nI_toInt hk]; omega
theorem inN_ex {n : Nat} {x : Int32} (h : inN n x) : ∃ k, k < n ∧ x = nI k := by
  refine ⟨x.toInt.toNat, by unfold inN at h; omega, ?_⟩
  have h0 : 0 ≤ x.toInt := h.1
  have hx : x.toInt < 2147483648 := by have := Int32.toInt_lt x; omega
  apply Int32.toInt_inj.mp
  rw [nI_toInt (by omega)]
  omega
theorem inN_m1 {n : Nat} : ¬ inN n (-1) := by unfold inN; rw [show ((-1 : Int32).toInt) = -1 by decide]; omega
theorem bI_yes {P : Prop} [Decidable P] (h : P) : nI 1 = bI (decide P) := by rw [decide_eq_true h]; rfl
theorem bI_no {P : Prop} [Decidable P] (h : ¬ P) : nI 0 = bI (decide P) := by rw [decide_eq_false h]; rfl
theorem nI_m1 {k : Nat} (hk : k < 2 ^ 31) : ¬ nI k = -1 := fun h => by have := congrArg Int32.toInt h; rw [nI_toInt hk, show ((-1 : Int32).toInt) = -1 by decide] at this; omega
