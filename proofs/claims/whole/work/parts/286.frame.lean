/-! FRAMES: a contract over a part of the world, said of the whole; the law's calls -/
theorem z_swapP {D : va_G} {w1 w2 : va_W} {H : Heap} (h : va_P D vwCl (w1 ++ w2) H) : va_P D vwCl (w2 ++ w1) H := by
  refine va_P.app (fun k q hk => h (w1.length + k) q ?_) (fun k q hk => h k q ?_)
  · rw [List.getElem?_append_right (Nat.le_add_right _ _), Nat.add_sub_cancel_left]; exact hk
  · rw [List.getElem?_append_left (List.getElem?_eq_some_iff.mp hk).1]; exact hk
theorem z_swapD {A : Nat → Prop} {w1 w2 : va_W} (h : va_D A (w1 ++ w2)) : va_D A (w2 ++ w1) := by
  have a1 : ∀ (k : Nat) (q : Nat × va_E), w2[k]? = some q → (w1 ++ w2)[w1.length + k]? = some q := fun k q hk => by
    rw [List.getElem?_append_right (Nat.le_add_right _ _), Nat.add_sub_cancel_left]; exact hk
  have a2 : ∀ (k : Nat) (q : Nat × va_E), w1[k]? = some q → (w1 ++ w2)[k]? = some q := fun k q hk => by
    rw [List.getElem?_append_left (List.getElem?_eq_some_iff.mp hk).1]; exact hk
  refine va_D.app ⟨fun i j x y hx hy e => ?_, fun k q hk => h.2 _ q (a1 k q hk)⟩ ⟨fun i j x y hx hy e => h.1 i j x y (a2 i x hx) (a2 j y hy) e, fun k q hk => h.2 _ q (a2 k q hk)⟩ (fun i j x y hx hy e => ?_)
  · have := h.1 _ _ x y (a1 i x hx) (a1 j y hy) e; omega
  · have := h.1 _ _ x y (a1 i x hx) (a2 j y hy) e
    have := (List.getElem?_eq_some_iff.mp hy).1
    omega
theorem z_rgA {α : Type} (w v : List α) : (List.range' w.length v.length).map (fun i => (w ++ v)[i]?) = v.map some := by
  apply List.ext_getElem
  · simp
  · intro i h1 h2
    simp at h1 h2 ⊢
    simp [h1]
theorem z_rgB {α : Type} (w v : List α) : (List.range' 0 w.length).map (fun i => (w ++ v)[i]?) = w.map some := by
  apply List.ext_getElem
  · simp
  · intro i h1 h2
    simp at h1 h2 ⊢
    rw [List.getElem?_append_left h1]
    simp [h1]
theorem z_rgD (n k : Nat) : (va_nd (List.range' n k) && va_nd (List.range' 0 n) && (List.range' 0 n).all (fun i => decide (i ∉ List.range' n k))) = true := by
  rw [va_nd_of List.nodup_range', va_nd_of List.nodup_range']
  simp [List.mem_range']
  omega
section ZFR
variable {l : Launch} {D : va_G} {cy : zCy} {y : MethodName} {ws : List Cond} {rm : Room} {S : Type} {av : List Value} {w W0 wr : va_W}
theorem zW.frame {post : Int32 → S → Prop} {w' : S → va_W} (hM : zW S l y ws rm D cy w av post w') (isC isR : List Nat) (hC : isC.map (fun i => W0[i]?) = w.map some) (hR : isR.map (fun i => W0[i]?) = wr.map some) (hnd : (va_nd isC && va_nd isR && isR.all (fun i => decide (i ∉ isC))) = true) (had : ∀ u, (w' u).map Prod.fst = w.map Prod.fst) (w2 : S → va_W) (is : List Nat) (hw2 : ∀ u, is.filterMap (fun i => (wr ++ w' u)[i]?) = w2 u) : zW S l y ws rm D cy W0 av post w2 := by
  simp only [Bool.and_eq_true, List.all_eq_true, decide_eq_true_eq] at hnd
  intro p e h1 h2 h3 s m args below hf happ hPc hk
  obtain ⟨ha, hP, hK, hD⟩ := hPc
  have hDc := hD.sub isC hnd.1.1 hC
  have hPw : va_P D vwCl w s.heap := hP.sub isC (by have := congrArg (List.filterMap id) hC; simpa [List.filterMap_map, Function.comp_def] using this)
  have hle : ∀ q, zIn w q → zIn W0 q := zIn.le (A := zIn W0) ((zIn.D hD).sub isC hnd.1.1 hC)
  obtain ⟨n, o, a1, a2, a3, ⟨⟨⟨r, u, e1, e2, e3⟩, hF⟩, L, g1, g2⟩⟩ := hM p e h1 h2 h3 s m args below hf happ ⟨ha, hPw, hK, hDc⟩ trivial
  obtain ⟨hP1, -⟩ := z_frame hP hD isC isR hC hR hnd.1.1 hnd.1.2 hnd.2 hF.2 e3 (had u)
  exact ⟨n, o, a1, a2, a3, ⟨⟨⟨r, u, e1, e2, hP1.sub is (hw2 u)⟩, hF.1, fun q h4 h5 => hF.2 q h4 (fun z => h5 (hle q z))⟩, L, g1, fun q hq => hle _ (g2 q hq)⟩⟩
theorem zB.frame {post : Int32 → S → Prop} {w' : S → va_W} (hM : zB S l y ws rm D cy w av post w') (isC isR : List Nat) (hC : isC.map (fun i => W0[i]?) = w.map some) (hR : isR.map (fun i => W0[i]?) = wr.map some) (hnd : (va_nd isC && va_nd isR && isR.all (fun i => decide (i ∉ isC))) = true) (had : ∀ u, (w' u).map Prod.fst = w.map Prod.fst) (w2 : S → va_W) (is : List Nat) (hw2 : ∀ u, is.filterMap (fun i => (wr ++ w' u)[i]?) = w2 u) : zB S l y ws rm D cy W0 av post w2 := by
  simp only [Bool.and_eq_true, List.all_eq_true, decide_eq_true_eq] at hnd
  intro p e h1 h2 h3 s m args below hf happ hPc hk
  obtain ⟨ha, hP, hK, hD, hTs, hTh⟩ := hPc
  have hDc := hD.sub isC hnd.1.1 hC
  have hPw : va_P D vwCl w s.heap := hP.sub isC (by have := congrArg (List.filterMap id) hC; simpa [List.filterMap_map, Function.comp_def] using this)
  have hle : ∀ q, zIn w q → zIn W0 q := zIn.le (A := zIn W0) ((zIn.D hD).sub isC hnd.1.1 hC)
  obtain ⟨n, o, a1, a2, a3, ⟨⟨⟨r, u, e1, e2, e3⟩, hF⟩, L, g1, g2⟩⟩ := hM p e h1 h2 h3 s m args below hf happ ⟨ha, hPw, hK, hDc, hTs, hTh.narrow hle⟩ trivial
  obtain ⟨hP1, -⟩ := z_frame hP hD isC isR hC hR hnd.1.1 hnd.1.2 hnd.2 hF.2 e3 (had u)
  exact ⟨n, o, a1, a2, a3, ⟨⟨⟨r, u, e1, e2, hP1.sub is (hw2 u)⟩, hF.1, fun q h4 h5 => hF.2 q h4 (fun z => h5 (hle q z))⟩, L, g1, fun q hq => hle _ (g2 q hq)⟩⟩
end ZFR
section ZLAW
variable {p : Program} {l : Launch} {e : Env} {R : Room} {s : State} {m : MethodId} {args : Array Value} {below : List Frame} {meth : Method} {c : Code} {H H0 : Heap} {locs : List Loc} {cells slots : Nat} {Q : State → Prop} {D : va_G} {cy : zCy} {w wr W0 : va_W} {A0 : Nat → Prop}
variable {cc bytes : ByteArray} {pc nL maxL index n : Nat} {ls : Array Slot} {rest As st0 : List Value} {y : MethodName} {ret : Option FieldType} {hh : List (Nat × Nat × Nat × Nat)} {ws Ts : List Cond} {rm : Room} {own C : String} {S' : Type}
/-- a wrapper called that comes back: the class's part first, then the rest -/
theorem z_lawW {post : Int32 → S' → Prop} {w' : S' → va_W} (S : CallFix p m c cc nL s args Ts own) (hK : zK D cy s) (hP : va_P D vwCl (wr ++ w) H) (hD : va_D A0 (wr ++ w)) (hS : va_S A0 s.heap H locs) (hM : zW S' l y ws rm D cy w As post w') (cw : vx_CSW R s args own index y bytes maxL ret hh ws rm 0 0 n) (had : ∀ u, (w' u).map Prod.fst = w.map Prod.fst)
    (hn : As.length = n) (hsize : ls.size = nL) (hst : st0 = As.reverse ++ rest) (hroom : Nat.ble (rest.map fun v => v.category).sum 8 = true) (hdg : decode cc pc = .ok (.invokestatic index, 3)) (hf : cells ≤ R.cells ∧ slots ≤ R.slots)
    (kk : ∀ (r : Int32) (u : S') (H1 : Heap) (locs1 : List Loc), post r u → va_P D vwCl (wr ++ w' u) H1 → va_D A0 (wr ++ w' u) → va_S A0 s.heap H1 locs1 → W p l e R s m args below meth c H1 locs1 cells slots Q (F0 m (pc + 3) ls (.int r :: rest))) : W p l e R s m args below meth c H locs cells slots Q (F0 m pc ls st0) := by
  have hnd := z_rgD wr.length w.length
  simp only [Bool.and_eq_true, List.all_eq_true, decide_eq_true_eq] at hnd
  have hC := z_rgA wr w
  have hR := z_rgB wr w
  have hDc := hD.sub _ hnd.1.1 hC
  have hPc : va_P D vwCl w H := hP.sub _ (by have := congrArg (List.filterMap id) hC; simpa [List.filterMap_map, Function.comp_def] using this)
  refine va_calli (vx_runSW (As := As) (rest := rest) S hM cw ⟨zW.blind, fun U hU hW => ⟨rfl, by rw [hU]; exact hPc, hK.warm hW, hDc.weaken (fun _ _ _ _ => trivial)⟩⟩ rfl hn hsize hst (lv_room (Nat.le_of_ble_eq_true hroom)) hdg hf) hS (fun q _ h => zIn.le hDc q h) (fun q h => zIn.le hDc q h) (fun r1 u t H1 locs1 ht hvm hw hB hz hk hS1 => ?_)
  rw [ht] at hB
  obtain ⟨hP1, hD1⟩ := z_frame hP hD _ _ hC hR hnd.1.1 hnd.1.2 hnd.2 hk hB (had u)
  exact kk r1 u H1 locs1 hw hP1 hD1 hS1
/-- a wrapper called that catches -/
theorem z_lawB {post : Int32 → S' → Prop} {w' : S' → va_W} (S : CallFix p m c cc nL s args Ts own) (hK : zK D cy s) (hP : va_P D vwCl (wr ++ w) H) (hD : va_D A0 (wr ++ w)) (hS : va_S A0 s.heap H locs) (hTs : zTs s) (hTh : zTh A0 s s.heap) (hM : zB S' l y ws rm D cy w As post w') (cw : vx_CSW R s args own index y bytes maxL ret hh ws rm 1 6 n) (had : ∀ u, (w' u).map Prod.fst = w.map Prod.fst)
    (hn : As.length = n) (hsize : ls.size = nL) (hst : st0 = As.reverse ++ rest) (hroom : Nat.ble (rest.map fun v => v.category).sum 8 = true) (hdg : decode cc pc = .ok (.invokestatic index, 3)) (hf : cells + 1 ≤ R.cells ∧ slots + 6 ≤ R.slots)
    (kk : ∀ (r : Int32) (u : S') (H1 : Heap) (locs1 : List Loc), post r u → va_P D vwCl (wr ++ w' u) H1 → va_D A0 (wr ++ w' u) → va_S A0 s.heap H1 locs1 → W p l e R s m args below meth c H1 locs1 (cells + 1) (slots + 6) Q (F0 m (pc + 3) ls (.int r :: rest))) : W p l e R s m args below meth c H locs cells slots Q (F0 m pc ls st0) := by
  have hnd := z_rgD wr.length w.length
  simp only [Bool.and_eq_true, List.all_eq_true, decide_eq_true_eq] at hnd
  have hC := z_rgA wr w
  have hR := z_rgB wr w
  have hDc := hD.sub _ hnd.1.1 hC
  have hle : ∀ q, zIn w q → A0 q := zIn.le hDc
  have hPc : va_P D vwCl w H := hP.sub _ (by have := congrArg (List.filterMap id) hC; simpa [List.filterMap_map, Function.comp_def] using this)
  refine va_calli (vx_runSW (As := As) (rest := rest) S hM cw ⟨zX.blind, fun U hU hW => ⟨rfl, by rw [hU]; exact hPc, hK.warm hW, hDc.weaken (fun _ _ _ _ => trivial), hTs.warm hW, by rw [hU]; exact ((hTh.kept hS.2.1).moved hW.alike).narrow hle⟩⟩ rfl hn hsize hst (lv_room (Nat.le_of_ble_eq_true hroom)) hdg hf) hS (fun q _ h => hle q h) (fun q h => hle q h) (fun r1 u t H1 locs1 ht hvm hw hB hz hk hS1 => ?_)
  rw [ht] at hB
  obtain ⟨hP1, hD1⟩ := z_frame hP hD _ _ hC hR hnd.1.1 hnd.1.2 hnd.2 hk hB (had u)
  exact kk r1 u H1 locs1 hw hP1 hD1 hS1
/-- the law's script -/
theorem z_sld {bs L k : Nat} {xs : Nat → Int32} (hx : p.tables.exec = Jvm.exec) (hb : c.code = cc) (hX : va_X bs L xs s s.heap) (hbl : bs < s.heap.size) (hbA : ¬ A0 bs) (hS : va_S A0 s.heap H locs) (hk : k < L) (hL : L ≤ 2560) (hdg : decode cc pc = .ok (.iaload, 1))
    (kk : W p l e R s m args below meth c H locs cells slots Q (F0 m (pc + 1) ls (.int (xs k) :: rest))) : W p l e R s m args below meth c H locs cells slots Q (F0 m pc ls (.int (nI k) :: .ref bs :: rest)) :=
  va_sld hx hb hX hbl hbA hS (vp_in_nI hk (by omega)) hdg (by rw [nI_clamp (by omega)]; exact kk)
theorem z_lcmp0 {x : Int64} (hx : p.tables.exec = Jvm.exec) (hb : c.code = cc) (hdg : decode cc pc = .ok (.lcmp, 1))
    (kk : W p l e R s m args below meth c H locs cells slots Q (F0 m (pc + 1) ls (.int 0 :: rest))) : W p l e R s m args below meth c H locs cells slots Q (F0 m pc ls (.long x :: .long x :: rest)) := by
  intro T hT X
  obtain ⟨t, a, b⟩ := kk T hT X
  refine ⟨t, ?_, b⟩
  jvm_step X.here [X.here.top, hx, hb, hdg]
  have e : (if x > x then (1 : Int32) else if x == x then 0 else -1) = 0 := by
    rw [if_neg (by simp), if_pos (by simp)]
  first | exact a | (simp only [e] at *; exact a) | (rw [e]; exact a)
/-- the out cell read -/
theorem z_lald {out : Nat} {ov : Int64} {q0 : Nat} (hx : p.tables.exec = Jvm.exec) (hb : c.code = cc) (hK : zK D cy s) (hP : va_P D vwCl W0 H) (he : W0[q0]? = some (out, .inl (cy.2.2, 1, .inr (.inl (fun _ => ov))))) (hdg : decode cc pc = .ok (.laload, 1))
    (kk : W p l e R s m args below meth c H locs cells slots Q (F0 m (pc + 1) ls (.long ov :: rest))) : W p l e R s m args below meth c H locs cells slots Q (F0 m pc ls (.int (nI 0) :: .ref out :: rest)) :=
  va_lald hx hb hK.1 hP q0 2 he rfl (vp_in_nI (by decide) (by decide)) hdg kk
end ZLAW
