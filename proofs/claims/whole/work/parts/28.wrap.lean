/-! THE LAW'S WRAPPERS: generic in what the called method is proved as -/
theorem z_rgC {α : Type} (x : α) (w : List α) : (List.range' 1 w.length).map (fun i => (x :: w)[i]?) = w.map some := by
  apply List.ext_getElem
  · simp
  · intro i h1 h2
    simp at h1 h2 ⊢
    rw [Nat.add_comm 1 i, List.getElem?_cons_succ]
    simp [h1]
theorem va_nd_of : ∀ {l : List Nat}, l.Nodup → va_nd l = true
  | [], _ => rfl
  | a :: l, h => by
    simp only [va_nd, Bool.and_eq_true, decide_eq_true_eq]
    exact ⟨(List.nodup_cons.mp h).1, va_nd_of (List.nodup_cons.mp h).2⟩
theorem z_rgN (n : Nat) : (va_nd (List.range' 1 n) && va_nd [0] && ([0] : List Nat).all (fun i => decide (i ∉ List.range' 1 n))) = true := by
  rw [va_nd_of List.nodup_range']
  simp [va_nd, List.mem_range']
  intro x _
  omega
theorem z_cellL {cA : ClassId} {n : Nat} {f g : Nat → Int64} (h : ∀ j, j < n → f j = g j) : vp_cell cA (n, .inr (.inl f)) = vp_cell cA (n, .inr (.inl g)) := by
  have e : (fun j : Fin n => Value.long (f j.val)) = (fun j : Fin n => Value.long (g j.val)) := funext fun j => by rw [h j.val j.isLt]
  exact congrArg (fun F => ({ cls := cA, slots := Array.ofFn (n := n) F, vm := .none } : Cell)) e
theorem z_recellL {D : va_G} {a : Nat} {cA : ClassId} {n : Nat} {f g : Nat → Int64} {w : va_W} {H : Heap} (hP : va_P D vwCl ((a, .inl (cA, n, .inr (.inl f))) :: w) H) (h : ∀ j, j < n → f j = g j) : va_P D vwCl ((a, .inl (cA, n, .inr (.inl g))) :: w) H := by
  intro k q hk
  cases k with
  | zero =>
    cases hk
    show H[a]? = some (vp_cell cA (n, .inr (.inl g)))
    rw [← z_cellL h]
    exact hP 0 _ rfl
  | succ k => exact hP (k + 1) q hk
section ZL
variable {p : Program} {l : Launch} {e : Env} {R : Room} {s : State} {m : MethodId} {args : Array Value} {below : List Frame} {meth : Method} {c : Code} {H H0 : Heap} {locs : List Loc} {cells slots : Nat} {Q : State → Prop} {D : va_G} {cy : zCy} {w : va_W} {A0 : Nat → Prop} {S : Type}
variable {cc : ByteArray} {pc : Nat} {ls : Array Slot} {rest : List Value}
theorem z_iretB {post : Int32 → S → Prop} {w' : S → va_W} {v : Int32} (u : S) (hx : p.tables.exec = Jvm.exec) (hb : c.code = cc) (hr : meth.sig.returnType = some .int) (hlocks : meth.locks = false) (hS : va_S (zIn w) s.heap H locs) (hd : decode cc pc = .ok (.ireturn, 1)) (hP : va_P D vwCl (w' u) H) (hp : post v u) :
    W p l e R s m args below meth c H locs 1 6 (zBQ S D below args s w post w') (F0 m pc ls [.int v]) :=
  W.iret hx hb hr (fun t ht _ => ⟨⟨v, u, rfl, hp, by show va_P D vwCl (w' u) t.heap; rw [ht]; exact hP⟩, hS.F ht⟩) hS.2.2 hd hlocks
/-- the out cell written -/
theorem z_last {out : Nat} {ov x : Int64} (hx : p.tables.exec = Jvm.exec) (hb : c.code = cc) (hK : zK D cy s) (hP : va_P D vwCl ((out, .inl (cy.2.2, 1, .inr (.inl (fun _ => ov)))) :: w) H) (hD : va_D A0 ((out, .inl (cy.2.2, 1, .inr (.inl (fun _ => ov)))) :: w)) (hS : va_S A0 H0 H locs) (hdg : decode cc pc = .ok (.lastore, 1))
    (kk : ∀ (H1 : Heap) (locs1 : List Loc), va_P D vwCl ((out, .inl (cy.2.2, 1, .inr (.inl (fun _ => x)))) :: w) H1 → va_S A0 H0 H1 locs1 → W p l e R s m args below meth c H1 locs1 cells slots Q (F0 m (pc + 1) ls rest)) : W p l e R s m args below meth c H locs cells slots Q (F0 m pc ls (.long x :: .int (nI 0) :: .ref out :: rest)) :=
  va_last hx hb hK.1 hP hD hS 0 2 rfl rfl (vp_in_nI (by decide) (by decide)) hdg (fun H1 locs1 hP1 _ hS1 => kk H1 locs1 (z_recellL hP1 (fun j hj => by
    have : j = 0 := by omega
    subst this
    rw [nI_clamp (by decide)]
    unfold vp_updL
    simp)) hS1)
end ZL
abbrev rmL_addField : Room := { frames := 8, cells := 1, slots := 6, locals := 133 }
abbrev rmL_addField_k : Room := { frames := 8, cells := 0, slots := 0, locals := 133 }
theorem k_yX4_addField : yX4_addField.cls = RX4 ∧ yX4_addField.cls ≠ "java/lang/invoke/MethodHandle" ∧ yX4_addField.cls ≠ "java/lang/invoke/VarHandle" ∧ (parseMethodDescriptor yX4_addField.desc).map (fun d => d.parameters.length) = some 3 := by decide +kernel
set_option maxHeartbeats 4000000 in
set_option maxRecDepth 100000 in
theorem c_L_addField_ok {l : Launch} {D : va_G} {cy : zCy} {S : Type} {o out : Nat} {ov : Int64} {fs : List Value} {wr1 : va_W} {x0 x1 x2 : Int32} {post : Int32 → S → Prop} {w1 : S → va_W} (hM : zW S l yX4_addField wsX4_addField rmX4_addField D cy ((o, .inr (4, fs)) :: wr1) [.ref o, .int x0, .int x1, .int x2] post w1) (had : ∀ u, (w1 u).map Prod.fst = ((o, .inr (4, fs)) :: wr1).map Prod.fst) :
    zW (Int32 × S) l yL_addField wsL_addField rmL_addField_k D cy ((out, .inl (cy.2.2, 1, .inr (.inl (fun _ => ov)))) :: ((o, .inr (4, fs)) :: wr1)) [.ref o, .int x0, .int x1, .int x2, .ref out] (fun r u => r = nI 0 ∧ post u.1 u.2) (fun u => (out, .inl (cy.2.2, 1, .inr (.inl (fun _ => u.1.toInt64)))) :: w1 u.2) := by
  refine zW.ofH (cc := cL_addField) (maxL := 6) (ret := (some .int)) (hh := [(0, 12, 15, 13), (0, 12, 19, 15)]) (by decide) rfl rfl ?_
  intro p e s m below meth c ls C hP hK hD hl
  obtain ⟨hx, hb, hr, hml, hts, hown, hlocks⟩ := C
  have hS : va_S (zIn ((out, .inl (cy.2.2, 1, .inr (.inl (fun _ => ov)))) :: ((o, .inr (4, fs)) :: wr1))) s.heap s.heap [] := va_S.rf
  have hl : lv_has ls 6 [(0, .ref o), (1, .int x0), (2, .int x1), (3, .int x2), (4, .ref out)] := hl
  refine lv_aload hx hb dL_addField_0 (lv_at hl 4 rfl) ?_
  refine lv_iconst (v := nI 0) hx hb dL_addField_2 (by decide) ?_
  refine lv_aload_n hx hb dL_addField_3 rfl (lv_at hl 0 rfl) ?_
  refine lv_iload_n hx hb dL_addField_4 rfl (lv_at hl 1 rfl) ?_
  refine lv_iload_n hx hb dL_addField_5 rfl (lv_at hl 2 rfl) ?_
  refine lv_iload_n hx hb dL_addField_6 rfl (lv_at hl 3 rfl) ?_
  refine z_callVW (b := o) (As := [.int x0, .int x1, .int x2]) (rest := [.int (nI 0), .ref out]) [(out, .inl (cy.2.2, 1, .inr (.inl (fun _ => ov))))] ⟨hx, hb, hml, hown, hts⟩ hK hP hD hS hM (cwV 3 hts gL_addField_X4_addField rfl rfl rfl k_yX4_addField ⟨Nat.le_of_ble_eq_true rfl, Nat.le_of_ble_eq_true rfl⟩) (List.range' 1 (wr1.length + 1)) [0] (z_rgC _ _) rfl (z_rgN _) had 1 4 rfl rfl rfl rfl hl.1 rfl rfl dL_addField_7 ⟨Nat.le_of_ble_eq_true rfl, Nat.le_of_ble_eq_true rfl⟩ (fun rr uu H locs hp hP hD hS => ?_)
  refine lv_i2l (v := rr.toInt64) hx hb dL_addField_10 rfl ?_
  refine z_last (w := w1 uu) hx hb hK hP hD hS dL_addField_11 (fun H locs hP hS => ?_)
  refine lv_goto (tgt := 23) hx hb dL_addField_12 (by decide) ?_
  refine lv_iconst (v := nI 0) hx hb dL_addField_23 (by decide) ?_
  exact z_iretW (rr, uu) hx hb hr hlocks hS dL_addField_24 hP ⟨rfl, hp⟩
set_option maxRecDepth 20000 in
theorem lk504_wsL_addField : Cond.classLink RL 13 "java/lang/IllegalArgumentException" ∈ wsL_addField := by decide +kernel
set_option maxHeartbeats 4000000 in
set_option maxRecDepth 100000 in
theorem c_L_addField_bad1 {l : Launch} {D : va_G} {cy : zCy} {S : Type} {o out : Nat} {ov : Int64} {fs : List Value} {wr1 : va_W} {x0 x1 x2 : Int32} {post : S → Prop} {w1 : S → va_W} (hM : zX S l yX4_addField wsX4_addField rmX4_addField_t D cy ((o, .inr (4, fs)) :: wr1) [.ref o, .int x0, .int x1, .int x2] zIAE post w1) (had : ∀ u, (w1 u).map Prod.fst = ((o, .inr (4, fs)) :: wr1).map Prod.fst) :
    zB S l yL_addField wsL_addField rmL_addField D cy ((out, .inl (cy.2.2, 1, .inr (.inl (fun _ => ov)))) :: ((o, .inr (4, fs)) :: wr1)) [.ref o, .int x0, .int x1, .int x2, .ref out] (fun r u => r = nI 1 ∧ post u) (fun u => (out, .inl (cy.2.2, 1, .inr (.inl (fun _ => ov)))) :: w1 u) := by
  refine zB.ofH (cc := cL_addField) (maxL := 6) (ret := (some .int)) (hh := [(0, 12, 15, 13), (0, 12, 19, 15)]) (by decide) rfl rfl ?_
  intro p e s m below meth c ls C htab hP hK hD hTs hTh hl
  obtain ⟨hx, hb, hr, hml, hts, hown, hlocks⟩ := C
  have hS : va_S (zIn ((out, .inl (cy.2.2, 1, .inr (.inl (fun _ => ov)))) :: ((o, .inr (4, fs)) :: wr1))) s.heap s.heap [] := va_S.rf
  have hl : lv_has ls 6 [(0, .ref o), (1, .int x0), (2, .int x1), (3, .int x2), (4, .ref out)] := hl
  refine lv_aload hx hb dL_addField_0 (lv_at hl 4 rfl) ?_
  refine lv_iconst (v := nI 0) hx hb dL_addField_2 (by decide) ?_
  refine lv_aload_n hx hb dL_addField_3 rfl (lv_at hl 0 rfl) ?_
  refine lv_iload_n hx hb dL_addField_4 rfl (lv_at hl 1 rfl) ?_
  refine lv_iload_n hx hb dL_addField_5 rfl (lv_at hl 2 rfl) ?_
  refine lv_iload_n hx hb dL_addField_6 rfl (lv_at hl 3 rfl) ?_
  refine z_catch (b := o) (As := [.int x0, .int x1, .int x2]) (rest := [.int (nI 0), .ref out]) [(out, .inl (cy.2.2, 1, .inr (.inl (fun _ => ov))))] ⟨hx, hb, hml, hown, hts⟩ hK hP hD hS hTs hTh hM (cwV 3 hts gL_addField_X4_addField rfl rfl rfl k_yX4_addField ⟨Nat.le_of_ble_eq_true rfl, Nat.le_of_ble_eq_true rfl⟩) (List.range' 1 (wr1.length + 1)) [0] (z_rgC _ _) rfl (z_rgN _) had 1 4 rfl rfl rfl rfl hl.1 rfl rfl dL_addField_7 ⟨Nat.le_of_ble_eq_true rfl, Nat.le_of_ble_eq_true rfl⟩ htab [] ⟨0, 12, 15, 13⟩ [⟨0, 12, 19, 15⟩] rfl (fun z hz => absurd hz List.not_mem_nil) (by decide) (by decide) lk504_wsL_addField (by decide) (fun q9 uu H locs hp hP hD hS => ?_)
  refine lv_astore (lv' := [(5, .ref q9), (0, .ref o), (1, .int x0), (2, .int x1), (3, .int x2), (4, .ref out)]) hx hb dL_addField_15 hl (by decide) rfl (fun ls hl => ?_)
  refine lv_iconst (v := nI 1) hx hb dL_addField_17 (by decide) ?_
  exact z_iretB uu hx hb hr hlocks hS dL_addField_18 hP ⟨rfl, hp⟩
set_option maxRecDepth 20000 in
theorem lk505_wsL_addField : Cond.classLink RL 15 "java/lang/IllegalStateException" ∈ wsL_addField := by decide +kernel
set_option maxHeartbeats 4000000 in
set_option maxRecDepth 100000 in
theorem c_L_addField_bad2 {l : Launch} {D : va_G} {cy : zCy} {S : Type} {o out : Nat} {ov : Int64} {fs : List Value} {wr1 : va_W} {x0 x1 x2 : Int32} {post : S → Prop} {w1 : S → va_W} (hM : zX S l yX4_addField wsX4_addField rmX4_addField_t D cy ((o, .inr (4, fs)) :: wr1) [.ref o, .int x0, .int x1, .int x2] zISE post w1) (had : ∀ u, (w1 u).map Prod.fst = ((o, .inr (4, fs)) :: wr1).map Prod.fst) :
    zB S l yL_addField wsL_addField rmL_addField D cy ((out, .inl (cy.2.2, 1, .inr (.inl (fun _ => ov)))) :: ((o, .inr (4, fs)) :: wr1)) [.ref o, .int x0, .int x1, .int x2, .ref out] (fun r u => r = nI 2 ∧ post u) (fun u => (out, .inl (cy.2.2, 1, .inr (.inl (fun _ => ov)))) :: w1 u) := by
  refine zB.ofH (cc := cL_addField) (maxL := 6) (ret := (some .int)) (hh := [(0, 12, 15, 13), (0, 12, 19, 15)]) (by decide) rfl rfl ?_
  intro p e s m below meth c ls C htab hP hK hD hTs hTh hl
  obtain ⟨hx, hb, hr, hml, hts, hown, hlocks⟩ := C
  have hS : va_S (zIn ((out, .inl (cy.2.2, 1, .inr (.inl (fun _ => ov)))) :: ((o, .inr (4, fs)) :: wr1))) s.heap s.heap [] := va_S.rf
  have hl : lv_has ls 6 [(0, .ref o), (1, .int x0), (2, .int x1), (3, .int x2), (4, .ref out)] := hl
  refine lv_aload hx hb dL_addField_0 (lv_at hl 4 rfl) ?_
  refine lv_iconst (v := nI 0) hx hb dL_addField_2 (by decide) ?_
  refine lv_aload_n hx hb dL_addField_3 rfl (lv_at hl 0 rfl) ?_
  refine lv_iload_n hx hb dL_addField_4 rfl (lv_at hl 1 rfl) ?_
  refine lv_iload_n hx hb dL_addField_5 rfl (lv_at hl 2 rfl) ?_
  refine lv_iload_n hx hb dL_addField_6 rfl (lv_at hl 3 rfl) ?_
  refine z_catch (b := o) (As := [.int x0, .int x1, .int x2]) (rest := [.int (nI 0), .ref out]) [(out, .inl (cy.2.2, 1, .inr (.inl (fun _ => ov))))] ⟨hx, hb, hml, hown, hts⟩ hK hP hD hS hTs hTh hM (cwV 3 hts gL_addField_X4_addField rfl rfl rfl k_yX4_addField ⟨Nat.le_of_ble_eq_true rfl, Nat.le_of_ble_eq_true rfl⟩) (List.range' 1 (wr1.length + 1)) [0] (z_rgC _ _) rfl (z_rgN _) had 1 4 rfl rfl rfl rfl hl.1 rfl rfl dL_addField_7 ⟨Nat.le_of_ble_eq_true rfl, Nat.le_of_ble_eq_true rfl⟩ htab [⟨0, 12, 15, 13⟩] ⟨0, 12, 19, 15⟩ [] rfl (fun z hz => by rcases List.mem_singleton.mp hz with rfl; exact ⟨by decide, _, lk504_wsL_addField, by decide⟩) (by decide) (by decide) lk505_wsL_addField (by decide) (fun q9 uu H locs hp hP hD hS => ?_)
  refine lv_astore (lv' := [(5, .ref q9), (0, .ref o), (1, .int x0), (2, .int x1), (3, .int x2), (4, .ref out)]) hx hb dL_addField_19 hl (by decide) rfl (fun ls hl => ?_)
  refine lv_iconst (v := nI 2) hx hb dL_addField_21 (by decide) ?_
  exact z_iretB uu hx hb hr hlocks hS dL_addField_22 hP ⟨rfl, hp⟩
abbrev rmL_own : Room := { frames := 8, cells := 1, slots := 6, locals := 144 }
abbrev rmL_own_k : Room := { frames := 8, cells := 0, slots := 0, locals := 144 }
theorem k_yX4_own : yX4_own.cls = RX4 ∧ yX4_own.cls ≠ "java/lang/invoke/MethodHandle" ∧ yX4_own.cls ≠ "java/lang/invoke/VarHandle" ∧ (parseMethodDescriptor yX4_own.desc).map (fun d => d.parameters.length) = some 4 := by decide +kernel
set_option maxHeartbeats 4000000 in
set_option maxRecDepth 100000 in
theorem c_L_own_ok {l : Launch} {D : va_G} {cy : zCy} {S : Type} {o out : Nat} {ov : Int64} {fs : List Value} {wr1 : va_W} {x0 x1 x2 x3 : Int32} {post : Int32 → S → Prop} {w1 : S → va_W} (hM : zW S l yX4_own wsX4_own rmX4_own D cy ((o, .inr (4, fs)) :: wr1) [.ref o, .int x0, .int x1, .int x2, .int x3] post w1) (had : ∀ u, (w1 u).map Prod.fst = ((o, .inr (4, fs)) :: wr1).map Prod.fst) :
    zW (Int32 × S) l yL_own wsL_own rmL_own_k D cy ((out, .inl (cy.2.2, 1, .inr (.inl (fun _ => ov)))) :: ((o, .inr (4, fs)) :: wr1)) [.ref o, .int x0, .int x1, .int x2, .int x3, .ref out] (fun r u => r = nI 0 ∧ post u.1 u.2) (fun u => (out, .inl (cy.2.2, 1, .inr (.inl (fun _ => (if u.1 = 0 then 0 else 1))))) :: w1 u.2) := by
  refine zW.ofH (cc := cL_own) (maxL := 7) (ret := (some .int)) (hh := [(0, 21, 24, 13), (0, 21, 28, 21)]) (by decide) rfl rfl ?_
  intro p e s m below meth c ls C hP hK hD hl
  obtain ⟨hx, hb, hr, hml, hts, hown, hlocks⟩ := C
  have hS : va_S (zIn ((out, .inl (cy.2.2, 1, .inr (.inl (fun _ => ov)))) :: ((o, .inr (4, fs)) :: wr1))) s.heap s.heap [] := va_S.rf
  have hl : lv_has ls 7 [(0, .ref o), (1, .int x0), (2, .int x1), (3, .int x2), (4, .int x3), (5, .ref out)] := hl
  refine lv_aload hx hb dL_own_0 (lv_at hl 5 rfl) ?_
  refine lv_iconst (v := nI 0) hx hb dL_own_2 (by decide) ?_
  refine lv_aload_n hx hb dL_own_3 rfl (lv_at hl 0 rfl) ?_
  refine lv_iload_n hx hb dL_own_4 rfl (lv_at hl 1 rfl) ?_
  refine lv_iload_n hx hb dL_own_5 rfl (lv_at hl 2 rfl) ?_
  refine lv_iload_n hx hb dL_own_6 rfl (lv_at hl 3 rfl) ?_
  refine lv_iload hx hb dL_own_7 (lv_at hl 4 rfl) ?_
  refine z_callVW (b := o) (As := [.int x0, .int x1, .int x2, .int x3]) (rest := [.int (nI 0), .ref out]) [(out, .inl (cy.2.2, 1, .inr (.inl (fun _ => ov))))] ⟨hx, hb, hml, hown, hts⟩ hK hP hD hS hM (cwV 4 hts gL_own_X4_own rfl rfl rfl k_yX4_own ⟨Nat.le_of_ble_eq_true rfl, Nat.le_of_ble_eq_true rfl⟩) (List.range' 1 (wr1.length + 1)) [0] (z_rgC _ _) rfl (z_rgN _) had 1 4 rfl rfl rfl rfl hl.1 rfl rfl dL_own_9 ⟨Nat.le_of_ble_eq_true rfl, Nat.le_of_ble_eq_true rfl⟩ (fun rr uu H locs hp hP hD hS => ?_)
  refine lv_if_eq (tgt := 19) hx hb dL_own_12 (by decide) (fun cb => ?_) (fun cb => ?_)
  · refine lv_lconst (v := 0) hx hb dL_own_19 rfl ?_
    refine z_last (w := w1 uu) hx hb hK hP hD hS dL_own_20 (fun H locs hP hS => ?_)
    refine lv_goto (tgt := 32) hx hb dL_own_21 (by decide) ?_
    refine lv_iconst (v := nI 0) hx hb dL_own_32 (by decide) ?_
    exact z_iretW (rr, uu) hx hb hr hlocks hS dL_own_33 (by show va_P D vwCl ((out, .inl (cy.2.2, 1, .inr (.inl (fun _ => if rr = 0 then 0 else 1)))) :: w1 uu) H; rw [if_pos cb]; exact hP) ⟨rfl, hp⟩
  · refine lv_lconst (v := 1) hx hb dL_own_15 rfl ?_
    refine lv_goto (tgt := 20) hx hb dL_own_16 (by decide) ?_
    refine z_last (w := w1 uu) hx hb hK hP hD hS dL_own_20 (fun H locs hP hS => ?_)
    refine lv_goto (tgt := 32) hx hb dL_own_21 (by decide) ?_
    refine lv_iconst (v := nI 0) hx hb dL_own_32 (by decide) ?_
    exact z_iretW (rr, uu) hx hb hr hlocks hS dL_own_33 (by show va_P D vwCl ((out, .inl (cy.2.2, 1, .inr (.inl (fun _ => if rr = 0 then 0 else 1)))) :: w1 uu) H; rw [if_neg cb]; exact hP) ⟨rfl, hp⟩
set_option maxRecDepth 20000 in
theorem lk507_wsL_own : Cond.classLink RL 13 "java/lang/IllegalArgumentException" ∈ wsL_own := by decide +kernel
set_option maxHeartbeats 4000000 in
set_option maxRecDepth 100000 in
theorem c_L_own_bad1 {l : Launch} {D : va_G} {cy : zCy} {S : Type} {o out : Nat} {ov : Int64} {fs : List Value} {wr1 : va_W} {x0 x1 x2 x3 : Int32} {post : S → Prop} {w1 : S → va_W} (hM : zX S l yX4_own wsX4_own rmX4_own_t D cy ((o, .inr (4, fs)) :: wr1) [.ref o, .int x0, .int x1, .int x2, .int x3] zIAE post w1) (had : ∀ u, (w1 u).map Prod.fst = ((o, .inr (4, fs)) :: wr1).map Prod.fst) :
    zB S l yL_own wsL_own rmL_own D cy ((out, .inl (cy.2.2, 1, .inr (.inl (fun _ => ov)))) :: ((o, .inr (4, fs)) :: wr1)) [.ref o, .int x0, .int x1, .int x2, .int x3, .ref out] (fun r u => r = nI 1 ∧ post u) (fun u => (out, .inl (cy.2.2, 1, .inr (.inl (fun _ => ov)))) :: w1 u) := by
  refine zB.ofH (cc := cL_own) (maxL := 7) (ret := (some .int)) (hh := [(0, 21, 24, 13), (0, 21, 28, 21)]) (by decide) rfl rfl ?_
  intro p e s m below meth c ls C htab hP hK hD hTs hTh hl
  obtain ⟨hx, hb, hr, hml, hts, hown, hlocks⟩ := C
  have hS : va_S (zIn ((out, .inl (cy.2.2, 1, .inr (.inl (fun _ => ov)))) :: ((o, .inr (4, fs)) :: wr1))) s.heap s.heap [] := va_S.rf
  have hl : lv_has ls 7 [(0, .ref o), (1, .int x0), (2, .int x1), (3, .int x2), (4, .int x3), (5, .ref out)] := hl
  refine lv_aload hx hb dL_own_0 (lv_at hl 5 rfl) ?_
  refine lv_iconst (v := nI 0) hx hb dL_own_2 (by decide) ?_
  refine lv_aload_n hx hb dL_own_3 rfl (lv_at hl 0 rfl) ?_
  refine lv_iload_n hx hb dL_own_4 rfl (lv_at hl 1 rfl) ?_
  refine lv_iload_n hx hb dL_own_5 rfl (lv_at hl 2 rfl) ?_
  refine lv_iload_n hx hb dL_own_6 rfl (lv_at hl 3 rfl) ?_
  refine lv_iload hx hb dL_own_7 (lv_at hl 4 rfl) ?_
  refine z_catch (b := o) (As := [.int x0, .int x1, .int x2, .int x3]) (rest := [.int (nI 0), .ref out]) [(out, .inl (cy.2.2, 1, .inr (.inl (fun _ => ov))))] ⟨hx, hb, hml, hown, hts⟩ hK hP hD hS hTs hTh hM (cwV 4 hts gL_own_X4_own rfl rfl rfl k_yX4_own ⟨Nat.le_of_ble_eq_true rfl, Nat.le_of_ble_eq_true rfl⟩) (List.range' 1 (wr1.length + 1)) [0] (z_rgC _ _) rfl (z_rgN _) had 1 4 rfl rfl rfl rfl hl.1 rfl rfl dL_own_9 ⟨Nat.le_of_ble_eq_true rfl, Nat.le_of_ble_eq_true rfl⟩ htab [] ⟨0, 21, 24, 13⟩ [⟨0, 21, 28, 21⟩] rfl (fun z hz => absurd hz List.not_mem_nil) (by decide) (by decide) lk507_wsL_own (by decide) (fun q9 uu H locs hp hP hD hS => ?_)
  refine lv_astore (lv' := [(6, .ref q9), (0, .ref o), (1, .int x0), (2, .int x1), (3, .int x2), (4, .int x3), (5, .ref out)]) hx hb dL_own_24 hl (by decide) rfl (fun ls hl => ?_)
  refine lv_iconst (v := nI 1) hx hb dL_own_26 (by decide) ?_
  exact z_iretB uu hx hb hr hlocks hS dL_own_27 hP ⟨rfl, hp⟩
set_option maxRecDepth 20000 in
theorem lk508_wsL_own : Cond.classLink RL 21 "java/lang/IndexOutOfBoundsException" ∈ wsL_own := by decide +kernel
set_option maxHeartbeats 4000000 in
set_option maxRecDepth 100000 in
theorem c_L_own_bad2 {l : Launch} {D : va_G} {cy : zCy} {S : Type} {o out : Nat} {ov : Int64} {fs : List Value} {wr1 : va_W} {x0 x1 x2 x3 : Int32} {post : S → Prop} {w1 : S → va_W} (hM : zX S l yX4_own wsX4_own rmX4_own_t D cy ((o, .inr (4, fs)) :: wr1) [.ref o, .int x0, .int x1, .int x2, .int x3] zIOE post w1) (had : ∀ u, (w1 u).map Prod.fst = ((o, .inr (4, fs)) :: wr1).map Prod.fst) :
    zB S l yL_own wsL_own rmL_own D cy ((out, .inl (cy.2.2, 1, .inr (.inl (fun _ => ov)))) :: ((o, .inr (4, fs)) :: wr1)) [.ref o, .int x0, .int x1, .int x2, .int x3, .ref out] (fun r u => r = nI 2 ∧ post u) (fun u => (out, .inl (cy.2.2, 1, .inr (.inl (fun _ => ov)))) :: w1 u) := by
  refine zB.ofH (cc := cL_own) (maxL := 7) (ret := (some .int)) (hh := [(0, 21, 24, 13), (0, 21, 28, 21)]) (by decide) rfl rfl ?_
  intro p e s m below meth c ls C htab hP hK hD hTs hTh hl
  obtain ⟨hx, hb, hr, hml, hts, hown, hlocks⟩ := C
  have hS : va_S (zIn ((out, .inl (cy.2.2, 1, .inr (.inl (fun _ => ov)))) :: ((o, .inr (4, fs)) :: wr1))) s.heap s.heap [] := va_S.rf
  have hl : lv_has ls 7 [(0, .ref o), (1, .int x0), (2, .int x1), (3, .int x2), (4, .int x3), (5, .ref out)] := hl
  refine lv_aload hx hb dL_own_0 (lv_at hl 5 rfl) ?_
  refine lv_iconst (v := nI 0) hx hb dL_own_2 (by decide) ?_
  refine lv_aload_n hx hb dL_own_3 rfl (lv_at hl 0 rfl) ?_
  refine lv_iload_n hx hb dL_own_4 rfl (lv_at hl 1 rfl) ?_
  refine lv_iload_n hx hb dL_own_5 rfl (lv_at hl 2 rfl) ?_
  refine lv_iload_n hx hb dL_own_6 rfl (lv_at hl 3 rfl) ?_
  refine lv_iload hx hb dL_own_7 (lv_at hl 4 rfl) ?_
  refine z_catch (b := o) (As := [.int x0, .int x1, .int x2, .int x3]) (rest := [.int (nI 0), .ref out]) [(out, .inl (cy.2.2, 1, .inr (.inl (fun _ => ov))))] ⟨hx, hb, hml, hown, hts⟩ hK hP hD hS hTs hTh hM (cwV 4 hts gL_own_X4_own rfl rfl rfl k_yX4_own ⟨Nat.le_of_ble_eq_true rfl, Nat.le_of_ble_eq_true rfl⟩) (List.range' 1 (wr1.length + 1)) [0] (z_rgC _ _) rfl (z_rgN _) had 1 4 rfl rfl rfl rfl hl.1 rfl rfl dL_own_9 ⟨Nat.le_of_ble_eq_true rfl, Nat.le_of_ble_eq_true rfl⟩ htab [⟨0, 21, 24, 13⟩] ⟨0, 21, 28, 21⟩ [] rfl (fun z hz => by rcases List.mem_singleton.mp hz with rfl; exact ⟨by decide, _, lk507_wsL_own, by decide⟩) (by decide) (by decide) lk508_wsL_own (by decide) (fun q9 uu H locs hp hP hD hS => ?_)
  refine lv_astore (lv' := [(6, .ref q9), (0, .ref o), (1, .int x0), (2, .int x1), (3, .int x2), (4, .int x3), (5, .ref out)]) hx hb dL_own_28 hl (by decide) rfl (fun ls hl => ?_)
  refine lv_iconst (v := nI 2) hx hb dL_own_30 (by decide) ?_
  exact z_iretB uu hx hb hr hlocks hS dL_own_31 hP ⟨rfl, hp⟩
abbrev rmL_set : Room := { frames := 8, cells := 1, slots := 6, locals := 145 }
abbrev rmL_set_k : Room := { frames := 8, cells := 0, slots := 0, locals := 145 }
theorem k_yX4_set : yX4_set.cls = RX4 ∧ yX4_set.cls ≠ "java/lang/invoke/MethodHandle" ∧ yX4_set.cls ≠ "java/lang/invoke/VarHandle" ∧ (parseMethodDescriptor yX4_set.desc).map (fun d => d.parameters.length) = some 4 := by decide +kernel
set_option maxHeartbeats 4000000 in
set_option maxRecDepth 100000 in
theorem c_L_set_ok {l : Launch} {D : va_G} {cy : zCy} {S : Type} {o out : Nat} {ov : Int64} {fs : List Value} {wr1 : va_W} {x0 x1 x2 x3 : Int32} {post : Int32 → S → Prop} {w1 : S → va_W} (hM : zW S l yX4_set wsX4_set rmX4_set D cy ((o, .inr (4, fs)) :: wr1) [.ref o, .int x0, .int x1, .int x2, .int x3] post w1) (had : ∀ u, (w1 u).map Prod.fst = ((o, .inr (4, fs)) :: wr1).map Prod.fst) :
    zW (Int32 × S) l yL_set wsL_set rmL_set_k D cy ((out, .inl (cy.2.2, 1, .inr (.inl (fun _ => ov)))) :: ((o, .inr (4, fs)) :: wr1)) [.ref o, .int x0, .int x1, .int x2, .int x3, .ref out] (fun r u => r = nI 0 ∧ post u.1 u.2) (fun u => (out, .inl (cy.2.2, 1, .inr (.inl (fun _ => u.1.toInt64)))) :: w1 u.2) := by
  refine zW.ofH (cc := cL_set) (maxL := 7) (ret := (some .int)) (hh := [(0, 14, 17, 13), (0, 14, 21, 21)]) (by decide) rfl rfl ?_
  intro p e s m below meth c ls C hP hK hD hl
  obtain ⟨hx, hb, hr, hml, hts, hown, hlocks⟩ := C
  have hS : va_S (zIn ((out, .inl (cy.2.2, 1, .inr (.inl (fun _ => ov)))) :: ((o, .inr (4, fs)) :: wr1))) s.heap s.heap [] := va_S.rf
  have hl : lv_has ls 7 [(0, .ref o), (1, .int x0), (2, .int x1), (3, .int x2), (4, .int x3), (5, .ref out)] := hl
  refine lv_aload hx hb dL_set_0 (lv_at hl 5 rfl) ?_
  refine lv_iconst (v := nI 0) hx hb dL_set_2 (by decide) ?_
  refine lv_aload_n hx hb dL_set_3 rfl (lv_at hl 0 rfl) ?_
  refine lv_iload_n hx hb dL_set_4 rfl (lv_at hl 1 rfl) ?_
  refine lv_iload_n hx hb dL_set_5 rfl (lv_at hl 2 rfl) ?_
  refine lv_iload_n hx hb dL_set_6 rfl (lv_at hl 3 rfl) ?_
  refine lv_iload hx hb dL_set_7 (lv_at hl 4 rfl) ?_
  refine z_callVW (b := o) (As := [.int x0, .int x1, .int x2, .int x3]) (rest := [.int (nI 0), .ref out]) [(out, .inl (cy.2.2, 1, .inr (.inl (fun _ => ov))))] ⟨hx, hb, hml, hown, hts⟩ hK hP hD hS hM (cwV 4 hts gL_set_X4_set rfl rfl rfl k_yX4_set ⟨Nat.le_of_ble_eq_true rfl, Nat.le_of_ble_eq_true rfl⟩) (List.range' 1 (wr1.length + 1)) [0] (z_rgC _ _) rfl (z_rgN _) had 1 4 rfl rfl rfl rfl hl.1 rfl rfl dL_set_9 ⟨Nat.le_of_ble_eq_true rfl, Nat.le_of_ble_eq_true rfl⟩ (fun rr uu H locs hp hP hD hS => ?_)
  refine lv_i2l (v := rr.toInt64) hx hb dL_set_12 rfl ?_
  refine z_last (w := w1 uu) hx hb hK hP hD hS dL_set_13 (fun H locs hP hS => ?_)
  refine lv_goto (tgt := 25) hx hb dL_set_14 (by decide) ?_
  refine lv_iconst (v := nI 0) hx hb dL_set_25 (by decide) ?_
  exact z_iretW (rr, uu) hx hb hr hlocks hS dL_set_26 hP ⟨rfl, hp⟩
set_option maxRecDepth 20000 in
theorem lk510_wsL_set : Cond.classLink RL 13 "java/lang/IllegalArgumentException" ∈ wsL_set := by decide +kernel
set_option maxHeartbeats 4000000 in
set_option maxRecDepth 100000 in
theorem c_L_set_bad1 {l : Launch} {D : va_G} {cy : zCy} {S : Type} {o out : Nat} {ov : Int64} {fs : List Value} {wr1 : va_W} {x0 x1 x2 x3 : Int32} {post : S → Prop} {w1 : S → va_W} (hM : zX S l yX4_set wsX4_set rmX4_set_t D cy ((o, .inr (4, fs)) :: wr1) [.ref o, .int x0, .int x1, .int x2, .int x3] zIAE post w1) (had : ∀ u, (w1 u).map Prod.fst = ((o, .inr (4, fs)) :: wr1).map Prod.fst) :
    zB S l yL_set wsL_set rmL_set D cy ((out, .inl (cy.2.2, 1, .inr (.inl (fun _ => ov)))) :: ((o, .inr (4, fs)) :: wr1)) [.ref o, .int x0, .int x1, .int x2, .int x3, .ref out] (fun r u => r = nI 1 ∧ post u) (fun u => (out, .inl (cy.2.2, 1, .inr (.inl (fun _ => ov)))) :: w1 u) := by
  refine zB.ofH (cc := cL_set) (maxL := 7) (ret := (some .int)) (hh := [(0, 14, 17, 13), (0, 14, 21, 21)]) (by decide) rfl rfl ?_
  intro p e s m below meth c ls C htab hP hK hD hTs hTh hl
  obtain ⟨hx, hb, hr, hml, hts, hown, hlocks⟩ := C
  have hS : va_S (zIn ((out, .inl (cy.2.2, 1, .inr (.inl (fun _ => ov)))) :: ((o, .inr (4, fs)) :: wr1))) s.heap s.heap [] := va_S.rf
  have hl : lv_has ls 7 [(0, .ref o), (1, .int x0), (2, .int x1), (3, .int x2), (4, .int x3), (5, .ref out)] := hl
  refine lv_aload hx hb dL_set_0 (lv_at hl 5 rfl) ?_
  refine lv_iconst (v := nI 0) hx hb dL_set_2 (by decide) ?_
  refine lv_aload_n hx hb dL_set_3 rfl (lv_at hl 0 rfl) ?_
  refine lv_iload_n hx hb dL_set_4 rfl (lv_at hl 1 rfl) ?_
  refine lv_iload_n hx hb dL_set_5 rfl (lv_at hl 2 rfl) ?_
  refine lv_iload_n hx hb dL_set_6 rfl (lv_at hl 3 rfl) ?_
  refine lv_iload hx hb dL_set_7 (lv_at hl 4 rfl) ?_
  refine z_catch (b := o) (As := [.int x0, .int x1, .int x2, .int x3]) (rest := [.int (nI 0), .ref out]) [(out, .inl (cy.2.2, 1, .inr (.inl (fun _ => ov))))] ⟨hx, hb, hml, hown, hts⟩ hK hP hD hS hTs hTh hM (cwV 4 hts gL_set_X4_set rfl rfl rfl k_yX4_set ⟨Nat.le_of_ble_eq_true rfl, Nat.le_of_ble_eq_true rfl⟩) (List.range' 1 (wr1.length + 1)) [0] (z_rgC _ _) rfl (z_rgN _) had 1 4 rfl rfl rfl rfl hl.1 rfl rfl dL_set_9 ⟨Nat.le_of_ble_eq_true rfl, Nat.le_of_ble_eq_true rfl⟩ htab [] ⟨0, 14, 17, 13⟩ [⟨0, 14, 21, 21⟩] rfl (fun z hz => absurd hz List.not_mem_nil) (by decide) (by decide) lk510_wsL_set (by decide) (fun q9 uu H locs hp hP hD hS => ?_)
  refine lv_astore (lv' := [(6, .ref q9), (0, .ref o), (1, .int x0), (2, .int x1), (3, .int x2), (4, .int x3), (5, .ref out)]) hx hb dL_set_17 hl (by decide) rfl (fun ls hl => ?_)
  refine lv_iconst (v := nI 1) hx hb dL_set_19 (by decide) ?_
  exact z_iretB uu hx hb hr hlocks hS dL_set_20 hP ⟨rfl, hp⟩
set_option maxRecDepth 20000 in
theorem lk511_wsL_set : Cond.classLink RL 21 "java/lang/IndexOutOfBoundsException" ∈ wsL_set := by decide +kernel
set_option maxHeartbeats 4000000 in
set_option maxRecDepth 100000 in
theorem c_L_set_bad2 {l : Launch} {D : va_G} {cy : zCy} {S : Type} {o out : Nat} {ov : Int64} {fs : List Value} {wr1 : va_W} {x0 x1 x2 x3 : Int32} {post : S → Prop} {w1 : S → va_W} (hM : zX S l yX4_set wsX4_set rmX4_set_t D cy ((o, .inr (4, fs)) :: wr1) [.ref o, .int x0, .int x1, .int x2, .int x3] zIOE post w1) (had : ∀ u, (w1 u).map Prod.fst = ((o, .inr (4, fs)) :: wr1).map Prod.fst) :
    zB S l yL_set wsL_set rmL_set D cy ((out, .inl (cy.2.2, 1, .inr (.inl (fun _ => ov)))) :: ((o, .inr (4, fs)) :: wr1)) [.ref o, .int x0, .int x1, .int x2, .int x3, .ref out] (fun r u => r = nI 2 ∧ post u) (fun u => (out, .inl (cy.2.2, 1, .inr (.inl (fun _ => ov)))) :: w1 u) := by
  refine zB.ofH (cc := cL_set) (maxL := 7) (ret := (some .int)) (hh := [(0, 14, 17, 13), (0, 14, 21, 21)]) (by decide) rfl rfl ?_
  intro p e s m below meth c ls C htab hP hK hD hTs hTh hl
  obtain ⟨hx, hb, hr, hml, hts, hown, hlocks⟩ := C
  have hS : va_S (zIn ((out, .inl (cy.2.2, 1, .inr (.inl (fun _ => ov)))) :: ((o, .inr (4, fs)) :: wr1))) s.heap s.heap [] := va_S.rf
  have hl : lv_has ls 7 [(0, .ref o), (1, .int x0), (2, .int x1), (3, .int x2), (4, .int x3), (5, .ref out)] := hl
  refine lv_aload hx hb dL_set_0 (lv_at hl 5 rfl) ?_
  refine lv_iconst (v := nI 0) hx hb dL_set_2 (by decide) ?_
  refine lv_aload_n hx hb dL_set_3 rfl (lv_at hl 0 rfl) ?_
  refine lv_iload_n hx hb dL_set_4 rfl (lv_at hl 1 rfl) ?_
  refine lv_iload_n hx hb dL_set_5 rfl (lv_at hl 2 rfl) ?_
  refine lv_iload_n hx hb dL_set_6 rfl (lv_at hl 3 rfl) ?_
  refine lv_iload hx hb dL_set_7 (lv_at hl 4 rfl) ?_
  refine z_catch (b := o) (As := [.int x0, .int x1, .int x2, .int x3]) (rest := [.int (nI 0), .ref out]) [(out, .inl (cy.2.2, 1, .inr (.inl (fun _ => ov))))] ⟨hx, hb, hml, hown, hts⟩ hK hP hD hS hTs hTh hM (cwV 4 hts gL_set_X4_set rfl rfl rfl k_yX4_set ⟨Nat.le_of_ble_eq_true rfl, Nat.le_of_ble_eq_true rfl⟩) (List.range' 1 (wr1.length + 1)) [0] (z_rgC _ _) rfl (z_rgN _) had 1 4 rfl rfl rfl rfl hl.1 rfl rfl dL_set_9 ⟨Nat.le_of_ble_eq_true rfl, Nat.le_of_ble_eq_true rfl⟩ htab [⟨0, 14, 17, 13⟩] ⟨0, 14, 21, 21⟩ [] rfl (fun z hz => by rcases List.mem_singleton.mp hz with rfl; exact ⟨by decide, _, lk510_wsL_set, by decide⟩) (by decide) (by decide) lk511_wsL_set (by decide) (fun q9 uu H locs hp hP hD hS => ?_)
  refine lv_astore (lv' := [(6, .ref q9), (0, .ref o), (1, .int x0), (2, .int x1), (3, .int x2), (4, .int x3), (5, .ref out)]) hx hb dL_set_21 hl (by decide) rfl (fun ls hl => ?_)
  refine lv_iconst (v := nI 2) hx hb dL_set_23 (by decide) ?_
  exact z_iretB uu hx hb hr hlocks hS dL_set_24 hP ⟨rfl, hp⟩
abbrev rmL_fail : Room := { frames := 8, cells := 1, slots := 6, locals := 124 }
abbrev rmL_fail_k : Room := { frames := 8, cells := 0, slots := 0, locals := 124 }
theorem k_yX4_fail : yX4_fail.cls = RX4 ∧ yX4_fail.cls ≠ "java/lang/invoke/MethodHandle" ∧ yX4_fail.cls ≠ "java/lang/invoke/VarHandle" ∧ (parseMethodDescriptor yX4_fail.desc).map (fun d => d.parameters.length) = some 2 := by decide +kernel
set_option maxHeartbeats 4000000 in
set_option maxRecDepth 100000 in
theorem c_L_fail_ok {l : Launch} {D : va_G} {cy : zCy} {S : Type} {o out : Nat} {ov : Int64} {fs : List Value} {wr1 : va_W} {x0 x1 : Int32} {post : Int32 → S → Prop} {w1 : S → va_W} (hM : zW S l yX4_fail wsX4_fail rmX4_fail D cy ((o, .inr (4, fs)) :: wr1) [.ref o, .int x0, .int x1] post w1) (had : ∀ u, (w1 u).map Prod.fst = ((o, .inr (4, fs)) :: wr1).map Prod.fst) :
    zW (Int32 × S) l yL_fail wsL_fail rmL_fail_k D cy ((out, .inl (cy.2.2, 1, .inr (.inl (fun _ => ov)))) :: ((o, .inr (4, fs)) :: wr1)) [.ref o, .int x0, .int x1, .ref out] (fun r u => r = nI 0 ∧ post u.1 u.2) (fun u => (out, .inl (cy.2.2, 1, .inr (.inl (fun _ => (if u.1 = 0 then 0 else 1))))) :: w1 u.2) := by
  refine zW.ofH (cc := cL_fail) (maxL := 5) (ret := (some .int)) (hh := [(0, 17, 20, 13)]) (by decide) rfl rfl ?_
  intro p e s m below meth c ls C hP hK hD hl
  obtain ⟨hx, hb, hr, hml, hts, hown, hlocks⟩ := C
  have hS : va_S (zIn ((out, .inl (cy.2.2, 1, .inr (.inl (fun _ => ov)))) :: ((o, .inr (4, fs)) :: wr1))) s.heap s.heap [] := va_S.rf
  have hl : lv_has ls 5 [(0, .ref o), (1, .int x0), (2, .int x1), (3, .ref out)] := hl
  refine lv_aload_n hx hb dL_fail_0 rfl (lv_at hl 3 rfl) ?_
  refine lv_iconst (v := nI 0) hx hb dL_fail_1 (by decide) ?_
  refine lv_aload_n hx hb dL_fail_2 rfl (lv_at hl 0 rfl) ?_
  refine lv_iload_n hx hb dL_fail_3 rfl (lv_at hl 1 rfl) ?_
  refine lv_iload_n hx hb dL_fail_4 rfl (lv_at hl 2 rfl) ?_
  refine z_callVW (b := o) (As := [.int x0, .int x1]) (rest := [.int (nI 0), .ref out]) [(out, .inl (cy.2.2, 1, .inr (.inl (fun _ => ov))))] ⟨hx, hb, hml, hown, hts⟩ hK hP hD hS hM (cwV 2 hts gL_fail_X4_fail rfl rfl rfl k_yX4_fail ⟨Nat.le_of_ble_eq_true rfl, Nat.le_of_ble_eq_true rfl⟩) (List.range' 1 (wr1.length + 1)) [0] (z_rgC _ _) rfl (z_rgN _) had 1 4 rfl rfl rfl rfl hl.1 rfl rfl dL_fail_5 ⟨Nat.le_of_ble_eq_true rfl, Nat.le_of_ble_eq_true rfl⟩ (fun rr uu H locs hp hP hD hS => ?_)
  refine lv_if_eq (tgt := 15) hx hb dL_fail_8 (by decide) (fun cb => ?_) (fun cb => ?_)
  · refine lv_lconst (v := 0) hx hb dL_fail_15 rfl ?_
    refine z_last (w := w1 uu) hx hb hK hP hD hS dL_fail_16 (fun H locs hP hS => ?_)
    refine lv_goto (tgt := 24) hx hb dL_fail_17 (by decide) ?_
    refine lv_iconst (v := nI 0) hx hb dL_fail_24 (by decide) ?_
    exact z_iretW (rr, uu) hx hb hr hlocks hS dL_fail_25 (by show va_P D vwCl ((out, .inl (cy.2.2, 1, .inr (.inl (fun _ => if rr = 0 then 0 else 1)))) :: w1 uu) H; rw [if_pos cb]; exact hP) ⟨rfl, hp⟩
  · refine lv_lconst (v := 1) hx hb dL_fail_11 rfl ?_
    refine lv_goto (tgt := 16) hx hb dL_fail_12 (by decide) ?_
    refine z_last (w := w1 uu) hx hb hK hP hD hS dL_fail_16 (fun H locs hP hS => ?_)
    refine lv_goto (tgt := 24) hx hb dL_fail_17 (by decide) ?_
    refine lv_iconst (v := nI 0) hx hb dL_fail_24 (by decide) ?_
    exact z_iretW (rr, uu) hx hb hr hlocks hS dL_fail_25 (by show va_P D vwCl ((out, .inl (cy.2.2, 1, .inr (.inl (fun _ => if rr = 0 then 0 else 1)))) :: w1 uu) H; rw [if_neg cb]; exact hP) ⟨rfl, hp⟩
set_option maxRecDepth 20000 in
theorem lk513_wsL_fail : Cond.classLink RL 13 "java/lang/IllegalArgumentException" ∈ wsL_fail := by decide +kernel
set_option maxHeartbeats 4000000 in
set_option maxRecDepth 100000 in
theorem c_L_fail_bad1 {l : Launch} {D : va_G} {cy : zCy} {S : Type} {o out : Nat} {ov : Int64} {fs : List Value} {wr1 : va_W} {x0 x1 : Int32} {post : S → Prop} {w1 : S → va_W} (hM : zX S l yX4_fail wsX4_fail rmX4_fail_t D cy ((o, .inr (4, fs)) :: wr1) [.ref o, .int x0, .int x1] zIAE post w1) (had : ∀ u, (w1 u).map Prod.fst = ((o, .inr (4, fs)) :: wr1).map Prod.fst) :
    zB S l yL_fail wsL_fail rmL_fail D cy ((out, .inl (cy.2.2, 1, .inr (.inl (fun _ => ov)))) :: ((o, .inr (4, fs)) :: wr1)) [.ref o, .int x0, .int x1, .ref out] (fun r u => r = nI 1 ∧ post u) (fun u => (out, .inl (cy.2.2, 1, .inr (.inl (fun _ => ov)))) :: w1 u) := by
  refine zB.ofH (cc := cL_fail) (maxL := 5) (ret := (some .int)) (hh := [(0, 17, 20, 13)]) (by decide) rfl rfl ?_
  intro p e s m below meth c ls C htab hP hK hD hTs hTh hl
  obtain ⟨hx, hb, hr, hml, hts, hown, hlocks⟩ := C
  have hS : va_S (zIn ((out, .inl (cy.2.2, 1, .inr (.inl (fun _ => ov)))) :: ((o, .inr (4, fs)) :: wr1))) s.heap s.heap [] := va_S.rf
  have hl : lv_has ls 5 [(0, .ref o), (1, .int x0), (2, .int x1), (3, .ref out)] := hl
  refine lv_aload_n hx hb dL_fail_0 rfl (lv_at hl 3 rfl) ?_
  refine lv_iconst (v := nI 0) hx hb dL_fail_1 (by decide) ?_
  refine lv_aload_n hx hb dL_fail_2 rfl (lv_at hl 0 rfl) ?_
  refine lv_iload_n hx hb dL_fail_3 rfl (lv_at hl 1 rfl) ?_
  refine lv_iload_n hx hb dL_fail_4 rfl (lv_at hl 2 rfl) ?_
  refine z_catch (b := o) (As := [.int x0, .int x1]) (rest := [.int (nI 0), .ref out]) [(out, .inl (cy.2.2, 1, .inr (.inl (fun _ => ov))))] ⟨hx, hb, hml, hown, hts⟩ hK hP hD hS hTs hTh hM (cwV 2 hts gL_fail_X4_fail rfl rfl rfl k_yX4_fail ⟨Nat.le_of_ble_eq_true rfl, Nat.le_of_ble_eq_true rfl⟩) (List.range' 1 (wr1.length + 1)) [0] (z_rgC _ _) rfl (z_rgN _) had 1 4 rfl rfl rfl rfl hl.1 rfl rfl dL_fail_5 ⟨Nat.le_of_ble_eq_true rfl, Nat.le_of_ble_eq_true rfl⟩ htab [] ⟨0, 17, 20, 13⟩ [] rfl (fun z hz => absurd hz List.not_mem_nil) (by decide) (by decide) lk513_wsL_fail (by decide) (fun q9 uu H locs hp hP hD hS => ?_)
  refine lv_astore (lv' := [(4, .ref q9), (0, .ref o), (1, .int x0), (2, .int x1), (3, .ref out)]) hx hb dL_fail_20 hl (by decide) rfl (fun ls hl => ?_)
  refine lv_iconst (v := nI 1) hx hb dL_fail_22 (by decide) ?_
  exact z_iretB uu hx hb hr hlocks hS dL_fail_23 hP ⟨rfl, hp⟩
abbrev rmL_begin : Room := { frames := 8, cells := 1, slots := 6, locals := 123 }
abbrev rmL_begin_k : Room := { frames := 8, cells := 0, slots := 0, locals := 123 }
theorem k_yX4_begin : yX4_begin.cls = RX4 ∧ yX4_begin.cls ≠ "java/lang/invoke/MethodHandle" ∧ yX4_begin.cls ≠ "java/lang/invoke/VarHandle" ∧ (parseMethodDescriptor yX4_begin.desc).map (fun d => d.parameters.length) = some 1 := by decide +kernel
set_option maxHeartbeats 4000000 in
set_option maxRecDepth 100000 in
theorem c_L_begin_ok {l : Launch} {D : va_G} {cy : zCy} {S : Type} {o out : Nat} {ov : Int64} {fs : List Value} {wr1 : va_W} {x0 : Int32} {post : Int32 → S → Prop} {w1 : S → va_W} (hM : zW S l yX4_begin wsX4_begin rmX4_begin D cy ((o, .inr (4, fs)) :: wr1) [.ref o, .int x0] post w1) (had : ∀ u, (w1 u).map Prod.fst = ((o, .inr (4, fs)) :: wr1).map Prod.fst) :
    zW (Int32 × S) l yL_begin wsL_begin rmL_begin_k D cy ((out, .inl (cy.2.2, 1, .inr (.inl (fun _ => ov)))) :: ((o, .inr (4, fs)) :: wr1)) [.ref o, .int x0, .ref out] (fun r u => r = nI 0 ∧ post u.1 u.2) (fun u => (out, .inl (cy.2.2, 1, .inr (.inl (fun _ => u.1.toInt64)))) :: w1 u.2) := by
  refine zW.ofH (cc := cL_begin) (maxL := 4) (ret := (some .int)) (hh := [(0, 9, 12, 13)]) (by decide) rfl rfl ?_
  intro p e s m below meth c ls C hP hK hD hl
  obtain ⟨hx, hb, hr, hml, hts, hown, hlocks⟩ := C
  have hS : va_S (zIn ((out, .inl (cy.2.2, 1, .inr (.inl (fun _ => ov)))) :: ((o, .inr (4, fs)) :: wr1))) s.heap s.heap [] := va_S.rf
  have hl : lv_has ls 4 [(0, .ref o), (1, .int x0), (2, .ref out)] := hl
  refine lv_aload_n hx hb dL_begin_0 rfl (lv_at hl 2 rfl) ?_
  refine lv_iconst (v := nI 0) hx hb dL_begin_1 (by decide) ?_
  refine lv_aload_n hx hb dL_begin_2 rfl (lv_at hl 0 rfl) ?_
  refine lv_iload_n hx hb dL_begin_3 rfl (lv_at hl 1 rfl) ?_
  refine z_callVW (b := o) (As := [.int x0]) (rest := [.int (nI 0), .ref out]) [(out, .inl (cy.2.2, 1, .inr (.inl (fun _ => ov))))] ⟨hx, hb, hml, hown, hts⟩ hK hP hD hS hM (cwV 1 hts gL_begin_X4_begin rfl rfl rfl k_yX4_begin ⟨Nat.le_of_ble_eq_true rfl, Nat.le_of_ble_eq_true rfl⟩) (List.range' 1 (wr1.length + 1)) [0] (z_rgC _ _) rfl (z_rgN _) had 1 4 rfl rfl rfl rfl hl.1 rfl rfl dL_begin_4 ⟨Nat.le_of_ble_eq_true rfl, Nat.le_of_ble_eq_true rfl⟩ (fun rr uu H locs hp hP hD hS => ?_)
  refine lv_i2l (v := rr.toInt64) hx hb dL_begin_7 rfl ?_
  refine z_last (w := w1 uu) hx hb hK hP hD hS dL_begin_8 (fun H locs hP hS => ?_)
  refine lv_goto (tgt := 15) hx hb dL_begin_9 (by decide) ?_
  refine lv_iconst (v := nI 0) hx hb dL_begin_15 (by decide) ?_
  exact z_iretW (rr, uu) hx hb hr hlocks hS dL_begin_16 hP ⟨rfl, hp⟩
set_option maxRecDepth 20000 in
theorem lk515_wsL_begin : Cond.classLink RL 13 "java/lang/IllegalArgumentException" ∈ wsL_begin := by decide +kernel
set_option maxHeartbeats 4000000 in
set_option maxRecDepth 100000 in
theorem c_L_begin_bad1 {l : Launch} {D : va_G} {cy : zCy} {S : Type} {o out : Nat} {ov : Int64} {fs : List Value} {wr1 : va_W} {x0 : Int32} {post : S → Prop} {w1 : S → va_W} (hM : zX S l yX4_begin wsX4_begin rmX4_begin_t D cy ((o, .inr (4, fs)) :: wr1) [.ref o, .int x0] zIAE post w1) (had : ∀ u, (w1 u).map Prod.fst = ((o, .inr (4, fs)) :: wr1).map Prod.fst) :
    zB S l yL_begin wsL_begin rmL_begin D cy ((out, .inl (cy.2.2, 1, .inr (.inl (fun _ => ov)))) :: ((o, .inr (4, fs)) :: wr1)) [.ref o, .int x0, .ref out] (fun r u => r = nI 1 ∧ post u) (fun u => (out, .inl (cy.2.2, 1, .inr (.inl (fun _ => ov)))) :: w1 u) := by
  refine zB.ofH (cc := cL_begin) (maxL := 4) (ret := (some .int)) (hh := [(0, 9, 12, 13)]) (by decide) rfl rfl ?_
  intro p e s m below meth c ls C htab hP hK hD hTs hTh hl
  obtain ⟨hx, hb, hr, hml, hts, hown, hlocks⟩ := C
  have hS : va_S (zIn ((out, .inl (cy.2.2, 1, .inr (.inl (fun _ => ov)))) :: ((o, .inr (4, fs)) :: wr1))) s.heap s.heap [] := va_S.rf
  have hl : lv_has ls 4 [(0, .ref o), (1, .int x0), (2, .ref out)] := hl
  refine lv_aload_n hx hb dL_begin_0 rfl (lv_at hl 2 rfl) ?_
  refine lv_iconst (v := nI 0) hx hb dL_begin_1 (by decide) ?_
  refine lv_aload_n hx hb dL_begin_2 rfl (lv_at hl 0 rfl) ?_
  refine lv_iload_n hx hb dL_begin_3 rfl (lv_at hl 1 rfl) ?_
  refine z_catch (b := o) (As := [.int x0]) (rest := [.int (nI 0), .ref out]) [(out, .inl (cy.2.2, 1, .inr (.inl (fun _ => ov))))] ⟨hx, hb, hml, hown, hts⟩ hK hP hD hS hTs hTh hM (cwV 1 hts gL_begin_X4_begin rfl rfl rfl k_yX4_begin ⟨Nat.le_of_ble_eq_true rfl, Nat.le_of_ble_eq_true rfl⟩) (List.range' 1 (wr1.length + 1)) [0] (z_rgC _ _) rfl (z_rgN _) had 1 4 rfl rfl rfl rfl hl.1 rfl rfl dL_begin_4 ⟨Nat.le_of_ble_eq_true rfl, Nat.le_of_ble_eq_true rfl⟩ htab [] ⟨0, 9, 12, 13⟩ [] rfl (fun z hz => absurd hz List.not_mem_nil) (by decide) (by decide) lk515_wsL_begin (by decide) (fun q9 uu H locs hp hP hD hS => ?_)
  refine lv_astore_n (lv' := [(3, .ref q9), (0, .ref o), (1, .int x0), (2, .ref out)]) hx hb dL_begin_12 rfl hl (by decide) rfl (fun ls hl => ?_)
  refine lv_iconst (v := nI 1) hx hb dL_begin_13 (by decide) ?_
  exact z_iretB uu hx hb hr hlocks hS dL_begin_14 hP ⟨rfl, hp⟩
abbrev rmL_node : Room := { frames := 8, cells := 1, slots := 6, locals := 144 }
abbrev rmL_node_k : Room := { frames := 8, cells := 0, slots := 0, locals := 144 }
theorem k_yX4_node : yX4_node.cls = RX4 ∧ yX4_node.cls ≠ "java/lang/invoke/MethodHandle" ∧ yX4_node.cls ≠ "java/lang/invoke/VarHandle" ∧ (parseMethodDescriptor yX4_node.desc).map (fun d => d.parameters.length) = some 2 := by decide +kernel
set_option maxHeartbeats 4000000 in
set_option maxRecDepth 100000 in
theorem c_L_node_ok {l : Launch} {D : va_G} {cy : zCy} {S : Type} {o out : Nat} {ov : Int64} {fs : List Value} {wr1 : va_W} {x0 x1 : Int32} {post : Int32 → S → Prop} {w1 : S → va_W} (hM : zW S l yX4_node wsX4_node rmX4_node D cy ((o, .inr (4, fs)) :: wr1) [.ref o, .int x0, .int x1] post w1) (had : ∀ u, (w1 u).map Prod.fst = ((o, .inr (4, fs)) :: wr1).map Prod.fst) :
    zW (Int32 × S) l yL_node wsL_node rmL_node_k D cy ((out, .inl (cy.2.2, 1, .inr (.inl (fun _ => ov)))) :: ((o, .inr (4, fs)) :: wr1)) [.ref o, .int x0, .int x1, .ref out] (fun r u => r = nI 0 ∧ post u.1 u.2) (fun u => (out, .inl (cy.2.2, 1, .inr (.inl (fun _ => u.1.toInt64)))) :: w1 u.2) := by
  refine zW.ofH (cc := cL_node) (maxL := 5) (ret := (some .int)) (hh := [(0, 10, 13, 21), (0, 10, 17, 15)]) (by decide) rfl rfl ?_
  intro p e s m below meth c ls C hP hK hD hl
  obtain ⟨hx, hb, hr, hml, hts, hown, hlocks⟩ := C
  have hS : va_S (zIn ((out, .inl (cy.2.2, 1, .inr (.inl (fun _ => ov)))) :: ((o, .inr (4, fs)) :: wr1))) s.heap s.heap [] := va_S.rf
  have hl : lv_has ls 5 [(0, .ref o), (1, .int x0), (2, .int x1), (3, .ref out)] := hl
  refine lv_aload_n hx hb dL_node_0 rfl (lv_at hl 3 rfl) ?_
  refine lv_iconst (v := nI 0) hx hb dL_node_1 (by decide) ?_
  refine lv_aload_n hx hb dL_node_2 rfl (lv_at hl 0 rfl) ?_
  refine lv_iload_n hx hb dL_node_3 rfl (lv_at hl 1 rfl) ?_
  refine lv_iload_n hx hb dL_node_4 rfl (lv_at hl 2 rfl) ?_
  refine z_callVW (b := o) (As := [.int x0, .int x1]) (rest := [.int (nI 0), .ref out]) [(out, .inl (cy.2.2, 1, .inr (.inl (fun _ => ov))))] ⟨hx, hb, hml, hown, hts⟩ hK hP hD hS hM (cwV 2 hts gL_node_X4_node rfl rfl rfl k_yX4_node ⟨Nat.le_of_ble_eq_true rfl, Nat.le_of_ble_eq_true rfl⟩) (List.range' 1 (wr1.length + 1)) [0] (z_rgC _ _) rfl (z_rgN _) had 1 4 rfl rfl rfl rfl hl.1 rfl rfl dL_node_5 ⟨Nat.le_of_ble_eq_true rfl, Nat.le_of_ble_eq_true rfl⟩ (fun rr uu H locs hp hP hD hS => ?_)
  refine lv_i2l (v := rr.toInt64) hx hb dL_node_8 rfl ?_
  refine z_last (w := w1 uu) hx hb hK hP hD hS dL_node_9 (fun H locs hP hS => ?_)
  refine lv_goto (tgt := 21) hx hb dL_node_10 (by decide) ?_
  refine lv_iconst (v := nI 0) hx hb dL_node_21 (by decide) ?_
  exact z_iretW (rr, uu) hx hb hr hlocks hS dL_node_22 hP ⟨rfl, hp⟩
set_option maxRecDepth 20000 in
theorem lk517_wsL_node : Cond.classLink RL 21 "java/lang/IndexOutOfBoundsException" ∈ wsL_node := by decide +kernel
set_option maxHeartbeats 4000000 in
set_option maxRecDepth 100000 in
theorem c_L_node_bad1 {l : Launch} {D : va_G} {cy : zCy} {S : Type} {o out : Nat} {ov : Int64} {fs : List Value} {wr1 : va_W} {x0 x1 : Int32} {post : S → Prop} {w1 : S → va_W} (hM : zX S l yX4_node wsX4_node rmX4_node_t D cy ((o, .inr (4, fs)) :: wr1) [.ref o, .int x0, .int x1] zIOE post w1) (had : ∀ u, (w1 u).map Prod.fst = ((o, .inr (4, fs)) :: wr1).map Prod.fst) :
    zB S l yL_node wsL_node rmL_node D cy ((out, .inl (cy.2.2, 1, .inr (.inl (fun _ => ov)))) :: ((o, .inr (4, fs)) :: wr1)) [.ref o, .int x0, .int x1, .ref out] (fun r u => r = nI 1 ∧ post u) (fun u => (out, .inl (cy.2.2, 1, .inr (.inl (fun _ => ov)))) :: w1 u) := by
  refine zB.ofH (cc := cL_node) (maxL := 5) (ret := (some .int)) (hh := [(0, 10, 13, 21), (0, 10, 17, 15)]) (by decide) rfl rfl ?_
  intro p e s m below meth c ls C htab hP hK hD hTs hTh hl
  obtain ⟨hx, hb, hr, hml, hts, hown, hlocks⟩ := C
  have hS : va_S (zIn ((out, .inl (cy.2.2, 1, .inr (.inl (fun _ => ov)))) :: ((o, .inr (4, fs)) :: wr1))) s.heap s.heap [] := va_S.rf
  have hl : lv_has ls 5 [(0, .ref o), (1, .int x0), (2, .int x1), (3, .ref out)] := hl
  refine lv_aload_n hx hb dL_node_0 rfl (lv_at hl 3 rfl) ?_
  refine lv_iconst (v := nI 0) hx hb dL_node_1 (by decide) ?_
  refine lv_aload_n hx hb dL_node_2 rfl (lv_at hl 0 rfl) ?_
  refine lv_iload_n hx hb dL_node_3 rfl (lv_at hl 1 rfl) ?_
  refine lv_iload_n hx hb dL_node_4 rfl (lv_at hl 2 rfl) ?_
  refine z_catch (b := o) (As := [.int x0, .int x1]) (rest := [.int (nI 0), .ref out]) [(out, .inl (cy.2.2, 1, .inr (.inl (fun _ => ov))))] ⟨hx, hb, hml, hown, hts⟩ hK hP hD hS hTs hTh hM (cwV 2 hts gL_node_X4_node rfl rfl rfl k_yX4_node ⟨Nat.le_of_ble_eq_true rfl, Nat.le_of_ble_eq_true rfl⟩) (List.range' 1 (wr1.length + 1)) [0] (z_rgC _ _) rfl (z_rgN _) had 1 4 rfl rfl rfl rfl hl.1 rfl rfl dL_node_5 ⟨Nat.le_of_ble_eq_true rfl, Nat.le_of_ble_eq_true rfl⟩ htab [] ⟨0, 10, 13, 21⟩ [⟨0, 10, 17, 15⟩] rfl (fun z hz => absurd hz List.not_mem_nil) (by decide) (by decide) lk517_wsL_node (by decide) (fun q9 uu H locs hp hP hD hS => ?_)
  refine lv_astore (lv' := [(4, .ref q9), (0, .ref o), (1, .int x0), (2, .int x1), (3, .ref out)]) hx hb dL_node_13 hl (by decide) rfl (fun ls hl => ?_)
  refine lv_iconst (v := nI 1) hx hb dL_node_15 (by decide) ?_
  exact z_iretB uu hx hb hr hlocks hS dL_node_16 hP ⟨rfl, hp⟩
set_option maxRecDepth 20000 in
theorem lk518_wsL_node : Cond.classLink RL 15 "java/lang/IllegalStateException" ∈ wsL_node := by decide +kernel
set_option maxHeartbeats 4000000 in
set_option maxRecDepth 100000 in
theorem c_L_node_bad2 {l : Launch} {D : va_G} {cy : zCy} {S : Type} {o out : Nat} {ov : Int64} {fs : List Value} {wr1 : va_W} {x0 x1 : Int32} {post : S → Prop} {w1 : S → va_W} (hM : zX S l yX4_node wsX4_node rmX4_node_t D cy ((o, .inr (4, fs)) :: wr1) [.ref o, .int x0, .int x1] zISE post w1) (had : ∀ u, (w1 u).map Prod.fst = ((o, .inr (4, fs)) :: wr1).map Prod.fst) :
    zB S l yL_node wsL_node rmL_node D cy ((out, .inl (cy.2.2, 1, .inr (.inl (fun _ => ov)))) :: ((o, .inr (4, fs)) :: wr1)) [.ref o, .int x0, .int x1, .ref out] (fun r u => r = nI 2 ∧ post u) (fun u => (out, .inl (cy.2.2, 1, .inr (.inl (fun _ => ov)))) :: w1 u) := by
  refine zB.ofH (cc := cL_node) (maxL := 5) (ret := (some .int)) (hh := [(0, 10, 13, 21), (0, 10, 17, 15)]) (by decide) rfl rfl ?_
  intro p e s m below meth c ls C htab hP hK hD hTs hTh hl
  obtain ⟨hx, hb, hr, hml, hts, hown, hlocks⟩ := C
  have hS : va_S (zIn ((out, .inl (cy.2.2, 1, .inr (.inl (fun _ => ov)))) :: ((o, .inr (4, fs)) :: wr1))) s.heap s.heap [] := va_S.rf
  have hl : lv_has ls 5 [(0, .ref o), (1, .int x0), (2, .int x1), (3, .ref out)] := hl
  refine lv_aload_n hx hb dL_node_0 rfl (lv_at hl 3 rfl) ?_
  refine lv_iconst (v := nI 0) hx hb dL_node_1 (by decide) ?_
  refine lv_aload_n hx hb dL_node_2 rfl (lv_at hl 0 rfl) ?_
  refine lv_iload_n hx hb dL_node_3 rfl (lv_at hl 1 rfl) ?_
  refine lv_iload_n hx hb dL_node_4 rfl (lv_at hl 2 rfl) ?_
  refine z_catch (b := o) (As := [.int x0, .int x1]) (rest := [.int (nI 0), .ref out]) [(out, .inl (cy.2.2, 1, .inr (.inl (fun _ => ov))))] ⟨hx, hb, hml, hown, hts⟩ hK hP hD hS hTs hTh hM (cwV 2 hts gL_node_X4_node rfl rfl rfl k_yX4_node ⟨Nat.le_of_ble_eq_true rfl, Nat.le_of_ble_eq_true rfl⟩) (List.range' 1 (wr1.length + 1)) [0] (z_rgC _ _) rfl (z_rgN _) had 1 4 rfl rfl rfl rfl hl.1 rfl rfl dL_node_5 ⟨Nat.le_of_ble_eq_true rfl, Nat.le_of_ble_eq_true rfl⟩ htab [⟨0, 10, 13, 21⟩] ⟨0, 10, 17, 15⟩ [] rfl (fun z hz => by rcases List.mem_singleton.mp hz with rfl; exact ⟨by decide, _, lk517_wsL_node, by decide⟩) (by decide) (by decide) lk518_wsL_node (by decide) (fun q9 uu H locs hp hP hD hS => ?_)
  refine lv_astore (lv' := [(4, .ref q9), (0, .ref o), (1, .int x0), (2, .int x1), (3, .ref out)]) hx hb dL_node_17 hl (by decide) rfl (fun ls hl => ?_)
  refine lv_iconst (v := nI 2) hx hb dL_node_19 (by decide) ?_
  exact z_iretB uu hx hb hr hlocks hS dL_node_20 hP ⟨rfl, hp⟩
abbrev rmL_typeOf : Room := { frames := 8, cells := 1, slots := 6, locals := 124 }
abbrev rmL_typeOf_k : Room := { frames := 8, cells := 0, slots := 0, locals := 124 }
theorem k_yX4_typeOf : yX4_typeOf.cls = RX4 ∧ yX4_typeOf.cls ≠ "java/lang/invoke/MethodHandle" ∧ yX4_typeOf.cls ≠ "java/lang/invoke/VarHandle" ∧ (parseMethodDescriptor yX4_typeOf.desc).map (fun d => d.parameters.length) = some 1 := by decide +kernel
set_option maxHeartbeats 4000000 in
set_option maxRecDepth 100000 in
theorem c_L_typeOf_ok {l : Launch} {D : va_G} {cy : zCy} {S : Type} {o out : Nat} {ov : Int64} {fs : List Value} {wr1 : va_W} {x0 : Int32} {post : Int32 → S → Prop} {w1 : S → va_W} (hM : zW S l yX4_typeOf wsX4_typeOf rmX4_typeOf D cy ((o, .inr (4, fs)) :: wr1) [.ref o, .int x0] post w1) (had : ∀ u, (w1 u).map Prod.fst = ((o, .inr (4, fs)) :: wr1).map Prod.fst) :
    zW (Int32 × S) l yL_typeOf wsL_typeOf rmL_typeOf_k D cy ((out, .inl (cy.2.2, 1, .inr (.inl (fun _ => ov)))) :: ((o, .inr (4, fs)) :: wr1)) [.ref o, .int x0, .ref out] (fun r u => r = nI 0 ∧ post u.1 u.2) (fun u => (out, .inl (cy.2.2, 1, .inr (.inl (fun _ => u.1.toInt64)))) :: w1 u.2) := by
  refine zW.ofH (cc := cL_typeOf) (maxL := 4) (ret := (some .int)) (hh := [(0, 9, 12, 21)]) (by decide) rfl rfl ?_
  intro p e s m below meth c ls C hP hK hD hl
  obtain ⟨hx, hb, hr, hml, hts, hown, hlocks⟩ := C
  have hS : va_S (zIn ((out, .inl (cy.2.2, 1, .inr (.inl (fun _ => ov)))) :: ((o, .inr (4, fs)) :: wr1))) s.heap s.heap [] := va_S.rf
  have hl : lv_has ls 4 [(0, .ref o), (1, .int x0), (2, .ref out)] := hl
  refine lv_aload_n hx hb dL_typeOf_0 rfl (lv_at hl 2 rfl) ?_
  refine lv_iconst (v := nI 0) hx hb dL_typeOf_1 (by decide) ?_
  refine lv_aload_n hx hb dL_typeOf_2 rfl (lv_at hl 0 rfl) ?_
  refine lv_iload_n hx hb dL_typeOf_3 rfl (lv_at hl 1 rfl) ?_
  refine z_callVW (b := o) (As := [.int x0]) (rest := [.int (nI 0), .ref out]) [(out, .inl (cy.2.2, 1, .inr (.inl (fun _ => ov))))] ⟨hx, hb, hml, hown, hts⟩ hK hP hD hS hM (cwV 1 hts gL_typeOf_X4_typeOf rfl rfl rfl k_yX4_typeOf ⟨Nat.le_of_ble_eq_true rfl, Nat.le_of_ble_eq_true rfl⟩) (List.range' 1 (wr1.length + 1)) [0] (z_rgC _ _) rfl (z_rgN _) had 1 4 rfl rfl rfl rfl hl.1 rfl rfl dL_typeOf_4 ⟨Nat.le_of_ble_eq_true rfl, Nat.le_of_ble_eq_true rfl⟩ (fun rr uu H locs hp hP hD hS => ?_)
  refine lv_i2l (v := rr.toInt64) hx hb dL_typeOf_7 rfl ?_
  refine z_last (w := w1 uu) hx hb hK hP hD hS dL_typeOf_8 (fun H locs hP hS => ?_)
  refine lv_goto (tgt := 15) hx hb dL_typeOf_9 (by decide) ?_
  refine lv_iconst (v := nI 0) hx hb dL_typeOf_15 (by decide) ?_
  exact z_iretW (rr, uu) hx hb hr hlocks hS dL_typeOf_16 hP ⟨rfl, hp⟩
set_option maxRecDepth 20000 in
theorem lk520_wsL_typeOf : Cond.classLink RL 21 "java/lang/IndexOutOfBoundsException" ∈ wsL_typeOf := by decide +kernel
set_option maxHeartbeats 4000000 in
set_option maxRecDepth 100000 in
theorem c_L_typeOf_bad1 {l : Launch} {D : va_G} {cy : zCy} {S : Type} {o out : Nat} {ov : Int64} {fs : List Value} {wr1 : va_W} {x0 : Int32} {post : S → Prop} {w1 : S → va_W} (hM : zX S l yX4_typeOf wsX4_typeOf rmX4_typeOf_t D cy ((o, .inr (4, fs)) :: wr1) [.ref o, .int x0] zIOE post w1) (had : ∀ u, (w1 u).map Prod.fst = ((o, .inr (4, fs)) :: wr1).map Prod.fst) :
    zB S l yL_typeOf wsL_typeOf rmL_typeOf D cy ((out, .inl (cy.2.2, 1, .inr (.inl (fun _ => ov)))) :: ((o, .inr (4, fs)) :: wr1)) [.ref o, .int x0, .ref out] (fun r u => r = nI 1 ∧ post u) (fun u => (out, .inl (cy.2.2, 1, .inr (.inl (fun _ => ov)))) :: w1 u) := by
  refine zB.ofH (cc := cL_typeOf) (maxL := 4) (ret := (some .int)) (hh := [(0, 9, 12, 21)]) (by decide) rfl rfl ?_
  intro p e s m below meth c ls C htab hP hK hD hTs hTh hl
  obtain ⟨hx, hb, hr, hml, hts, hown, hlocks⟩ := C
  have hS : va_S (zIn ((out, .inl (cy.2.2, 1, .inr (.inl (fun _ => ov)))) :: ((o, .inr (4, fs)) :: wr1))) s.heap s.heap [] := va_S.rf
  have hl : lv_has ls 4 [(0, .ref o), (1, .int x0), (2, .ref out)] := hl
  refine lv_aload_n hx hb dL_typeOf_0 rfl (lv_at hl 2 rfl) ?_
  refine lv_iconst (v := nI 0) hx hb dL_typeOf_1 (by decide) ?_
  refine lv_aload_n hx hb dL_typeOf_2 rfl (lv_at hl 0 rfl) ?_
  refine lv_iload_n hx hb dL_typeOf_3 rfl (lv_at hl 1 rfl) ?_
  refine z_catch (b := o) (As := [.int x0]) (rest := [.int (nI 0), .ref out]) [(out, .inl (cy.2.2, 1, .inr (.inl (fun _ => ov))))] ⟨hx, hb, hml, hown, hts⟩ hK hP hD hS hTs hTh hM (cwV 1 hts gL_typeOf_X4_typeOf rfl rfl rfl k_yX4_typeOf ⟨Nat.le_of_ble_eq_true rfl, Nat.le_of_ble_eq_true rfl⟩) (List.range' 1 (wr1.length + 1)) [0] (z_rgC _ _) rfl (z_rgN _) had 1 4 rfl rfl rfl rfl hl.1 rfl rfl dL_typeOf_4 ⟨Nat.le_of_ble_eq_true rfl, Nat.le_of_ble_eq_true rfl⟩ htab [] ⟨0, 9, 12, 21⟩ [] rfl (fun z hz => absurd hz List.not_mem_nil) (by decide) (by decide) lk520_wsL_typeOf (by decide) (fun q9 uu H locs hp hP hD hS => ?_)
  refine lv_astore_n (lv' := [(3, .ref q9), (0, .ref o), (1, .int x0), (2, .ref out)]) hx hb dL_typeOf_12 rfl hl (by decide) rfl (fun ls hl => ?_)
  refine lv_iconst (v := nI 1) hx hb dL_typeOf_13 (by decide) ?_
  exact z_iretB uu hx hb hr hlocks hS dL_typeOf_14 hP ⟨rfl, hp⟩
abbrev rmL_hops : Room := { frames := 9, cells := 1, slots := 6, locals := 170 }
abbrev rmL_hops_k : Room := { frames := 9, cells := 0, slots := 0, locals := 170 }
theorem k_yX4_hops : yX4_hops.cls = RX4 ∧ yX4_hops.cls ≠ "java/lang/invoke/MethodHandle" ∧ yX4_hops.cls ≠ "java/lang/invoke/VarHandle" ∧ (parseMethodDescriptor yX4_hops.desc).map (fun d => d.parameters.length) = some 0 := by decide +kernel
set_option maxHeartbeats 4000000 in
set_option maxRecDepth 100000 in
theorem c_L_hops_ok {l : Launch} {D : va_G} {cy : zCy} {S : Type} {o out : Nat} {ov : Int64} {fs : List Value} {wr1 : va_W} {post : Int32 → S → Prop} {w1 : S → va_W} (hM : zW S l yX4_hops wsX4_hops rmX4_hops D cy ((o, .inr (4, fs)) :: wr1) [.ref o] post w1) (had : ∀ u, (w1 u).map Prod.fst = ((o, .inr (4, fs)) :: wr1).map Prod.fst) :
    zW (Int32 × S) l yL_hops wsL_hops rmL_hops_k D cy ((out, .inl (cy.2.2, 1, .inr (.inl (fun _ => ov)))) :: ((o, .inr (4, fs)) :: wr1)) [.ref o, .ref out] (fun r u => r = nI 0 ∧ post u.1 u.2) (fun u => (out, .inl (cy.2.2, 1, .inr (.inl (fun _ => u.1.toInt64)))) :: w1 u.2) := by
  refine zW.ofH (cc := cL_hops) (maxL := 3) (ret := (some .int)) (hh := [(0, 8, 11, 15)]) (by decide) rfl rfl ?_
  intro p e s m below meth c ls C hP hK hD hl
  obtain ⟨hx, hb, hr, hml, hts, hown, hlocks⟩ := C
  have hS : va_S (zIn ((out, .inl (cy.2.2, 1, .inr (.inl (fun _ => ov)))) :: ((o, .inr (4, fs)) :: wr1))) s.heap s.heap [] := va_S.rf
  have hl : lv_has ls 3 [(0, .ref o), (1, .ref out)] := hl
  refine lv_aload_n hx hb dL_hops_0 rfl (lv_at hl 1 rfl) ?_
  refine lv_iconst (v := nI 0) hx hb dL_hops_1 (by decide) ?_
  refine lv_aload_n hx hb dL_hops_2 rfl (lv_at hl 0 rfl) ?_
  refine z_callVW (b := o) (As := []) (rest := [.int (nI 0), .ref out]) [(out, .inl (cy.2.2, 1, .inr (.inl (fun _ => ov))))] ⟨hx, hb, hml, hown, hts⟩ hK hP hD hS hM (cwV 0 hts gL_hops_X4_hops rfl rfl rfl k_yX4_hops ⟨Nat.le_of_ble_eq_true rfl, Nat.le_of_ble_eq_true rfl⟩) (List.range' 1 (wr1.length + 1)) [0] (z_rgC _ _) rfl (z_rgN _) had 1 4 rfl rfl rfl rfl hl.1 rfl rfl dL_hops_3 ⟨Nat.le_of_ble_eq_true rfl, Nat.le_of_ble_eq_true rfl⟩ (fun rr uu H locs hp hP hD hS => ?_)
  refine lv_i2l (v := rr.toInt64) hx hb dL_hops_6 rfl ?_
  refine z_last (w := w1 uu) hx hb hK hP hD hS dL_hops_7 (fun H locs hP hS => ?_)
  refine lv_goto (tgt := 14) hx hb dL_hops_8 (by decide) ?_
  refine lv_iconst (v := nI 0) hx hb dL_hops_14 (by decide) ?_
  exact z_iretW (rr, uu) hx hb hr hlocks hS dL_hops_15 hP ⟨rfl, hp⟩
set_option maxRecDepth 20000 in
theorem lk522_wsL_hops : Cond.classLink RL 15 "java/lang/IllegalStateException" ∈ wsL_hops := by decide +kernel
set_option maxHeartbeats 4000000 in
set_option maxRecDepth 100000 in
theorem c_L_hops_bad1 {l : Launch} {D : va_G} {cy : zCy} {S : Type} {o out : Nat} {ov : Int64} {fs : List Value} {wr1 : va_W} {post : S → Prop} {w1 : S → va_W} (hM : zX S l yX4_hops wsX4_hops rmX4_hops_t D cy ((o, .inr (4, fs)) :: wr1) [.ref o] zISE post w1) (had : ∀ u, (w1 u).map Prod.fst = ((o, .inr (4, fs)) :: wr1).map Prod.fst) :
    zB S l yL_hops wsL_hops rmL_hops D cy ((out, .inl (cy.2.2, 1, .inr (.inl (fun _ => ov)))) :: ((o, .inr (4, fs)) :: wr1)) [.ref o, .ref out] (fun r u => r = nI 1 ∧ post u) (fun u => (out, .inl (cy.2.2, 1, .inr (.inl (fun _ => ov)))) :: w1 u) := by
  refine zB.ofH (cc := cL_hops) (maxL := 3) (ret := (some .int)) (hh := [(0, 8, 11, 15)]) (by decide) rfl rfl ?_
  intro p e s m below meth c ls C htab hP hK hD hTs hTh hl
  obtain ⟨hx, hb, hr, hml, hts, hown, hlocks⟩ := C
  have hS : va_S (zIn ((out, .inl (cy.2.2, 1, .inr (.inl (fun _ => ov)))) :: ((o, .inr (4, fs)) :: wr1))) s.heap s.heap [] := va_S.rf
  have hl : lv_has ls 3 [(0, .ref o), (1, .ref out)] := hl
  refine lv_aload_n hx hb dL_hops_0 rfl (lv_at hl 1 rfl) ?_
  refine lv_iconst (v := nI 0) hx hb dL_hops_1 (by decide) ?_
  refine lv_aload_n hx hb dL_hops_2 rfl (lv_at hl 0 rfl) ?_
  refine z_catch (b := o) (As := []) (rest := [.int (nI 0), .ref out]) [(out, .inl (cy.2.2, 1, .inr (.inl (fun _ => ov))))] ⟨hx, hb, hml, hown, hts⟩ hK hP hD hS hTs hTh hM (cwV 0 hts gL_hops_X4_hops rfl rfl rfl k_yX4_hops ⟨Nat.le_of_ble_eq_true rfl, Nat.le_of_ble_eq_true rfl⟩) (List.range' 1 (wr1.length + 1)) [0] (z_rgC _ _) rfl (z_rgN _) had 1 4 rfl rfl rfl rfl hl.1 rfl rfl dL_hops_3 ⟨Nat.le_of_ble_eq_true rfl, Nat.le_of_ble_eq_true rfl⟩ htab [] ⟨0, 8, 11, 15⟩ [] rfl (fun z hz => absurd hz List.not_mem_nil) (by decide) (by decide) lk522_wsL_hops (by decide) (fun q9 uu H locs hp hP hD hS => ?_)
  refine lv_astore_n (lv' := [(2, .ref q9), (0, .ref o), (1, .ref out)]) hx hb dL_hops_11 rfl hl (by decide) rfl (fun ls hl => ?_)
  refine lv_iconst (v := nI 1) hx hb dL_hops_12 (by decide) ?_
  exact z_iretB uu hx hb hr hlocks hS dL_hops_13 hP ⟨rfl, hp⟩
abbrev rmL_takenFrom : Room := { frames := 9, cells := 1, slots := 6, locals := 171 }
abbrev rmL_takenFrom_k : Room := { frames := 9, cells := 0, slots := 0, locals := 171 }
theorem k_yX4_takenFrom : yX4_takenFrom.cls = RX4 ∧ yX4_takenFrom.cls ≠ "java/lang/invoke/MethodHandle" ∧ yX4_takenFrom.cls ≠ "java/lang/invoke/VarHandle" ∧ (parseMethodDescriptor yX4_takenFrom.desc).map (fun d => d.parameters.length) = some 1 := by decide +kernel
set_option maxHeartbeats 4000000 in
set_option maxRecDepth 100000 in
theorem c_L_takenFrom_ok {l : Launch} {D : va_G} {cy : zCy} {S : Type} {o out : Nat} {ov : Int64} {fs : List Value} {wr1 : va_W} {x0 : Int32} {post : Int32 → S → Prop} {w1 : S → va_W} (hM : zW S l yX4_takenFrom wsX4_takenFrom rmX4_takenFrom D cy ((o, .inr (4, fs)) :: wr1) [.ref o, .int x0] post w1) (had : ∀ u, (w1 u).map Prod.fst = ((o, .inr (4, fs)) :: wr1).map Prod.fst) :
    zW (Int32 × S) l yL_takenFrom wsL_takenFrom rmL_takenFrom_k D cy ((out, .inl (cy.2.2, 1, .inr (.inl (fun _ => ov)))) :: ((o, .inr (4, fs)) :: wr1)) [.ref o, .int x0, .ref out] (fun r u => r = nI 0 ∧ post u.1 u.2) (fun u => (out, .inl (cy.2.2, 1, .inr (.inl (fun _ => u.1.toInt64)))) :: w1 u.2) := by
  refine zW.ofH (cc := cL_takenFrom) (maxL := 4) (ret := (some .int)) (hh := [(0, 9, 12, 21), (0, 9, 15, 15)]) (by decide) rfl rfl ?_
  intro p e s m below meth c ls C hP hK hD hl
  obtain ⟨hx, hb, hr, hml, hts, hown, hlocks⟩ := C
  have hS : va_S (zIn ((out, .inl (cy.2.2, 1, .inr (.inl (fun _ => ov)))) :: ((o, .inr (4, fs)) :: wr1))) s.heap s.heap [] := va_S.rf
  have hl : lv_has ls 4 [(0, .ref o), (1, .int x0), (2, .ref out)] := hl
  refine lv_aload_n hx hb dL_takenFrom_0 rfl (lv_at hl 2 rfl) ?_
  refine lv_iconst (v := nI 0) hx hb dL_takenFrom_1 (by decide) ?_
  refine lv_aload_n hx hb dL_takenFrom_2 rfl (lv_at hl 0 rfl) ?_
  refine lv_iload_n hx hb dL_takenFrom_3 rfl (lv_at hl 1 rfl) ?_
  refine z_callVW (b := o) (As := [.int x0]) (rest := [.int (nI 0), .ref out]) [(out, .inl (cy.2.2, 1, .inr (.inl (fun _ => ov))))] ⟨hx, hb, hml, hown, hts⟩ hK hP hD hS hM (cwV 1 hts gL_takenFrom_X4_takenFrom rfl rfl rfl k_yX4_takenFrom ⟨Nat.le_of_ble_eq_true rfl, Nat.le_of_ble_eq_true rfl⟩) (List.range' 1 (wr1.length + 1)) [0] (z_rgC _ _) rfl (z_rgN _) had 1 4 rfl rfl rfl rfl hl.1 rfl rfl dL_takenFrom_4 ⟨Nat.le_of_ble_eq_true rfl, Nat.le_of_ble_eq_true rfl⟩ (fun rr uu H locs hp hP hD hS => ?_)
  refine lv_i2l (v := rr.toInt64) hx hb dL_takenFrom_7 rfl ?_
  refine z_last (w := w1 uu) hx hb hK hP hD hS dL_takenFrom_8 (fun H locs hP hS => ?_)
  refine lv_goto (tgt := 18) hx hb dL_takenFrom_9 (by decide) ?_
  refine lv_iconst (v := nI 0) hx hb dL_takenFrom_18 (by decide) ?_
  exact z_iretW (rr, uu) hx hb hr hlocks hS dL_takenFrom_19 hP ⟨rfl, hp⟩
set_option maxRecDepth 20000 in
theorem lk524_wsL_takenFrom : Cond.classLink RL 21 "java/lang/IndexOutOfBoundsException" ∈ wsL_takenFrom := by decide +kernel
set_option maxHeartbeats 4000000 in
set_option maxRecDepth 100000 in
theorem c_L_takenFrom_bad1 {l : Launch} {D : va_G} {cy : zCy} {S : Type} {o out : Nat} {ov : Int64} {fs : List Value} {wr1 : va_W} {x0 : Int32} {post : S → Prop} {w1 : S → va_W} (hM : zX S l yX4_takenFrom wsX4_takenFrom rmX4_takenFrom_t D cy ((o, .inr (4, fs)) :: wr1) [.ref o, .int x0] zIOE post w1) (had : ∀ u, (w1 u).map Prod.fst = ((o, .inr (4, fs)) :: wr1).map Prod.fst) :
    zB S l yL_takenFrom wsL_takenFrom rmL_takenFrom D cy ((out, .inl (cy.2.2, 1, .inr (.inl (fun _ => ov)))) :: ((o, .inr (4, fs)) :: wr1)) [.ref o, .int x0, .ref out] (fun r u => r = nI 1 ∧ post u) (fun u => (out, .inl (cy.2.2, 1, .inr (.inl (fun _ => ov)))) :: w1 u) := by
  refine zB.ofH (cc := cL_takenFrom) (maxL := 4) (ret := (some .int)) (hh := [(0, 9, 12, 21), (0, 9, 15, 15)]) (by decide) rfl rfl ?_
  intro p e s m below meth c ls C htab hP hK hD hTs hTh hl
  obtain ⟨hx, hb, hr, hml, hts, hown, hlocks⟩ := C
  have hS : va_S (zIn ((out, .inl (cy.2.2, 1, .inr (.inl (fun _ => ov)))) :: ((o, .inr (4, fs)) :: wr1))) s.heap s.heap [] := va_S.rf
  have hl : lv_has ls 4 [(0, .ref o), (1, .int x0), (2, .ref out)] := hl
  refine lv_aload_n hx hb dL_takenFrom_0 rfl (lv_at hl 2 rfl) ?_
  refine lv_iconst (v := nI 0) hx hb dL_takenFrom_1 (by decide) ?_
  refine lv_aload_n hx hb dL_takenFrom_2 rfl (lv_at hl 0 rfl) ?_
  refine lv_iload_n hx hb dL_takenFrom_3 rfl (lv_at hl 1 rfl) ?_
  refine z_catch (b := o) (As := [.int x0]) (rest := [.int (nI 0), .ref out]) [(out, .inl (cy.2.2, 1, .inr (.inl (fun _ => ov))))] ⟨hx, hb, hml, hown, hts⟩ hK hP hD hS hTs hTh hM (cwV 1 hts gL_takenFrom_X4_takenFrom rfl rfl rfl k_yX4_takenFrom ⟨Nat.le_of_ble_eq_true rfl, Nat.le_of_ble_eq_true rfl⟩) (List.range' 1 (wr1.length + 1)) [0] (z_rgC _ _) rfl (z_rgN _) had 1 4 rfl rfl rfl rfl hl.1 rfl rfl dL_takenFrom_4 ⟨Nat.le_of_ble_eq_true rfl, Nat.le_of_ble_eq_true rfl⟩ htab [] ⟨0, 9, 12, 21⟩ [⟨0, 9, 15, 15⟩] rfl (fun z hz => absurd hz List.not_mem_nil) (by decide) (by decide) lk524_wsL_takenFrom (by decide) (fun q9 uu H locs hp hP hD hS => ?_)
  refine lv_astore_n (lv' := [(3, .ref q9), (0, .ref o), (1, .int x0), (2, .ref out)]) hx hb dL_takenFrom_12 rfl hl (by decide) rfl (fun ls hl => ?_)
  refine lv_iconst (v := nI 1) hx hb dL_takenFrom_13 (by decide) ?_
  exact z_iretB uu hx hb hr hlocks hS dL_takenFrom_14 hP ⟨rfl, hp⟩
set_option maxRecDepth 20000 in
theorem lk525_wsL_takenFrom : Cond.classLink RL 15 "java/lang/IllegalStateException" ∈ wsL_takenFrom := by decide +kernel
set_option maxHeartbeats 4000000 in
set_option maxRecDepth 100000 in
theorem c_L_takenFrom_bad2 {l : Launch} {D : va_G} {cy : zCy} {S : Type} {o out : Nat} {ov : Int64} {fs : List Value} {wr1 : va_W} {x0 : Int32} {post : S → Prop} {w1 : S → va_W} (hM : zX S l yX4_takenFrom wsX4_takenFrom rmX4_takenFrom_t D cy ((o, .inr (4, fs)) :: wr1) [.ref o, .int x0] zISE post w1) (had : ∀ u, (w1 u).map Prod.fst = ((o, .inr (4, fs)) :: wr1).map Prod.fst) :
    zB S l yL_takenFrom wsL_takenFrom rmL_takenFrom D cy ((out, .inl (cy.2.2, 1, .inr (.inl (fun _ => ov)))) :: ((o, .inr (4, fs)) :: wr1)) [.ref o, .int x0, .ref out] (fun r u => r = nI 2 ∧ post u) (fun u => (out, .inl (cy.2.2, 1, .inr (.inl (fun _ => ov)))) :: w1 u) := by
  refine zB.ofH (cc := cL_takenFrom) (maxL := 4) (ret := (some .int)) (hh := [(0, 9, 12, 21), (0, 9, 15, 15)]) (by decide) rfl rfl ?_
  intro p e s m below meth c ls C htab hP hK hD hTs hTh hl
  obtain ⟨hx, hb, hr, hml, hts, hown, hlocks⟩ := C
  have hS : va_S (zIn ((out, .inl (cy.2.2, 1, .inr (.inl (fun _ => ov)))) :: ((o, .inr (4, fs)) :: wr1))) s.heap s.heap [] := va_S.rf
  have hl : lv_has ls 4 [(0, .ref o), (1, .int x0), (2, .ref out)] := hl
  refine lv_aload_n hx hb dL_takenFrom_0 rfl (lv_at hl 2 rfl) ?_
  refine lv_iconst (v := nI 0) hx hb dL_takenFrom_1 (by decide) ?_
  refine lv_aload_n hx hb dL_takenFrom_2 rfl (lv_at hl 0 rfl) ?_
  refine lv_iload_n hx hb dL_takenFrom_3 rfl (lv_at hl 1 rfl) ?_
  refine z_catch (b := o) (As := [.int x0]) (rest := [.int (nI 0), .ref out]) [(out, .inl (cy.2.2, 1, .inr (.inl (fun _ => ov))))] ⟨hx, hb, hml, hown, hts⟩ hK hP hD hS hTs hTh hM (cwV 1 hts gL_takenFrom_X4_takenFrom rfl rfl rfl k_yX4_takenFrom ⟨Nat.le_of_ble_eq_true rfl, Nat.le_of_ble_eq_true rfl⟩) (List.range' 1 (wr1.length + 1)) [0] (z_rgC _ _) rfl (z_rgN _) had 1 4 rfl rfl rfl rfl hl.1 rfl rfl dL_takenFrom_4 ⟨Nat.le_of_ble_eq_true rfl, Nat.le_of_ble_eq_true rfl⟩ htab [⟨0, 9, 12, 21⟩] ⟨0, 9, 15, 15⟩ [] rfl (fun z hz => by rcases List.mem_singleton.mp hz with rfl; exact ⟨by decide, _, lk524_wsL_takenFrom, by decide⟩) (by decide) (by decide) lk525_wsL_takenFrom (by decide) (fun q9 uu H locs hp hP hD hS => ?_)
  refine lv_astore_n (lv' := [(3, .ref q9), (0, .ref o), (1, .int x0), (2, .ref out)]) hx hb dL_takenFrom_15 rfl hl (by decide) rfl (fun ls hl => ?_)
  refine lv_iconst (v := nI 2) hx hb dL_takenFrom_16 (by decide) ?_
  exact z_iretB uu hx hb hr hlocks hS dL_takenFrom_17 hP ⟨rfl, hp⟩
abbrev rmL_used : Room := { frames := 9, cells := 1, slots := 6, locals := 172 }
abbrev rmL_used_k : Room := { frames := 9, cells := 0, slots := 0, locals := 172 }
theorem k_yX4_used : yX4_used.cls = RX4 ∧ yX4_used.cls ≠ "java/lang/invoke/MethodHandle" ∧ yX4_used.cls ≠ "java/lang/invoke/VarHandle" ∧ (parseMethodDescriptor yX4_used.desc).map (fun d => d.parameters.length) = some 0 := by decide +kernel
set_option maxHeartbeats 4000000 in
set_option maxRecDepth 100000 in
theorem c_L_used_ok {l : Launch} {D : va_G} {cy : zCy} {S : Type} {o out : Nat} {ov : Int64} {fs : List Value} {wr1 : va_W} {post : Int32 → S → Prop} {w1 : S → va_W} (hM : zW S l yX4_used wsX4_used rmX4_used D cy ((o, .inr (4, fs)) :: wr1) [.ref o] post w1) (had : ∀ u, (w1 u).map Prod.fst = ((o, .inr (4, fs)) :: wr1).map Prod.fst) :
    zW (Int32 × S) l yL_used wsL_used rmL_used_k D cy ((out, .inl (cy.2.2, 1, .inr (.inl (fun _ => ov)))) :: ((o, .inr (4, fs)) :: wr1)) [.ref o, .ref out] (fun r u => r = nI 0 ∧ post u.1 u.2) (fun u => (out, .inl (cy.2.2, 1, .inr (.inl (fun _ => u.1.toInt64)))) :: w1 u.2) := by
  refine zW.ofH (cc := cL_used) (maxL := 3) (ret := (some .int)) (hh := [(0, 8, 11, 15)]) (by decide) rfl rfl ?_
  intro p e s m below meth c ls C hP hK hD hl
  obtain ⟨hx, hb, hr, hml, hts, hown, hlocks⟩ := C
  have hS : va_S (zIn ((out, .inl (cy.2.2, 1, .inr (.inl (fun _ => ov)))) :: ((o, .inr (4, fs)) :: wr1))) s.heap s.heap [] := va_S.rf
  have hl : lv_has ls 3 [(0, .ref o), (1, .ref out)] := hl
  refine lv_aload_n hx hb dL_used_0 rfl (lv_at hl 1 rfl) ?_
  refine lv_iconst (v := nI 0) hx hb dL_used_1 (by decide) ?_
  refine lv_aload_n hx hb dL_used_2 rfl (lv_at hl 0 rfl) ?_
  refine z_callVW (b := o) (As := []) (rest := [.int (nI 0), .ref out]) [(out, .inl (cy.2.2, 1, .inr (.inl (fun _ => ov))))] ⟨hx, hb, hml, hown, hts⟩ hK hP hD hS hM (cwV 0 hts gL_used_X4_used rfl rfl rfl k_yX4_used ⟨Nat.le_of_ble_eq_true rfl, Nat.le_of_ble_eq_true rfl⟩) (List.range' 1 (wr1.length + 1)) [0] (z_rgC _ _) rfl (z_rgN _) had 1 4 rfl rfl rfl rfl hl.1 rfl rfl dL_used_3 ⟨Nat.le_of_ble_eq_true rfl, Nat.le_of_ble_eq_true rfl⟩ (fun rr uu H locs hp hP hD hS => ?_)
  refine lv_i2l (v := rr.toInt64) hx hb dL_used_6 rfl ?_
  refine z_last (w := w1 uu) hx hb hK hP hD hS dL_used_7 (fun H locs hP hS => ?_)
  refine lv_goto (tgt := 14) hx hb dL_used_8 (by decide) ?_
  refine lv_iconst (v := nI 0) hx hb dL_used_14 (by decide) ?_
  exact z_iretW (rr, uu) hx hb hr hlocks hS dL_used_15 hP ⟨rfl, hp⟩
set_option maxRecDepth 20000 in
theorem lk527_wsL_used : Cond.classLink RL 15 "java/lang/IllegalStateException" ∈ wsL_used := by decide +kernel
set_option maxHeartbeats 4000000 in
set_option maxRecDepth 100000 in
theorem c_L_used_bad1 {l : Launch} {D : va_G} {cy : zCy} {S : Type} {o out : Nat} {ov : Int64} {fs : List Value} {wr1 : va_W} {post : S → Prop} {w1 : S → va_W} (hM : zX S l yX4_used wsX4_used rmX4_used_t D cy ((o, .inr (4, fs)) :: wr1) [.ref o] zISE post w1) (had : ∀ u, (w1 u).map Prod.fst = ((o, .inr (4, fs)) :: wr1).map Prod.fst) :
    zB S l yL_used wsL_used rmL_used D cy ((out, .inl (cy.2.2, 1, .inr (.inl (fun _ => ov)))) :: ((o, .inr (4, fs)) :: wr1)) [.ref o, .ref out] (fun r u => r = nI 1 ∧ post u) (fun u => (out, .inl (cy.2.2, 1, .inr (.inl (fun _ => ov)))) :: w1 u) := by
  refine zB.ofH (cc := cL_used) (maxL := 3) (ret := (some .int)) (hh := [(0, 8, 11, 15)]) (by decide) rfl rfl ?_
  intro p e s m below meth c ls C htab hP hK hD hTs hTh hl
  obtain ⟨hx, hb, hr, hml, hts, hown, hlocks⟩ := C
  have hS : va_S (zIn ((out, .inl (cy.2.2, 1, .inr (.inl (fun _ => ov)))) :: ((o, .inr (4, fs)) :: wr1))) s.heap s.heap [] := va_S.rf
  have hl : lv_has ls 3 [(0, .ref o), (1, .ref out)] := hl
  refine lv_aload_n hx hb dL_used_0 rfl (lv_at hl 1 rfl) ?_
  refine lv_iconst (v := nI 0) hx hb dL_used_1 (by decide) ?_
  refine lv_aload_n hx hb dL_used_2 rfl (lv_at hl 0 rfl) ?_
  refine z_catch (b := o) (As := []) (rest := [.int (nI 0), .ref out]) [(out, .inl (cy.2.2, 1, .inr (.inl (fun _ => ov))))] ⟨hx, hb, hml, hown, hts⟩ hK hP hD hS hTs hTh hM (cwV 0 hts gL_used_X4_used rfl rfl rfl k_yX4_used ⟨Nat.le_of_ble_eq_true rfl, Nat.le_of_ble_eq_true rfl⟩) (List.range' 1 (wr1.length + 1)) [0] (z_rgC _ _) rfl (z_rgN _) had 1 4 rfl rfl rfl rfl hl.1 rfl rfl dL_used_3 ⟨Nat.le_of_ble_eq_true rfl, Nat.le_of_ble_eq_true rfl⟩ htab [] ⟨0, 8, 11, 15⟩ [] rfl (fun z hz => absurd hz List.not_mem_nil) (by decide) (by decide) lk527_wsL_used (by decide) (fun q9 uu H locs hp hP hD hS => ?_)
  refine lv_astore_n (lv' := [(2, .ref q9), (0, .ref o), (1, .ref out)]) hx hb dL_used_11 rfl hl (by decide) rfl (fun ls hl => ?_)
  refine lv_iconst (v := nI 1) hx hb dL_used_12 (by decide) ?_
  exact z_iretB uu hx hb hr hlocks hS dL_used_13 hP ⟨rfl, hp⟩
abbrev rmL_value : Room := { frames := 10, cells := 1, slots := 6, locals := 192 }
abbrev rmL_value_k : Room := { frames := 10, cells := 0, slots := 0, locals := 192 }
theorem k_yX4_value : yX4_value.cls = RX4 ∧ yX4_value.cls ≠ "java/lang/invoke/MethodHandle" ∧ yX4_value.cls ≠ "java/lang/invoke/VarHandle" ∧ (parseMethodDescriptor yX4_value.desc).map (fun d => d.parameters.length) = some 2 := by decide +kernel
set_option maxHeartbeats 4000000 in
set_option maxRecDepth 100000 in
theorem c_L_value_ok {l : Launch} {D : va_G} {cy : zCy} {S : Type} {o out : Nat} {ov : Int64} {fs : List Value} {wr1 : va_W} {x0 x1 : Int32} {post : Int32 → S → Prop} {w1 : S → va_W} (hM : zW S l yX4_value wsX4_value rmX4_value D cy ((o, .inr (4, fs)) :: wr1) [.ref o, .int x0, .int x1] post w1) (had : ∀ u, (w1 u).map Prod.fst = ((o, .inr (4, fs)) :: wr1).map Prod.fst) :
    zW (Int32 × S) l yL_value wsL_value rmL_value_k D cy ((out, .inl (cy.2.2, 1, .inr (.inl (fun _ => ov)))) :: ((o, .inr (4, fs)) :: wr1)) [.ref o, .int x0, .int x1, .ref out] (fun r u => r = nI 0 ∧ post u.1 u.2) (fun u => (out, .inl (cy.2.2, 1, .inr (.inl (fun _ => u.1.toInt64)))) :: w1 u.2) := by
  refine zW.ofH (cc := cL_value) (maxL := 5) (ret := (some .int)) (hh := [(0, 10, 13, 13), (0, 10, 17, 21), (0, 10, 21, 15)]) (by decide) rfl rfl ?_
  intro p e s m below meth c ls C hP hK hD hl
  obtain ⟨hx, hb, hr, hml, hts, hown, hlocks⟩ := C
  have hS : va_S (zIn ((out, .inl (cy.2.2, 1, .inr (.inl (fun _ => ov)))) :: ((o, .inr (4, fs)) :: wr1))) s.heap s.heap [] := va_S.rf
  have hl : lv_has ls 5 [(0, .ref o), (1, .int x0), (2, .int x1), (3, .ref out)] := hl
  refine lv_aload_n hx hb dL_value_0 rfl (lv_at hl 3 rfl) ?_
  refine lv_iconst (v := nI 0) hx hb dL_value_1 (by decide) ?_
  refine lv_aload_n hx hb dL_value_2 rfl (lv_at hl 0 rfl) ?_
  refine lv_iload_n hx hb dL_value_3 rfl (lv_at hl 1 rfl) ?_
  refine lv_iload_n hx hb dL_value_4 rfl (lv_at hl 2 rfl) ?_
  refine z_callVW (b := o) (As := [.int x0, .int x1]) (rest := [.int (nI 0), .ref out]) [(out, .inl (cy.2.2, 1, .inr (.inl (fun _ => ov))))] ⟨hx, hb, hml, hown, hts⟩ hK hP hD hS hM (cwV 2 hts gL_value_X4_value rfl rfl rfl k_yX4_value ⟨Nat.le_of_ble_eq_true rfl, Nat.le_of_ble_eq_true rfl⟩) (List.range' 1 (wr1.length + 1)) [0] (z_rgC _ _) rfl (z_rgN _) had 1 4 rfl rfl rfl rfl hl.1 rfl rfl dL_value_5 ⟨Nat.le_of_ble_eq_true rfl, Nat.le_of_ble_eq_true rfl⟩ (fun rr uu H locs hp hP hD hS => ?_)
  refine lv_i2l (v := rr.toInt64) hx hb dL_value_8 rfl ?_
  refine z_last (w := w1 uu) hx hb hK hP hD hS dL_value_9 (fun H locs hP hS => ?_)
  refine lv_goto (tgt := 25) hx hb dL_value_10 (by decide) ?_
  refine lv_iconst (v := nI 0) hx hb dL_value_25 (by decide) ?_
  exact z_iretW (rr, uu) hx hb hr hlocks hS dL_value_26 hP ⟨rfl, hp⟩
set_option maxRecDepth 20000 in
theorem lk529_wsL_value : Cond.classLink RL 13 "java/lang/IllegalArgumentException" ∈ wsL_value := by decide +kernel
set_option maxHeartbeats 4000000 in
set_option maxRecDepth 100000 in
theorem c_L_value_bad1 {l : Launch} {D : va_G} {cy : zCy} {S : Type} {o out : Nat} {ov : Int64} {fs : List Value} {wr1 : va_W} {x0 x1 : Int32} {post : S → Prop} {w1 : S → va_W} (hM : zX S l yX4_value wsX4_value rmX4_value_t D cy ((o, .inr (4, fs)) :: wr1) [.ref o, .int x0, .int x1] zIAE post w1) (had : ∀ u, (w1 u).map Prod.fst = ((o, .inr (4, fs)) :: wr1).map Prod.fst) :
    zB S l yL_value wsL_value rmL_value D cy ((out, .inl (cy.2.2, 1, .inr (.inl (fun _ => ov)))) :: ((o, .inr (4, fs)) :: wr1)) [.ref o, .int x0, .int x1, .ref out] (fun r u => r = nI 1 ∧ post u) (fun u => (out, .inl (cy.2.2, 1, .inr (.inl (fun _ => ov)))) :: w1 u) := by
  refine zB.ofH (cc := cL_value) (maxL := 5) (ret := (some .int)) (hh := [(0, 10, 13, 13), (0, 10, 17, 21), (0, 10, 21, 15)]) (by decide) rfl rfl ?_
  intro p e s m below meth c ls C htab hP hK hD hTs hTh hl
  obtain ⟨hx, hb, hr, hml, hts, hown, hlocks⟩ := C
  have hS : va_S (zIn ((out, .inl (cy.2.2, 1, .inr (.inl (fun _ => ov)))) :: ((o, .inr (4, fs)) :: wr1))) s.heap s.heap [] := va_S.rf
  have hl : lv_has ls 5 [(0, .ref o), (1, .int x0), (2, .int x1), (3, .ref out)] := hl
  refine lv_aload_n hx hb dL_value_0 rfl (lv_at hl 3 rfl) ?_
  refine lv_iconst (v := nI 0) hx hb dL_value_1 (by decide) ?_
  refine lv_aload_n hx hb dL_value_2 rfl (lv_at hl 0 rfl) ?_
  refine lv_iload_n hx hb dL_value_3 rfl (lv_at hl 1 rfl) ?_
  refine lv_iload_n hx hb dL_value_4 rfl (lv_at hl 2 rfl) ?_
  refine z_catch (b := o) (As := [.int x0, .int x1]) (rest := [.int (nI 0), .ref out]) [(out, .inl (cy.2.2, 1, .inr (.inl (fun _ => ov))))] ⟨hx, hb, hml, hown, hts⟩ hK hP hD hS hTs hTh hM (cwV 2 hts gL_value_X4_value rfl rfl rfl k_yX4_value ⟨Nat.le_of_ble_eq_true rfl, Nat.le_of_ble_eq_true rfl⟩) (List.range' 1 (wr1.length + 1)) [0] (z_rgC _ _) rfl (z_rgN _) had 1 4 rfl rfl rfl rfl hl.1 rfl rfl dL_value_5 ⟨Nat.le_of_ble_eq_true rfl, Nat.le_of_ble_eq_true rfl⟩ htab [] ⟨0, 10, 13, 13⟩ [⟨0, 10, 17, 21⟩, ⟨0, 10, 21, 15⟩] rfl (fun z hz => absurd hz List.not_mem_nil) (by decide) (by decide) lk529_wsL_value (by decide) (fun q9 uu H locs hp hP hD hS => ?_)
  refine lv_astore (lv' := [(4, .ref q9), (0, .ref o), (1, .int x0), (2, .int x1), (3, .ref out)]) hx hb dL_value_13 hl (by decide) rfl (fun ls hl => ?_)
  refine lv_iconst (v := nI 1) hx hb dL_value_15 (by decide) ?_
  exact z_iretB uu hx hb hr hlocks hS dL_value_16 hP ⟨rfl, hp⟩
set_option maxRecDepth 20000 in
theorem lk530_wsL_value : Cond.classLink RL 21 "java/lang/IndexOutOfBoundsException" ∈ wsL_value := by decide +kernel
set_option maxHeartbeats 4000000 in
set_option maxRecDepth 100000 in
theorem c_L_value_bad2 {l : Launch} {D : va_G} {cy : zCy} {S : Type} {o out : Nat} {ov : Int64} {fs : List Value} {wr1 : va_W} {x0 x1 : Int32} {post : S → Prop} {w1 : S → va_W} (hM : zX S l yX4_value wsX4_value rmX4_value_t D cy ((o, .inr (4, fs)) :: wr1) [.ref o, .int x0, .int x1] zIOE post w1) (had : ∀ u, (w1 u).map Prod.fst = ((o, .inr (4, fs)) :: wr1).map Prod.fst) :
    zB S l yL_value wsL_value rmL_value D cy ((out, .inl (cy.2.2, 1, .inr (.inl (fun _ => ov)))) :: ((o, .inr (4, fs)) :: wr1)) [.ref o, .int x0, .int x1, .ref out] (fun r u => r = nI 2 ∧ post u) (fun u => (out, .inl (cy.2.2, 1, .inr (.inl (fun _ => ov)))) :: w1 u) := by
  refine zB.ofH (cc := cL_value) (maxL := 5) (ret := (some .int)) (hh := [(0, 10, 13, 13), (0, 10, 17, 21), (0, 10, 21, 15)]) (by decide) rfl rfl ?_
  intro p e s m below meth c ls C htab hP hK hD hTs hTh hl
  obtain ⟨hx, hb, hr, hml, hts, hown, hlocks⟩ := C
  have hS : va_S (zIn ((out, .inl (cy.2.2, 1, .inr (.inl (fun _ => ov)))) :: ((o, .inr (4, fs)) :: wr1))) s.heap s.heap [] := va_S.rf
  have hl : lv_has ls 5 [(0, .ref o), (1, .int x0), (2, .int x1), (3, .ref out)] := hl
  refine lv_aload_n hx hb dL_value_0 rfl (lv_at hl 3 rfl) ?_
  refine lv_iconst (v := nI 0) hx hb dL_value_1 (by decide) ?_
  refine lv_aload_n hx hb dL_value_2 rfl (lv_at hl 0 rfl) ?_
  refine lv_iload_n hx hb dL_value_3 rfl (lv_at hl 1 rfl) ?_
  refine lv_iload_n hx hb dL_value_4 rfl (lv_at hl 2 rfl) ?_
  refine z_catch (b := o) (As := [.int x0, .int x1]) (rest := [.int (nI 0), .ref out]) [(out, .inl (cy.2.2, 1, .inr (.inl (fun _ => ov))))] ⟨hx, hb, hml, hown, hts⟩ hK hP hD hS hTs hTh hM (cwV 2 hts gL_value_X4_value rfl rfl rfl k_yX4_value ⟨Nat.le_of_ble_eq_true rfl, Nat.le_of_ble_eq_true rfl⟩) (List.range' 1 (wr1.length + 1)) [0] (z_rgC _ _) rfl (z_rgN _) had 1 4 rfl rfl rfl rfl hl.1 rfl rfl dL_value_5 ⟨Nat.le_of_ble_eq_true rfl, Nat.le_of_ble_eq_true rfl⟩ htab [⟨0, 10, 13, 13⟩] ⟨0, 10, 17, 21⟩ [⟨0, 10, 21, 15⟩] rfl (fun z hz => by rcases List.mem_singleton.mp hz with rfl; exact ⟨by decide, _, lk529_wsL_value, by decide⟩) (by decide) (by decide) lk530_wsL_value (by decide) (fun q9 uu H locs hp hP hD hS => ?_)
  refine lv_astore (lv' := [(4, .ref q9), (0, .ref o), (1, .int x0), (2, .int x1), (3, .ref out)]) hx hb dL_value_17 hl (by decide) rfl (fun ls hl => ?_)
  refine lv_iconst (v := nI 2) hx hb dL_value_19 (by decide) ?_
  exact z_iretB uu hx hb hr hlocks hS dL_value_20 hP ⟨rfl, hp⟩
set_option maxRecDepth 20000 in
theorem lk531_wsL_value : Cond.classLink RL 15 "java/lang/IllegalStateException" ∈ wsL_value := by decide +kernel
set_option maxHeartbeats 4000000 in
set_option maxRecDepth 100000 in
theorem c_L_value_bad3 {l : Launch} {D : va_G} {cy : zCy} {S : Type} {o out : Nat} {ov : Int64} {fs : List Value} {wr1 : va_W} {x0 x1 : Int32} {post : S → Prop} {w1 : S → va_W} (hM : zX S l yX4_value wsX4_value rmX4_value_t D cy ((o, .inr (4, fs)) :: wr1) [.ref o, .int x0, .int x1] zISE post w1) (had : ∀ u, (w1 u).map Prod.fst = ((o, .inr (4, fs)) :: wr1).map Prod.fst) :
    zB S l yL_value wsL_value rmL_value D cy ((out, .inl (cy.2.2, 1, .inr (.inl (fun _ => ov)))) :: ((o, .inr (4, fs)) :: wr1)) [.ref o, .int x0, .int x1, .ref out] (fun r u => r = nI 3 ∧ post u) (fun u => (out, .inl (cy.2.2, 1, .inr (.inl (fun _ => ov)))) :: w1 u) := by
  refine zB.ofH (cc := cL_value) (maxL := 5) (ret := (some .int)) (hh := [(0, 10, 13, 13), (0, 10, 17, 21), (0, 10, 21, 15)]) (by decide) rfl rfl ?_
  intro p e s m below meth c ls C htab hP hK hD hTs hTh hl
  obtain ⟨hx, hb, hr, hml, hts, hown, hlocks⟩ := C
  have hS : va_S (zIn ((out, .inl (cy.2.2, 1, .inr (.inl (fun _ => ov)))) :: ((o, .inr (4, fs)) :: wr1))) s.heap s.heap [] := va_S.rf
  have hl : lv_has ls 5 [(0, .ref o), (1, .int x0), (2, .int x1), (3, .ref out)] := hl
  refine lv_aload_n hx hb dL_value_0 rfl (lv_at hl 3 rfl) ?_
  refine lv_iconst (v := nI 0) hx hb dL_value_1 (by decide) ?_
  refine lv_aload_n hx hb dL_value_2 rfl (lv_at hl 0 rfl) ?_
  refine lv_iload_n hx hb dL_value_3 rfl (lv_at hl 1 rfl) ?_
  refine lv_iload_n hx hb dL_value_4 rfl (lv_at hl 2 rfl) ?_
  refine z_catch (b := o) (As := [.int x0, .int x1]) (rest := [.int (nI 0), .ref out]) [(out, .inl (cy.2.2, 1, .inr (.inl (fun _ => ov))))] ⟨hx, hb, hml, hown, hts⟩ hK hP hD hS hTs hTh hM (cwV 2 hts gL_value_X4_value rfl rfl rfl k_yX4_value ⟨Nat.le_of_ble_eq_true rfl, Nat.le_of_ble_eq_true rfl⟩) (List.range' 1 (wr1.length + 1)) [0] (z_rgC _ _) rfl (z_rgN _) had 1 4 rfl rfl rfl rfl hl.1 rfl rfl dL_value_5 ⟨Nat.le_of_ble_eq_true rfl, Nat.le_of_ble_eq_true rfl⟩ htab [⟨0, 10, 13, 13⟩, ⟨0, 10, 17, 21⟩] ⟨0, 10, 21, 15⟩ [] rfl (fun z hz => by rcases List.mem_cons.mp hz with rfl | hz; exact ⟨by decide, _, lk529_wsL_value, by decide⟩; rcases List.mem_singleton.mp hz with rfl; exact ⟨by decide, _, lk530_wsL_value, by decide⟩) (by decide) (by decide) lk531_wsL_value (by decide) (fun q9 uu H locs hp hP hD hS => ?_)
  refine lv_astore (lv' := [(4, .ref q9), (0, .ref o), (1, .int x0), (2, .int x1), (3, .ref out)]) hx hb dL_value_21 hl (by decide) rfl (fun ls hl => ?_)
  refine lv_iconst (v := nI 3) hx hb dL_value_23 (by decide) ?_
  exact z_iretB uu hx hb hr hlocks hS dL_value_24 hP ⟨rfl, hp⟩
abbrev rmL_isMissing : Room := { frames := 10, cells := 1, slots := 6, locals := 191 }
abbrev rmL_isMissing_k : Room := { frames := 10, cells := 0, slots := 0, locals := 191 }
theorem k_yX4_isMissing : yX4_isMissing.cls = RX4 ∧ yX4_isMissing.cls ≠ "java/lang/invoke/MethodHandle" ∧ yX4_isMissing.cls ≠ "java/lang/invoke/VarHandle" ∧ (parseMethodDescriptor yX4_isMissing.desc).map (fun d => d.parameters.length) = some 1 := by decide +kernel
set_option maxHeartbeats 4000000 in
set_option maxRecDepth 100000 in
theorem c_L_isMissing_ok {l : Launch} {D : va_G} {cy : zCy} {S : Type} {o out : Nat} {ov : Int64} {fs : List Value} {wr1 : va_W} {x0 : Int32} {post : Int32 → S → Prop} {w1 : S → va_W} (hM : zW S l yX4_isMissing wsX4_isMissing rmX4_isMissing D cy ((o, .inr (4, fs)) :: wr1) [.ref o, .int x0] post w1) (had : ∀ u, (w1 u).map Prod.fst = ((o, .inr (4, fs)) :: wr1).map Prod.fst) :
    zW (Int32 × S) l yL_isMissing wsL_isMissing rmL_isMissing_k D cy ((out, .inl (cy.2.2, 1, .inr (.inl (fun _ => ov)))) :: ((o, .inr (4, fs)) :: wr1)) [.ref o, .int x0, .ref out] (fun r u => r = nI 0 ∧ post u.1 u.2) (fun u => (out, .inl (cy.2.2, 1, .inr (.inl (fun _ => (if u.1 = 0 then 0 else 1))))) :: w1 u.2) := by
  refine zW.ofH (cc := cL_isMissing) (maxL := 4) (ret := (some .int)) (hh := [(0, 16, 19, 13), (0, 16, 22, 15)]) (by decide) rfl rfl ?_
  intro p e s m below meth c ls C hP hK hD hl
  obtain ⟨hx, hb, hr, hml, hts, hown, hlocks⟩ := C
  have hS : va_S (zIn ((out, .inl (cy.2.2, 1, .inr (.inl (fun _ => ov)))) :: ((o, .inr (4, fs)) :: wr1))) s.heap s.heap [] := va_S.rf
  have hl : lv_has ls 4 [(0, .ref o), (1, .int x0), (2, .ref out)] := hl
  refine lv_aload_n hx hb dL_isMissing_0 rfl (lv_at hl 2 rfl) ?_
  refine lv_iconst (v := nI 0) hx hb dL_isMissing_1 (by decide) ?_
  refine lv_aload_n hx hb dL_isMissing_2 rfl (lv_at hl 0 rfl) ?_
  refine lv_iload_n hx hb dL_isMissing_3 rfl (lv_at hl 1 rfl) ?_
  refine z_callVW (b := o) (As := [.int x0]) (rest := [.int (nI 0), .ref out]) [(out, .inl (cy.2.2, 1, .inr (.inl (fun _ => ov))))] ⟨hx, hb, hml, hown, hts⟩ hK hP hD hS hM (cwV 1 hts gL_isMissing_X4_isMissing rfl rfl rfl k_yX4_isMissing ⟨Nat.le_of_ble_eq_true rfl, Nat.le_of_ble_eq_true rfl⟩) (List.range' 1 (wr1.length + 1)) [0] (z_rgC _ _) rfl (z_rgN _) had 1 4 rfl rfl rfl rfl hl.1 rfl rfl dL_isMissing_4 ⟨Nat.le_of_ble_eq_true rfl, Nat.le_of_ble_eq_true rfl⟩ (fun rr uu H locs hp hP hD hS => ?_)
  refine lv_if_eq (tgt := 14) hx hb dL_isMissing_7 (by decide) (fun cb => ?_) (fun cb => ?_)
  · refine lv_lconst (v := 0) hx hb dL_isMissing_14 rfl ?_
    refine z_last (w := w1 uu) hx hb hK hP hD hS dL_isMissing_15 (fun H locs hP hS => ?_)
    refine lv_goto (tgt := 25) hx hb dL_isMissing_16 (by decide) ?_
    refine lv_iconst (v := nI 0) hx hb dL_isMissing_25 (by decide) ?_
    exact z_iretW (rr, uu) hx hb hr hlocks hS dL_isMissing_26 (by show va_P D vwCl ((out, .inl (cy.2.2, 1, .inr (.inl (fun _ => if rr = 0 then 0 else 1)))) :: w1 uu) H; rw [if_pos cb]; exact hP) ⟨rfl, hp⟩
  · refine lv_lconst (v := 1) hx hb dL_isMissing_10 rfl ?_
    refine lv_goto (tgt := 15) hx hb dL_isMissing_11 (by decide) ?_
    refine z_last (w := w1 uu) hx hb hK hP hD hS dL_isMissing_15 (fun H locs hP hS => ?_)
    refine lv_goto (tgt := 25) hx hb dL_isMissing_16 (by decide) ?_
    refine lv_iconst (v := nI 0) hx hb dL_isMissing_25 (by decide) ?_
    exact z_iretW (rr, uu) hx hb hr hlocks hS dL_isMissing_26 (by show va_P D vwCl ((out, .inl (cy.2.2, 1, .inr (.inl (fun _ => if rr = 0 then 0 else 1)))) :: w1 uu) H; rw [if_neg cb]; exact hP) ⟨rfl, hp⟩
set_option maxRecDepth 20000 in
theorem lk533_wsL_isMissing : Cond.classLink RL 13 "java/lang/IllegalArgumentException" ∈ wsL_isMissing := by decide +kernel
set_option maxHeartbeats 4000000 in
set_option maxRecDepth 100000 in
theorem c_L_isMissing_bad1 {l : Launch} {D : va_G} {cy : zCy} {S : Type} {o out : Nat} {ov : Int64} {fs : List Value} {wr1 : va_W} {x0 : Int32} {post : S → Prop} {w1 : S → va_W} (hM : zX S l yX4_isMissing wsX4_isMissing rmX4_isMissing_t D cy ((o, .inr (4, fs)) :: wr1) [.ref o, .int x0] zIAE post w1) (had : ∀ u, (w1 u).map Prod.fst = ((o, .inr (4, fs)) :: wr1).map Prod.fst) :
    zB S l yL_isMissing wsL_isMissing rmL_isMissing D cy ((out, .inl (cy.2.2, 1, .inr (.inl (fun _ => ov)))) :: ((o, .inr (4, fs)) :: wr1)) [.ref o, .int x0, .ref out] (fun r u => r = nI 1 ∧ post u) (fun u => (out, .inl (cy.2.2, 1, .inr (.inl (fun _ => ov)))) :: w1 u) := by
  refine zB.ofH (cc := cL_isMissing) (maxL := 4) (ret := (some .int)) (hh := [(0, 16, 19, 13), (0, 16, 22, 15)]) (by decide) rfl rfl ?_
  intro p e s m below meth c ls C htab hP hK hD hTs hTh hl
  obtain ⟨hx, hb, hr, hml, hts, hown, hlocks⟩ := C
  have hS : va_S (zIn ((out, .inl (cy.2.2, 1, .inr (.inl (fun _ => ov)))) :: ((o, .inr (4, fs)) :: wr1))) s.heap s.heap [] := va_S.rf
  have hl : lv_has ls 4 [(0, .ref o), (1, .int x0), (2, .ref out)] := hl
  refine lv_aload_n hx hb dL_isMissing_0 rfl (lv_at hl 2 rfl) ?_
  refine lv_iconst (v := nI 0) hx hb dL_isMissing_1 (by decide) ?_
  refine lv_aload_n hx hb dL_isMissing_2 rfl (lv_at hl 0 rfl) ?_
  refine lv_iload_n hx hb dL_isMissing_3 rfl (lv_at hl 1 rfl) ?_
  refine z_catch (b := o) (As := [.int x0]) (rest := [.int (nI 0), .ref out]) [(out, .inl (cy.2.2, 1, .inr (.inl (fun _ => ov))))] ⟨hx, hb, hml, hown, hts⟩ hK hP hD hS hTs hTh hM (cwV 1 hts gL_isMissing_X4_isMissing rfl rfl rfl k_yX4_isMissing ⟨Nat.le_of_ble_eq_true rfl, Nat.le_of_ble_eq_true rfl⟩) (List.range' 1 (wr1.length + 1)) [0] (z_rgC _ _) rfl (z_rgN _) had 1 4 rfl rfl rfl rfl hl.1 rfl rfl dL_isMissing_4 ⟨Nat.le_of_ble_eq_true rfl, Nat.le_of_ble_eq_true rfl⟩ htab [] ⟨0, 16, 19, 13⟩ [⟨0, 16, 22, 15⟩] rfl (fun z hz => absurd hz List.not_mem_nil) (by decide) (by decide) lk533_wsL_isMissing (by decide) (fun q9 uu H locs hp hP hD hS => ?_)
  refine lv_astore_n (lv' := [(3, .ref q9), (0, .ref o), (1, .int x0), (2, .ref out)]) hx hb dL_isMissing_19 rfl hl (by decide) rfl (fun ls hl => ?_)
  refine lv_iconst (v := nI 1) hx hb dL_isMissing_20 (by decide) ?_
  exact z_iretB uu hx hb hr hlocks hS dL_isMissing_21 hP ⟨rfl, hp⟩
set_option maxRecDepth 20000 in
theorem lk534_wsL_isMissing : Cond.classLink RL 15 "java/lang/IllegalStateException" ∈ wsL_isMissing := by decide +kernel
set_option maxHeartbeats 4000000 in
set_option maxRecDepth 100000 in
theorem c_L_isMissing_bad2 {l : Launch} {D : va_G} {cy : zCy} {S : Type} {o out : Nat} {ov : Int64} {fs : List Value} {wr1 : va_W} {x0 : Int32} {post : S → Prop} {w1 : S → va_W} (hM : zX S l yX4_isMissing wsX4_isMissing rmX4_isMissing_t D cy ((o, .inr (4, fs)) :: wr1) [.ref o, .int x0] zISE post w1) (had : ∀ u, (w1 u).map Prod.fst = ((o, .inr (4, fs)) :: wr1).map Prod.fst) :
    zB S l yL_isMissing wsL_isMissing rmL_isMissing D cy ((out, .inl (cy.2.2, 1, .inr (.inl (fun _ => ov)))) :: ((o, .inr (4, fs)) :: wr1)) [.ref o, .int x0, .ref out] (fun r u => r = nI 2 ∧ post u) (fun u => (out, .inl (cy.2.2, 1, .inr (.inl (fun _ => ov)))) :: w1 u) := by
  refine zB.ofH (cc := cL_isMissing) (maxL := 4) (ret := (some .int)) (hh := [(0, 16, 19, 13), (0, 16, 22, 15)]) (by decide) rfl rfl ?_
  intro p e s m below meth c ls C htab hP hK hD hTs hTh hl
  obtain ⟨hx, hb, hr, hml, hts, hown, hlocks⟩ := C
  have hS : va_S (zIn ((out, .inl (cy.2.2, 1, .inr (.inl (fun _ => ov)))) :: ((o, .inr (4, fs)) :: wr1))) s.heap s.heap [] := va_S.rf
  have hl : lv_has ls 4 [(0, .ref o), (1, .int x0), (2, .ref out)] := hl
  refine lv_aload_n hx hb dL_isMissing_0 rfl (lv_at hl 2 rfl) ?_
  refine lv_iconst (v := nI 0) hx hb dL_isMissing_1 (by decide) ?_
  refine lv_aload_n hx hb dL_isMissing_2 rfl (lv_at hl 0 rfl) ?_
  refine lv_iload_n hx hb dL_isMissing_3 rfl (lv_at hl 1 rfl) ?_
  refine z_catch (b := o) (As := [.int x0]) (rest := [.int (nI 0), .ref out]) [(out, .inl (cy.2.2, 1, .inr (.inl (fun _ => ov))))] ⟨hx, hb, hml, hown, hts⟩ hK hP hD hS hTs hTh hM (cwV 1 hts gL_isMissing_X4_isMissing rfl rfl rfl k_yX4_isMissing ⟨Nat.le_of_ble_eq_true rfl, Nat.le_of_ble_eq_true rfl⟩) (List.range' 1 (wr1.length + 1)) [0] (z_rgC _ _) rfl (z_rgN _) had 1 4 rfl rfl rfl rfl hl.1 rfl rfl dL_isMissing_4 ⟨Nat.le_of_ble_eq_true rfl, Nat.le_of_ble_eq_true rfl⟩ htab [⟨0, 16, 19, 13⟩] ⟨0, 16, 22, 15⟩ [] rfl (fun z hz => by rcases List.mem_singleton.mp hz with rfl; exact ⟨by decide, _, lk533_wsL_isMissing, by decide⟩) (by decide) (by decide) lk534_wsL_isMissing (by decide) (fun q9 uu H locs hp hP hD hS => ?_)
  refine lv_astore_n (lv' := [(3, .ref q9), (0, .ref o), (1, .int x0), (2, .ref out)]) hx hb dL_isMissing_22 rfl hl (by decide) rfl (fun ls hl => ?_)
  refine lv_iconst (v := nI 2) hx hb dL_isMissing_23 (by decide) ?_
  exact z_iretB uu hx hb hr hlocks hS dL_isMissing_24 hP ⟨rfl, hp⟩
abbrev rmL_faults : Room := { frames := 10, cells := 1, slots := 6, locals := 191 }
abbrev rmL_faults_k : Room := { frames := 10, cells := 0, slots := 0, locals := 191 }
theorem k_yX4_faults : yX4_faults.cls = RX4 ∧ yX4_faults.cls ≠ "java/lang/invoke/MethodHandle" ∧ yX4_faults.cls ≠ "java/lang/invoke/VarHandle" ∧ (parseMethodDescriptor yX4_faults.desc).map (fun d => d.parameters.length) = some 1 := by decide +kernel
set_option maxHeartbeats 4000000 in
set_option maxRecDepth 100000 in
theorem c_L_faults_ok {l : Launch} {D : va_G} {cy : zCy} {S : Type} {o out : Nat} {ov : Int64} {fs : List Value} {wr1 : va_W} {x0 : Int32} {post : Int32 → S → Prop} {w1 : S → va_W} (hM : zW S l yX4_faults wsX4_faults rmX4_faults D cy ((o, .inr (4, fs)) :: wr1) [.ref o, .int x0] post w1) (had : ∀ u, (w1 u).map Prod.fst = ((o, .inr (4, fs)) :: wr1).map Prod.fst) :
    zW (Int32 × S) l yL_faults wsL_faults rmL_faults_k D cy ((out, .inl (cy.2.2, 1, .inr (.inl (fun _ => ov)))) :: ((o, .inr (4, fs)) :: wr1)) [.ref o, .int x0, .ref out] (fun r u => r = nI 0 ∧ post u.1 u.2) (fun u => (out, .inl (cy.2.2, 1, .inr (.inl (fun _ => u.1.toInt64)))) :: w1 u.2) := by
  refine zW.ofH (cc := cL_faults) (maxL := 4) (ret := (some .int)) (hh := [(0, 9, 12, 13), (0, 9, 15, 15)]) (by decide) rfl rfl ?_
  intro p e s m below meth c ls C hP hK hD hl
  obtain ⟨hx, hb, hr, hml, hts, hown, hlocks⟩ := C
  have hS : va_S (zIn ((out, .inl (cy.2.2, 1, .inr (.inl (fun _ => ov)))) :: ((o, .inr (4, fs)) :: wr1))) s.heap s.heap [] := va_S.rf
  have hl : lv_has ls 4 [(0, .ref o), (1, .int x0), (2, .ref out)] := hl
  refine lv_aload_n hx hb dL_faults_0 rfl (lv_at hl 2 rfl) ?_
  refine lv_iconst (v := nI 0) hx hb dL_faults_1 (by decide) ?_
  refine lv_aload_n hx hb dL_faults_2 rfl (lv_at hl 0 rfl) ?_
  refine lv_iload_n hx hb dL_faults_3 rfl (lv_at hl 1 rfl) ?_
  refine z_callVW (b := o) (As := [.int x0]) (rest := [.int (nI 0), .ref out]) [(out, .inl (cy.2.2, 1, .inr (.inl (fun _ => ov))))] ⟨hx, hb, hml, hown, hts⟩ hK hP hD hS hM (cwV 1 hts gL_faults_X4_faults rfl rfl rfl k_yX4_faults ⟨Nat.le_of_ble_eq_true rfl, Nat.le_of_ble_eq_true rfl⟩) (List.range' 1 (wr1.length + 1)) [0] (z_rgC _ _) rfl (z_rgN _) had 1 4 rfl rfl rfl rfl hl.1 rfl rfl dL_faults_4 ⟨Nat.le_of_ble_eq_true rfl, Nat.le_of_ble_eq_true rfl⟩ (fun rr uu H locs hp hP hD hS => ?_)
  refine lv_i2l (v := rr.toInt64) hx hb dL_faults_7 rfl ?_
  refine z_last (w := w1 uu) hx hb hK hP hD hS dL_faults_8 (fun H locs hP hS => ?_)
  refine lv_goto (tgt := 18) hx hb dL_faults_9 (by decide) ?_
  refine lv_iconst (v := nI 0) hx hb dL_faults_18 (by decide) ?_
  exact z_iretW (rr, uu) hx hb hr hlocks hS dL_faults_19 hP ⟨rfl, hp⟩
set_option maxRecDepth 20000 in
theorem lk536_wsL_faults : Cond.classLink RL 13 "java/lang/IllegalArgumentException" ∈ wsL_faults := by decide +kernel
set_option maxHeartbeats 4000000 in
set_option maxRecDepth 100000 in
theorem c_L_faults_bad1 {l : Launch} {D : va_G} {cy : zCy} {S : Type} {o out : Nat} {ov : Int64} {fs : List Value} {wr1 : va_W} {x0 : Int32} {post : S → Prop} {w1 : S → va_W} (hM : zX S l yX4_faults wsX4_faults rmX4_faults_t D cy ((o, .inr (4, fs)) :: wr1) [.ref o, .int x0] zIAE post w1) (had : ∀ u, (w1 u).map Prod.fst = ((o, .inr (4, fs)) :: wr1).map Prod.fst) :
    zB S l yL_faults wsL_faults rmL_faults D cy ((out, .inl (cy.2.2, 1, .inr (.inl (fun _ => ov)))) :: ((o, .inr (4, fs)) :: wr1)) [.ref o, .int x0, .ref out] (fun r u => r = nI 1 ∧ post u) (fun u => (out, .inl (cy.2.2, 1, .inr (.inl (fun _ => ov)))) :: w1 u) := by
  refine zB.ofH (cc := cL_faults) (maxL := 4) (ret := (some .int)) (hh := [(0, 9, 12, 13), (0, 9, 15, 15)]) (by decide) rfl rfl ?_
  intro p e s m below meth c ls C htab hP hK hD hTs hTh hl
  obtain ⟨hx, hb, hr, hml, hts, hown, hlocks⟩ := C
  have hS : va_S (zIn ((out, .inl (cy.2.2, 1, .inr (.inl (fun _ => ov)))) :: ((o, .inr (4, fs)) :: wr1))) s.heap s.heap [] := va_S.rf
  have hl : lv_has ls 4 [(0, .ref o), (1, .int x0), (2, .ref out)] := hl
  refine lv_aload_n hx hb dL_faults_0 rfl (lv_at hl 2 rfl) ?_
  refine lv_iconst (v := nI 0) hx hb dL_faults_1 (by decide) ?_
  refine lv_aload_n hx hb dL_faults_2 rfl (lv_at hl 0 rfl) ?_
  refine lv_iload_n hx hb dL_faults_3 rfl (lv_at hl 1 rfl) ?_
  refine z_catch (b := o) (As := [.int x0]) (rest := [.int (nI 0), .ref out]) [(out, .inl (cy.2.2, 1, .inr (.inl (fun _ => ov))))] ⟨hx, hb, hml, hown, hts⟩ hK hP hD hS hTs hTh hM (cwV 1 hts gL_faults_X4_faults rfl rfl rfl k_yX4_faults ⟨Nat.le_of_ble_eq_true rfl, Nat.le_of_ble_eq_true rfl⟩) (List.range' 1 (wr1.length + 1)) [0] (z_rgC _ _) rfl (z_rgN _) had 1 4 rfl rfl rfl rfl hl.1 rfl rfl dL_faults_4 ⟨Nat.le_of_ble_eq_true rfl, Nat.le_of_ble_eq_true rfl⟩ htab [] ⟨0, 9, 12, 13⟩ [⟨0, 9, 15, 15⟩] rfl (fun z hz => absurd hz List.not_mem_nil) (by decide) (by decide) lk536_wsL_faults (by decide) (fun q9 uu H locs hp hP hD hS => ?_)
  refine lv_astore_n (lv' := [(3, .ref q9), (0, .ref o), (1, .int x0), (2, .ref out)]) hx hb dL_faults_12 rfl hl (by decide) rfl (fun ls hl => ?_)
  refine lv_iconst (v := nI 1) hx hb dL_faults_13 (by decide) ?_
  exact z_iretB uu hx hb hr hlocks hS dL_faults_14 hP ⟨rfl, hp⟩
set_option maxRecDepth 20000 in
theorem lk537_wsL_faults : Cond.classLink RL 15 "java/lang/IllegalStateException" ∈ wsL_faults := by decide +kernel
set_option maxHeartbeats 4000000 in
set_option maxRecDepth 100000 in
theorem c_L_faults_bad2 {l : Launch} {D : va_G} {cy : zCy} {S : Type} {o out : Nat} {ov : Int64} {fs : List Value} {wr1 : va_W} {x0 : Int32} {post : S → Prop} {w1 : S → va_W} (hM : zX S l yX4_faults wsX4_faults rmX4_faults_t D cy ((o, .inr (4, fs)) :: wr1) [.ref o, .int x0] zISE post w1) (had : ∀ u, (w1 u).map Prod.fst = ((o, .inr (4, fs)) :: wr1).map Prod.fst) :
    zB S l yL_faults wsL_faults rmL_faults D cy ((out, .inl (cy.2.2, 1, .inr (.inl (fun _ => ov)))) :: ((o, .inr (4, fs)) :: wr1)) [.ref o, .int x0, .ref out] (fun r u => r = nI 2 ∧ post u) (fun u => (out, .inl (cy.2.2, 1, .inr (.inl (fun _ => ov)))) :: w1 u) := by
  refine zB.ofH (cc := cL_faults) (maxL := 4) (ret := (some .int)) (hh := [(0, 9, 12, 13), (0, 9, 15, 15)]) (by decide) rfl rfl ?_
  intro p e s m below meth c ls C htab hP hK hD hTs hTh hl
  obtain ⟨hx, hb, hr, hml, hts, hown, hlocks⟩ := C
  have hS : va_S (zIn ((out, .inl (cy.2.2, 1, .inr (.inl (fun _ => ov)))) :: ((o, .inr (4, fs)) :: wr1))) s.heap s.heap [] := va_S.rf
  have hl : lv_has ls 4 [(0, .ref o), (1, .int x0), (2, .ref out)] := hl
  refine lv_aload_n hx hb dL_faults_0 rfl (lv_at hl 2 rfl) ?_
  refine lv_iconst (v := nI 0) hx hb dL_faults_1 (by decide) ?_
  refine lv_aload_n hx hb dL_faults_2 rfl (lv_at hl 0 rfl) ?_
  refine lv_iload_n hx hb dL_faults_3 rfl (lv_at hl 1 rfl) ?_
  refine z_catch (b := o) (As := [.int x0]) (rest := [.int (nI 0), .ref out]) [(out, .inl (cy.2.2, 1, .inr (.inl (fun _ => ov))))] ⟨hx, hb, hml, hown, hts⟩ hK hP hD hS hTs hTh hM (cwV 1 hts gL_faults_X4_faults rfl rfl rfl k_yX4_faults ⟨Nat.le_of_ble_eq_true rfl, Nat.le_of_ble_eq_true rfl⟩) (List.range' 1 (wr1.length + 1)) [0] (z_rgC _ _) rfl (z_rgN _) had 1 4 rfl rfl rfl rfl hl.1 rfl rfl dL_faults_4 ⟨Nat.le_of_ble_eq_true rfl, Nat.le_of_ble_eq_true rfl⟩ htab [⟨0, 9, 12, 13⟩] ⟨0, 9, 15, 15⟩ [] rfl (fun z hz => by rcases List.mem_singleton.mp hz with rfl; exact ⟨by decide, _, lk536_wsL_faults, by decide⟩) (by decide) (by decide) lk537_wsL_faults (by decide) (fun q9 uu H locs hp hP hD hS => ?_)
  refine lv_astore_n (lv' := [(3, .ref q9), (0, .ref o), (1, .int x0), (2, .ref out)]) hx hb dL_faults_15 rfl hl (by decide) rfl (fun ls hl => ?_)
  refine lv_iconst (v := nI 2) hx hb dL_faults_16 (by decide) ?_
  exact z_iretB uu hx hb hr hlocks hS dL_faults_17 hP ⟨rfl, hp⟩
abbrev rmL_loaded : Room := { frames := 10, cells := 1, slots := 6, locals := 195 }
abbrev rmL_loaded_k : Room := { frames := 10, cells := 0, slots := 0, locals := 195 }
theorem k_yX4_loaded : yX4_loaded.cls = RX4 ∧ yX4_loaded.cls ≠ "java/lang/invoke/MethodHandle" ∧ yX4_loaded.cls ≠ "java/lang/invoke/VarHandle" ∧ (parseMethodDescriptor yX4_loaded.desc).map (fun d => d.parameters.length) = some 3 := by decide +kernel
set_option maxHeartbeats 4000000 in
set_option maxRecDepth 100000 in
theorem c_L_loaded_ok {l : Launch} {D : va_G} {cy : zCy} {S : Type} {o out : Nat} {ov : Int64} {fs : List Value} {wr1 : va_W} {x0 x1 x2 : Int32} {post : Int32 → S → Prop} {w1 : S → va_W} (hM : zW S l yX4_loaded wsX4_loaded rmX4_loaded D cy ((o, .inr (4, fs)) :: wr1) [.ref o, .int x0, .int x1, .int x2] post w1) (had : ∀ u, (w1 u).map Prod.fst = ((o, .inr (4, fs)) :: wr1).map Prod.fst) :
    zW (Int32 × S) l yL_loaded wsL_loaded rmL_loaded_k D cy ((out, .inl (cy.2.2, 1, .inr (.inl (fun _ => ov)))) :: ((o, .inr (4, fs)) :: wr1)) [.ref o, .int x0, .int x1, .int x2, .ref out] (fun r u => r = nI 0 ∧ post u.1 u.2) (fun u => (out, .inl (cy.2.2, 1, .inr (.inl (fun _ => u.1.toInt64)))) :: w1 u.2) := by
  refine zW.ofH (cc := cL_loaded) (maxL := 6) (ret := (some .int)) (hh := [(0, 12, 15, 13), (0, 12, 19, 21), (0, 12, 23, 15)]) (by decide) rfl rfl ?_
  intro p e s m below meth c ls C hP hK hD hl
  obtain ⟨hx, hb, hr, hml, hts, hown, hlocks⟩ := C
  have hS : va_S (zIn ((out, .inl (cy.2.2, 1, .inr (.inl (fun _ => ov)))) :: ((o, .inr (4, fs)) :: wr1))) s.heap s.heap [] := va_S.rf
  have hl : lv_has ls 6 [(0, .ref o), (1, .int x0), (2, .int x1), (3, .int x2), (4, .ref out)] := hl
  refine lv_aload hx hb dL_loaded_0 (lv_at hl 4 rfl) ?_
  refine lv_iconst (v := nI 0) hx hb dL_loaded_2 (by decide) ?_
  refine lv_aload_n hx hb dL_loaded_3 rfl (lv_at hl 0 rfl) ?_
  refine lv_iload_n hx hb dL_loaded_4 rfl (lv_at hl 1 rfl) ?_
  refine lv_iload_n hx hb dL_loaded_5 rfl (lv_at hl 2 rfl) ?_
  refine lv_iload_n hx hb dL_loaded_6 rfl (lv_at hl 3 rfl) ?_
  refine z_callVW (b := o) (As := [.int x0, .int x1, .int x2]) (rest := [.int (nI 0), .ref out]) [(out, .inl (cy.2.2, 1, .inr (.inl (fun _ => ov))))] ⟨hx, hb, hml, hown, hts⟩ hK hP hD hS hM (cwV 3 hts gL_loaded_X4_loaded rfl rfl rfl k_yX4_loaded ⟨Nat.le_of_ble_eq_true rfl, Nat.le_of_ble_eq_true rfl⟩) (List.range' 1 (wr1.length + 1)) [0] (z_rgC _ _) rfl (z_rgN _) had 1 4 rfl rfl rfl rfl hl.1 rfl rfl dL_loaded_7 ⟨Nat.le_of_ble_eq_true rfl, Nat.le_of_ble_eq_true rfl⟩ (fun rr uu H locs hp hP hD hS => ?_)
  refine lv_i2l (v := rr.toInt64) hx hb dL_loaded_10 rfl ?_
  refine z_last (w := w1 uu) hx hb hK hP hD hS dL_loaded_11 (fun H locs hP hS => ?_)
  refine lv_goto (tgt := 27) hx hb dL_loaded_12 (by decide) ?_
  refine lv_iconst (v := nI 0) hx hb dL_loaded_27 (by decide) ?_
  exact z_iretW (rr, uu) hx hb hr hlocks hS dL_loaded_28 hP ⟨rfl, hp⟩
set_option maxRecDepth 20000 in
theorem lk539_wsL_loaded : Cond.classLink RL 13 "java/lang/IllegalArgumentException" ∈ wsL_loaded := by decide +kernel
set_option maxHeartbeats 4000000 in
set_option maxRecDepth 100000 in
theorem c_L_loaded_bad1 {l : Launch} {D : va_G} {cy : zCy} {S : Type} {o out : Nat} {ov : Int64} {fs : List Value} {wr1 : va_W} {x0 x1 x2 : Int32} {post : S → Prop} {w1 : S → va_W} (hM : zX S l yX4_loaded wsX4_loaded rmX4_loaded_t D cy ((o, .inr (4, fs)) :: wr1) [.ref o, .int x0, .int x1, .int x2] zIAE post w1) (had : ∀ u, (w1 u).map Prod.fst = ((o, .inr (4, fs)) :: wr1).map Prod.fst) :
    zB S l yL_loaded wsL_loaded rmL_loaded D cy ((out, .inl (cy.2.2, 1, .inr (.inl (fun _ => ov)))) :: ((o, .inr (4, fs)) :: wr1)) [.ref o, .int x0, .int x1, .int x2, .ref out] (fun r u => r = nI 1 ∧ post u) (fun u => (out, .inl (cy.2.2, 1, .inr (.inl (fun _ => ov)))) :: w1 u) := by
  refine zB.ofH (cc := cL_loaded) (maxL := 6) (ret := (some .int)) (hh := [(0, 12, 15, 13), (0, 12, 19, 21), (0, 12, 23, 15)]) (by decide) rfl rfl ?_
  intro p e s m below meth c ls C htab hP hK hD hTs hTh hl
  obtain ⟨hx, hb, hr, hml, hts, hown, hlocks⟩ := C
  have hS : va_S (zIn ((out, .inl (cy.2.2, 1, .inr (.inl (fun _ => ov)))) :: ((o, .inr (4, fs)) :: wr1))) s.heap s.heap [] := va_S.rf
  have hl : lv_has ls 6 [(0, .ref o), (1, .int x0), (2, .int x1), (3, .int x2), (4, .ref out)] := hl
  refine lv_aload hx hb dL_loaded_0 (lv_at hl 4 rfl) ?_
  refine lv_iconst (v := nI 0) hx hb dL_loaded_2 (by decide) ?_
  refine lv_aload_n hx hb dL_loaded_3 rfl (lv_at hl 0 rfl) ?_
  refine lv_iload_n hx hb dL_loaded_4 rfl (lv_at hl 1 rfl) ?_
  refine lv_iload_n hx hb dL_loaded_5 rfl (lv_at hl 2 rfl) ?_
  refine lv_iload_n hx hb dL_loaded_6 rfl (lv_at hl 3 rfl) ?_
  refine z_catch (b := o) (As := [.int x0, .int x1, .int x2]) (rest := [.int (nI 0), .ref out]) [(out, .inl (cy.2.2, 1, .inr (.inl (fun _ => ov))))] ⟨hx, hb, hml, hown, hts⟩ hK hP hD hS hTs hTh hM (cwV 3 hts gL_loaded_X4_loaded rfl rfl rfl k_yX4_loaded ⟨Nat.le_of_ble_eq_true rfl, Nat.le_of_ble_eq_true rfl⟩) (List.range' 1 (wr1.length + 1)) [0] (z_rgC _ _) rfl (z_rgN _) had 1 4 rfl rfl rfl rfl hl.1 rfl rfl dL_loaded_7 ⟨Nat.le_of_ble_eq_true rfl, Nat.le_of_ble_eq_true rfl⟩ htab [] ⟨0, 12, 15, 13⟩ [⟨0, 12, 19, 21⟩, ⟨0, 12, 23, 15⟩] rfl (fun z hz => absurd hz List.not_mem_nil) (by decide) (by decide) lk539_wsL_loaded (by decide) (fun q9 uu H locs hp hP hD hS => ?_)
  refine lv_astore (lv' := [(5, .ref q9), (0, .ref o), (1, .int x0), (2, .int x1), (3, .int x2), (4, .ref out)]) hx hb dL_loaded_15 hl (by decide) rfl (fun ls hl => ?_)
  refine lv_iconst (v := nI 1) hx hb dL_loaded_17 (by decide) ?_
  exact z_iretB uu hx hb hr hlocks hS dL_loaded_18 hP ⟨rfl, hp⟩
set_option maxRecDepth 20000 in
theorem lk540_wsL_loaded : Cond.classLink RL 21 "java/lang/IndexOutOfBoundsException" ∈ wsL_loaded := by decide +kernel
set_option maxHeartbeats 4000000 in
set_option maxRecDepth 100000 in
theorem c_L_loaded_bad2 {l : Launch} {D : va_G} {cy : zCy} {S : Type} {o out : Nat} {ov : Int64} {fs : List Value} {wr1 : va_W} {x0 x1 x2 : Int32} {post : S → Prop} {w1 : S → va_W} (hM : zX S l yX4_loaded wsX4_loaded rmX4_loaded_t D cy ((o, .inr (4, fs)) :: wr1) [.ref o, .int x0, .int x1, .int x2] zIOE post w1) (had : ∀ u, (w1 u).map Prod.fst = ((o, .inr (4, fs)) :: wr1).map Prod.fst) :
    zB S l yL_loaded wsL_loaded rmL_loaded D cy ((out, .inl (cy.2.2, 1, .inr (.inl (fun _ => ov)))) :: ((o, .inr (4, fs)) :: wr1)) [.ref o, .int x0, .int x1, .int x2, .ref out] (fun r u => r = nI 2 ∧ post u) (fun u => (out, .inl (cy.2.2, 1, .inr (.inl (fun _ => ov)))) :: w1 u) := by
  refine zB.ofH (cc := cL_loaded) (maxL := 6) (ret := (some .int)) (hh := [(0, 12, 15, 13), (0, 12, 19, 21), (0, 12, 23, 15)]) (by decide) rfl rfl ?_
  intro p e s m below meth c ls C htab hP hK hD hTs hTh hl
  obtain ⟨hx, hb, hr, hml, hts, hown, hlocks⟩ := C
  have hS : va_S (zIn ((out, .inl (cy.2.2, 1, .inr (.inl (fun _ => ov)))) :: ((o, .inr (4, fs)) :: wr1))) s.heap s.heap [] := va_S.rf
  have hl : lv_has ls 6 [(0, .ref o), (1, .int x0), (2, .int x1), (3, .int x2), (4, .ref out)] := hl
  refine lv_aload hx hb dL_loaded_0 (lv_at hl 4 rfl) ?_
  refine lv_iconst (v := nI 0) hx hb dL_loaded_2 (by decide) ?_
  refine lv_aload_n hx hb dL_loaded_3 rfl (lv_at hl 0 rfl) ?_
  refine lv_iload_n hx hb dL_loaded_4 rfl (lv_at hl 1 rfl) ?_
  refine lv_iload_n hx hb dL_loaded_5 rfl (lv_at hl 2 rfl) ?_
  refine lv_iload_n hx hb dL_loaded_6 rfl (lv_at hl 3 rfl) ?_
  refine z_catch (b := o) (As := [.int x0, .int x1, .int x2]) (rest := [.int (nI 0), .ref out]) [(out, .inl (cy.2.2, 1, .inr (.inl (fun _ => ov))))] ⟨hx, hb, hml, hown, hts⟩ hK hP hD hS hTs hTh hM (cwV 3 hts gL_loaded_X4_loaded rfl rfl rfl k_yX4_loaded ⟨Nat.le_of_ble_eq_true rfl, Nat.le_of_ble_eq_true rfl⟩) (List.range' 1 (wr1.length + 1)) [0] (z_rgC _ _) rfl (z_rgN _) had 1 4 rfl rfl rfl rfl hl.1 rfl rfl dL_loaded_7 ⟨Nat.le_of_ble_eq_true rfl, Nat.le_of_ble_eq_true rfl⟩ htab [⟨0, 12, 15, 13⟩] ⟨0, 12, 19, 21⟩ [⟨0, 12, 23, 15⟩] rfl (fun z hz => by rcases List.mem_singleton.mp hz with rfl; exact ⟨by decide, _, lk539_wsL_loaded, by decide⟩) (by decide) (by decide) lk540_wsL_loaded (by decide) (fun q9 uu H locs hp hP hD hS => ?_)
  refine lv_astore (lv' := [(5, .ref q9), (0, .ref o), (1, .int x0), (2, .int x1), (3, .int x2), (4, .ref out)]) hx hb dL_loaded_19 hl (by decide) rfl (fun ls hl => ?_)
  refine lv_iconst (v := nI 2) hx hb dL_loaded_21 (by decide) ?_
  exact z_iretB uu hx hb hr hlocks hS dL_loaded_22 hP ⟨rfl, hp⟩
set_option maxRecDepth 20000 in
theorem lk541_wsL_loaded : Cond.classLink RL 15 "java/lang/IllegalStateException" ∈ wsL_loaded := by decide +kernel
set_option maxHeartbeats 4000000 in
set_option maxRecDepth 100000 in
theorem c_L_loaded_bad3 {l : Launch} {D : va_G} {cy : zCy} {S : Type} {o out : Nat} {ov : Int64} {fs : List Value} {wr1 : va_W} {x0 x1 x2 : Int32} {post : S → Prop} {w1 : S → va_W} (hM : zX S l yX4_loaded wsX4_loaded rmX4_loaded_t D cy ((o, .inr (4, fs)) :: wr1) [.ref o, .int x0, .int x1, .int x2] zISE post w1) (had : ∀ u, (w1 u).map Prod.fst = ((o, .inr (4, fs)) :: wr1).map Prod.fst) :
    zB S l yL_loaded wsL_loaded rmL_loaded D cy ((out, .inl (cy.2.2, 1, .inr (.inl (fun _ => ov)))) :: ((o, .inr (4, fs)) :: wr1)) [.ref o, .int x0, .int x1, .int x2, .ref out] (fun r u => r = nI 3 ∧ post u) (fun u => (out, .inl (cy.2.2, 1, .inr (.inl (fun _ => ov)))) :: w1 u) := by
  refine zB.ofH (cc := cL_loaded) (maxL := 6) (ret := (some .int)) (hh := [(0, 12, 15, 13), (0, 12, 19, 21), (0, 12, 23, 15)]) (by decide) rfl rfl ?_
  intro p e s m below meth c ls C htab hP hK hD hTs hTh hl
  obtain ⟨hx, hb, hr, hml, hts, hown, hlocks⟩ := C
  have hS : va_S (zIn ((out, .inl (cy.2.2, 1, .inr (.inl (fun _ => ov)))) :: ((o, .inr (4, fs)) :: wr1))) s.heap s.heap [] := va_S.rf
  have hl : lv_has ls 6 [(0, .ref o), (1, .int x0), (2, .int x1), (3, .int x2), (4, .ref out)] := hl
  refine lv_aload hx hb dL_loaded_0 (lv_at hl 4 rfl) ?_
  refine lv_iconst (v := nI 0) hx hb dL_loaded_2 (by decide) ?_
  refine lv_aload_n hx hb dL_loaded_3 rfl (lv_at hl 0 rfl) ?_
  refine lv_iload_n hx hb dL_loaded_4 rfl (lv_at hl 1 rfl) ?_
  refine lv_iload_n hx hb dL_loaded_5 rfl (lv_at hl 2 rfl) ?_
  refine lv_iload_n hx hb dL_loaded_6 rfl (lv_at hl 3 rfl) ?_
  refine z_catch (b := o) (As := [.int x0, .int x1, .int x2]) (rest := [.int (nI 0), .ref out]) [(out, .inl (cy.2.2, 1, .inr (.inl (fun _ => ov))))] ⟨hx, hb, hml, hown, hts⟩ hK hP hD hS hTs hTh hM (cwV 3 hts gL_loaded_X4_loaded rfl rfl rfl k_yX4_loaded ⟨Nat.le_of_ble_eq_true rfl, Nat.le_of_ble_eq_true rfl⟩) (List.range' 1 (wr1.length + 1)) [0] (z_rgC _ _) rfl (z_rgN _) had 1 4 rfl rfl rfl rfl hl.1 rfl rfl dL_loaded_7 ⟨Nat.le_of_ble_eq_true rfl, Nat.le_of_ble_eq_true rfl⟩ htab [⟨0, 12, 15, 13⟩, ⟨0, 12, 19, 21⟩] ⟨0, 12, 23, 15⟩ [] rfl (fun z hz => by rcases List.mem_cons.mp hz with rfl | hz; exact ⟨by decide, _, lk539_wsL_loaded, by decide⟩; rcases List.mem_singleton.mp hz with rfl; exact ⟨by decide, _, lk540_wsL_loaded, by decide⟩) (by decide) (by decide) lk541_wsL_loaded (by decide) (fun q9 uu H locs hp hP hD hS => ?_)
  refine lv_astore (lv' := [(5, .ref q9), (0, .ref o), (1, .int x0), (2, .int x1), (3, .int x2), (4, .ref out)]) hx hb dL_loaded_23 hl (by decide) rfl (fun ls hl => ?_)
  refine lv_iconst (v := nI 3) hx hb dL_loaded_25 (by decide) ?_
  exact z_iretB uu hx hb hr hlocks hS dL_loaded_26 hP ⟨rfl, hp⟩
abbrev rmL_harmed : Room := { frames := 10, cells := 1, slots := 6, locals := 192 }
abbrev rmL_harmed_k : Room := { frames := 10, cells := 0, slots := 0, locals := 192 }
theorem k_yX4_harmed : yX4_harmed.cls = RX4 ∧ yX4_harmed.cls ≠ "java/lang/invoke/MethodHandle" ∧ yX4_harmed.cls ≠ "java/lang/invoke/VarHandle" ∧ (parseMethodDescriptor yX4_harmed.desc).map (fun d => d.parameters.length) = some 0 := by decide +kernel
set_option maxHeartbeats 4000000 in
set_option maxRecDepth 100000 in
theorem c_L_harmed_ok {l : Launch} {D : va_G} {cy : zCy} {S : Type} {o out : Nat} {ov : Int64} {fs : List Value} {wr1 : va_W} {post : Int32 → S → Prop} {w1 : S → va_W} (hM : zW S l yX4_harmed wsX4_harmed rmX4_harmed D cy ((o, .inr (4, fs)) :: wr1) [.ref o] post w1) (had : ∀ u, (w1 u).map Prod.fst = ((o, .inr (4, fs)) :: wr1).map Prod.fst) :
    zW (Int32 × S) l yL_harmed wsL_harmed rmL_harmed_k D cy ((out, .inl (cy.2.2, 1, .inr (.inl (fun _ => ov)))) :: ((o, .inr (4, fs)) :: wr1)) [.ref o, .ref out] (fun r u => r = nI 0 ∧ post u.1 u.2) (fun u => (out, .inl (cy.2.2, 1, .inr (.inl (fun _ => u.1.toInt64)))) :: w1 u.2) := by
  refine zW.ofH (cc := cL_harmed) (maxL := 3) (ret := (some .int)) (hh := [(0, 8, 11, 15)]) (by decide) rfl rfl ?_
  intro p e s m below meth c ls C hP hK hD hl
  obtain ⟨hx, hb, hr, hml, hts, hown, hlocks⟩ := C
  have hS : va_S (zIn ((out, .inl (cy.2.2, 1, .inr (.inl (fun _ => ov)))) :: ((o, .inr (4, fs)) :: wr1))) s.heap s.heap [] := va_S.rf
  have hl : lv_has ls 3 [(0, .ref o), (1, .ref out)] := hl
  refine lv_aload_n hx hb dL_harmed_0 rfl (lv_at hl 1 rfl) ?_
  refine lv_iconst (v := nI 0) hx hb dL_harmed_1 (by decide) ?_
  refine lv_aload_n hx hb dL_harmed_2 rfl (lv_at hl 0 rfl) ?_
  refine z_callVW (b := o) (As := []) (rest := [.int (nI 0), .ref out]) [(out, .inl (cy.2.2, 1, .inr (.inl (fun _ => ov))))] ⟨hx, hb, hml, hown, hts⟩ hK hP hD hS hM (cwV 0 hts gL_harmed_X4_harmed rfl rfl rfl k_yX4_harmed ⟨Nat.le_of_ble_eq_true rfl, Nat.le_of_ble_eq_true rfl⟩) (List.range' 1 (wr1.length + 1)) [0] (z_rgC _ _) rfl (z_rgN _) had 1 4 rfl rfl rfl rfl hl.1 rfl rfl dL_harmed_3 ⟨Nat.le_of_ble_eq_true rfl, Nat.le_of_ble_eq_true rfl⟩ (fun rr uu H locs hp hP hD hS => ?_)
  refine lv_i2l (v := rr.toInt64) hx hb dL_harmed_6 rfl ?_
  refine z_last (w := w1 uu) hx hb hK hP hD hS dL_harmed_7 (fun H locs hP hS => ?_)
  refine lv_goto (tgt := 14) hx hb dL_harmed_8 (by decide) ?_
  refine lv_iconst (v := nI 0) hx hb dL_harmed_14 (by decide) ?_
  exact z_iretW (rr, uu) hx hb hr hlocks hS dL_harmed_15 hP ⟨rfl, hp⟩
set_option maxRecDepth 20000 in
theorem lk543_wsL_harmed : Cond.classLink RL 15 "java/lang/IllegalStateException" ∈ wsL_harmed := by decide +kernel
set_option maxHeartbeats 4000000 in
set_option maxRecDepth 100000 in
theorem c_L_harmed_bad1 {l : Launch} {D : va_G} {cy : zCy} {S : Type} {o out : Nat} {ov : Int64} {fs : List Value} {wr1 : va_W} {post : S → Prop} {w1 : S → va_W} (hM : zX S l yX4_harmed wsX4_harmed rmX4_harmed_t D cy ((o, .inr (4, fs)) :: wr1) [.ref o] zISE post w1) (had : ∀ u, (w1 u).map Prod.fst = ((o, .inr (4, fs)) :: wr1).map Prod.fst) :
    zB S l yL_harmed wsL_harmed rmL_harmed D cy ((out, .inl (cy.2.2, 1, .inr (.inl (fun _ => ov)))) :: ((o, .inr (4, fs)) :: wr1)) [.ref o, .ref out] (fun r u => r = nI 1 ∧ post u) (fun u => (out, .inl (cy.2.2, 1, .inr (.inl (fun _ => ov)))) :: w1 u) := by
  refine zB.ofH (cc := cL_harmed) (maxL := 3) (ret := (some .int)) (hh := [(0, 8, 11, 15)]) (by decide) rfl rfl ?_
  intro p e s m below meth c ls C htab hP hK hD hTs hTh hl
  obtain ⟨hx, hb, hr, hml, hts, hown, hlocks⟩ := C
  have hS : va_S (zIn ((out, .inl (cy.2.2, 1, .inr (.inl (fun _ => ov)))) :: ((o, .inr (4, fs)) :: wr1))) s.heap s.heap [] := va_S.rf
  have hl : lv_has ls 3 [(0, .ref o), (1, .ref out)] := hl
  refine lv_aload_n hx hb dL_harmed_0 rfl (lv_at hl 1 rfl) ?_
  refine lv_iconst (v := nI 0) hx hb dL_harmed_1 (by decide) ?_
  refine lv_aload_n hx hb dL_harmed_2 rfl (lv_at hl 0 rfl) ?_
  refine z_catch (b := o) (As := []) (rest := [.int (nI 0), .ref out]) [(out, .inl (cy.2.2, 1, .inr (.inl (fun _ => ov))))] ⟨hx, hb, hml, hown, hts⟩ hK hP hD hS hTs hTh hM (cwV 0 hts gL_harmed_X4_harmed rfl rfl rfl k_yX4_harmed ⟨Nat.le_of_ble_eq_true rfl, Nat.le_of_ble_eq_true rfl⟩) (List.range' 1 (wr1.length + 1)) [0] (z_rgC _ _) rfl (z_rgN _) had 1 4 rfl rfl rfl rfl hl.1 rfl rfl dL_harmed_3 ⟨Nat.le_of_ble_eq_true rfl, Nat.le_of_ble_eq_true rfl⟩ htab [] ⟨0, 8, 11, 15⟩ [] rfl (fun z hz => absurd hz List.not_mem_nil) (by decide) (by decide) lk543_wsL_harmed (by decide) (fun q9 uu H locs hp hP hD hS => ?_)
  refine lv_astore_n (lv' := [(2, .ref q9), (0, .ref o), (1, .ref out)]) hx hb dL_harmed_11 rfl hl (by decide) rfl (fun ls hl => ?_)
  refine lv_iconst (v := nI 1) hx hb dL_harmed_12 (by decide) ?_
  exact z_iretB uu hx hb hr hlocks hS dL_harmed_13 hP ⟨rfl, hp⟩
abbrev rmL_least : Room := { frames := 10, cells := 1, slots := 6, locals := 195 }
abbrev rmL_least_k : Room := { frames := 10, cells := 0, slots := 0, locals := 195 }
theorem k_yX4_least : yX4_least.cls = RX4 ∧ yX4_least.cls ≠ "java/lang/invoke/MethodHandle" ∧ yX4_least.cls ≠ "java/lang/invoke/VarHandle" ∧ (parseMethodDescriptor yX4_least.desc).map (fun d => d.parameters.length) = some 1 := by decide +kernel
set_option maxHeartbeats 4000000 in
set_option maxRecDepth 100000 in
theorem c_L_least_ok {l : Launch} {D : va_G} {cy : zCy} {S : Type} {o out : Nat} {ov : Int64} {fs : List Value} {wr1 : va_W} {x0 : Int32} {post : Int32 → S → Prop} {w1 : S → va_W} (hM : zW S l yX4_least wsX4_least rmX4_least D cy ((o, .inr (4, fs)) :: wr1) [.ref o, .int x0] post w1) (had : ∀ u, (w1 u).map Prod.fst = ((o, .inr (4, fs)) :: wr1).map Prod.fst) :
    zW (Int32 × S) l yL_least wsL_least rmL_least_k D cy ((out, .inl (cy.2.2, 1, .inr (.inl (fun _ => ov)))) :: ((o, .inr (4, fs)) :: wr1)) [.ref o, .int x0, .ref out] (fun r u => r = nI 0 ∧ post u.1 u.2) (fun u => (out, .inl (cy.2.2, 1, .inr (.inl (fun _ => u.1.toInt64)))) :: w1 u.2) := by
  refine zW.ofH (cc := cL_least) (maxL := 4) (ret := (some .int)) (hh := [(0, 9, 12, 21), (0, 9, 15, 15), (0, 9, 18, 72)]) (by decide) rfl rfl ?_
  intro p e s m below meth c ls C hP hK hD hl
  obtain ⟨hx, hb, hr, hml, hts, hown, hlocks⟩ := C
  have hS : va_S (zIn ((out, .inl (cy.2.2, 1, .inr (.inl (fun _ => ov)))) :: ((o, .inr (4, fs)) :: wr1))) s.heap s.heap [] := va_S.rf
  have hl : lv_has ls 4 [(0, .ref o), (1, .int x0), (2, .ref out)] := hl
  refine lv_aload_n hx hb dL_least_0 rfl (lv_at hl 2 rfl) ?_
  refine lv_iconst (v := nI 0) hx hb dL_least_1 (by decide) ?_
  refine lv_aload_n hx hb dL_least_2 rfl (lv_at hl 0 rfl) ?_
  refine lv_iload_n hx hb dL_least_3 rfl (lv_at hl 1 rfl) ?_
  refine z_callVW (b := o) (As := [.int x0]) (rest := [.int (nI 0), .ref out]) [(out, .inl (cy.2.2, 1, .inr (.inl (fun _ => ov))))] ⟨hx, hb, hml, hown, hts⟩ hK hP hD hS hM (cwV 1 hts gL_least_X4_least rfl rfl rfl k_yX4_least ⟨Nat.le_of_ble_eq_true rfl, Nat.le_of_ble_eq_true rfl⟩) (List.range' 1 (wr1.length + 1)) [0] (z_rgC _ _) rfl (z_rgN _) had 1 4 rfl rfl rfl rfl hl.1 rfl rfl dL_least_4 ⟨Nat.le_of_ble_eq_true rfl, Nat.le_of_ble_eq_true rfl⟩ (fun rr uu H locs hp hP hD hS => ?_)
  refine lv_i2l (v := rr.toInt64) hx hb dL_least_7 rfl ?_
  refine z_last (w := w1 uu) hx hb hK hP hD hS dL_least_8 (fun H locs hP hS => ?_)
  refine lv_goto (tgt := 21) hx hb dL_least_9 (by decide) ?_
  refine lv_iconst (v := nI 0) hx hb dL_least_21 (by decide) ?_
  exact z_iretW (rr, uu) hx hb hr hlocks hS dL_least_22 hP ⟨rfl, hp⟩
set_option maxRecDepth 20000 in
theorem lk545_wsL_least : Cond.classLink RL 21 "java/lang/IndexOutOfBoundsException" ∈ wsL_least := by decide +kernel
set_option maxHeartbeats 4000000 in
set_option maxRecDepth 100000 in
theorem c_L_least_bad1 {l : Launch} {D : va_G} {cy : zCy} {S : Type} {o out : Nat} {ov : Int64} {fs : List Value} {wr1 : va_W} {x0 : Int32} {post : S → Prop} {w1 : S → va_W} (hM : zX S l yX4_least wsX4_least rmX4_least_t D cy ((o, .inr (4, fs)) :: wr1) [.ref o, .int x0] zIOE post w1) (had : ∀ u, (w1 u).map Prod.fst = ((o, .inr (4, fs)) :: wr1).map Prod.fst) :
    zB S l yL_least wsL_least rmL_least D cy ((out, .inl (cy.2.2, 1, .inr (.inl (fun _ => ov)))) :: ((o, .inr (4, fs)) :: wr1)) [.ref o, .int x0, .ref out] (fun r u => r = nI 1 ∧ post u) (fun u => (out, .inl (cy.2.2, 1, .inr (.inl (fun _ => ov)))) :: w1 u) := by
  refine zB.ofH (cc := cL_least) (maxL := 4) (ret := (some .int)) (hh := [(0, 9, 12, 21), (0, 9, 15, 15), (0, 9, 18, 72)]) (by decide) rfl rfl ?_
  intro p e s m below meth c ls C htab hP hK hD hTs hTh hl
  obtain ⟨hx, hb, hr, hml, hts, hown, hlocks⟩ := C
  have hS : va_S (zIn ((out, .inl (cy.2.2, 1, .inr (.inl (fun _ => ov)))) :: ((o, .inr (4, fs)) :: wr1))) s.heap s.heap [] := va_S.rf
  have hl : lv_has ls 4 [(0, .ref o), (1, .int x0), (2, .ref out)] := hl
  refine lv_aload_n hx hb dL_least_0 rfl (lv_at hl 2 rfl) ?_
  refine lv_iconst (v := nI 0) hx hb dL_least_1 (by decide) ?_
  refine lv_aload_n hx hb dL_least_2 rfl (lv_at hl 0 rfl) ?_
  refine lv_iload_n hx hb dL_least_3 rfl (lv_at hl 1 rfl) ?_
  refine z_catch (b := o) (As := [.int x0]) (rest := [.int (nI 0), .ref out]) [(out, .inl (cy.2.2, 1, .inr (.inl (fun _ => ov))))] ⟨hx, hb, hml, hown, hts⟩ hK hP hD hS hTs hTh hM (cwV 1 hts gL_least_X4_least rfl rfl rfl k_yX4_least ⟨Nat.le_of_ble_eq_true rfl, Nat.le_of_ble_eq_true rfl⟩) (List.range' 1 (wr1.length + 1)) [0] (z_rgC _ _) rfl (z_rgN _) had 1 4 rfl rfl rfl rfl hl.1 rfl rfl dL_least_4 ⟨Nat.le_of_ble_eq_true rfl, Nat.le_of_ble_eq_true rfl⟩ htab [] ⟨0, 9, 12, 21⟩ [⟨0, 9, 15, 15⟩, ⟨0, 9, 18, 72⟩] rfl (fun z hz => absurd hz List.not_mem_nil) (by decide) (by decide) lk545_wsL_least (by decide) (fun q9 uu H locs hp hP hD hS => ?_)
  refine lv_astore_n (lv' := [(3, .ref q9), (0, .ref o), (1, .int x0), (2, .ref out)]) hx hb dL_least_12 rfl hl (by decide) rfl (fun ls hl => ?_)
  refine lv_iconst (v := nI 1) hx hb dL_least_13 (by decide) ?_
  exact z_iretB uu hx hb hr hlocks hS dL_least_14 hP ⟨rfl, hp⟩
set_option maxRecDepth 20000 in
theorem lk546_wsL_least : Cond.classLink RL 15 "java/lang/IllegalStateException" ∈ wsL_least := by decide +kernel
set_option maxHeartbeats 4000000 in
set_option maxRecDepth 100000 in
theorem c_L_least_bad2 {l : Launch} {D : va_G} {cy : zCy} {S : Type} {o out : Nat} {ov : Int64} {fs : List Value} {wr1 : va_W} {x0 : Int32} {post : S → Prop} {w1 : S → va_W} (hM : zX S l yX4_least wsX4_least rmX4_least_t D cy ((o, .inr (4, fs)) :: wr1) [.ref o, .int x0] zISE post w1) (had : ∀ u, (w1 u).map Prod.fst = ((o, .inr (4, fs)) :: wr1).map Prod.fst) :
    zB S l yL_least wsL_least rmL_least D cy ((out, .inl (cy.2.2, 1, .inr (.inl (fun _ => ov)))) :: ((o, .inr (4, fs)) :: wr1)) [.ref o, .int x0, .ref out] (fun r u => r = nI 2 ∧ post u) (fun u => (out, .inl (cy.2.2, 1, .inr (.inl (fun _ => ov)))) :: w1 u) := by
  refine zB.ofH (cc := cL_least) (maxL := 4) (ret := (some .int)) (hh := [(0, 9, 12, 21), (0, 9, 15, 15), (0, 9, 18, 72)]) (by decide) rfl rfl ?_
  intro p e s m below meth c ls C htab hP hK hD hTs hTh hl
  obtain ⟨hx, hb, hr, hml, hts, hown, hlocks⟩ := C
  have hS : va_S (zIn ((out, .inl (cy.2.2, 1, .inr (.inl (fun _ => ov)))) :: ((o, .inr (4, fs)) :: wr1))) s.heap s.heap [] := va_S.rf
  have hl : lv_has ls 4 [(0, .ref o), (1, .int x0), (2, .ref out)] := hl
  refine lv_aload_n hx hb dL_least_0 rfl (lv_at hl 2 rfl) ?_
  refine lv_iconst (v := nI 0) hx hb dL_least_1 (by decide) ?_
  refine lv_aload_n hx hb dL_least_2 rfl (lv_at hl 0 rfl) ?_
  refine lv_iload_n hx hb dL_least_3 rfl (lv_at hl 1 rfl) ?_
  refine z_catch (b := o) (As := [.int x0]) (rest := [.int (nI 0), .ref out]) [(out, .inl (cy.2.2, 1, .inr (.inl (fun _ => ov))))] ⟨hx, hb, hml, hown, hts⟩ hK hP hD hS hTs hTh hM (cwV 1 hts gL_least_X4_least rfl rfl rfl k_yX4_least ⟨Nat.le_of_ble_eq_true rfl, Nat.le_of_ble_eq_true rfl⟩) (List.range' 1 (wr1.length + 1)) [0] (z_rgC _ _) rfl (z_rgN _) had 1 4 rfl rfl rfl rfl hl.1 rfl rfl dL_least_4 ⟨Nat.le_of_ble_eq_true rfl, Nat.le_of_ble_eq_true rfl⟩ htab [⟨0, 9, 12, 21⟩] ⟨0, 9, 15, 15⟩ [⟨0, 9, 18, 72⟩] rfl (fun z hz => by rcases List.mem_singleton.mp hz with rfl; exact ⟨by decide, _, lk545_wsL_least, by decide⟩) (by decide) (by decide) lk546_wsL_least (by decide) (fun q9 uu H locs hp hP hD hS => ?_)
  refine lv_astore_n (lv' := [(3, .ref q9), (0, .ref o), (1, .int x0), (2, .ref out)]) hx hb dL_least_15 rfl hl (by decide) rfl (fun ls hl => ?_)
  refine lv_iconst (v := nI 2) hx hb dL_least_16 (by decide) ?_
  exact z_iretB uu hx hb hr hlocks hS dL_least_17 hP ⟨rfl, hp⟩
set_option maxRecDepth 20000 in
theorem lk547_wsL_least : Cond.classLink RL 72 "java/util/NoSuchElementException" ∈ wsL_least := by decide +kernel
set_option maxHeartbeats 4000000 in
set_option maxRecDepth 100000 in
theorem c_L_least_bad3 {l : Launch} {D : va_G} {cy : zCy} {S : Type} {o out : Nat} {ov : Int64} {fs : List Value} {wr1 : va_W} {x0 : Int32} {post : S → Prop} {w1 : S → va_W} (hM : zX S l yX4_least wsX4_least rmX4_least_t D cy ((o, .inr (4, fs)) :: wr1) [.ref o, .int x0] zNSE post w1) (had : ∀ u, (w1 u).map Prod.fst = ((o, .inr (4, fs)) :: wr1).map Prod.fst) :
    zB S l yL_least wsL_least rmL_least D cy ((out, .inl (cy.2.2, 1, .inr (.inl (fun _ => ov)))) :: ((o, .inr (4, fs)) :: wr1)) [.ref o, .int x0, .ref out] (fun r u => r = nI 3 ∧ post u) (fun u => (out, .inl (cy.2.2, 1, .inr (.inl (fun _ => ov)))) :: w1 u) := by
  refine zB.ofH (cc := cL_least) (maxL := 4) (ret := (some .int)) (hh := [(0, 9, 12, 21), (0, 9, 15, 15), (0, 9, 18, 72)]) (by decide) rfl rfl ?_
  intro p e s m below meth c ls C htab hP hK hD hTs hTh hl
  obtain ⟨hx, hb, hr, hml, hts, hown, hlocks⟩ := C
  have hS : va_S (zIn ((out, .inl (cy.2.2, 1, .inr (.inl (fun _ => ov)))) :: ((o, .inr (4, fs)) :: wr1))) s.heap s.heap [] := va_S.rf
  have hl : lv_has ls 4 [(0, .ref o), (1, .int x0), (2, .ref out)] := hl
  refine lv_aload_n hx hb dL_least_0 rfl (lv_at hl 2 rfl) ?_
  refine lv_iconst (v := nI 0) hx hb dL_least_1 (by decide) ?_
  refine lv_aload_n hx hb dL_least_2 rfl (lv_at hl 0 rfl) ?_
  refine lv_iload_n hx hb dL_least_3 rfl (lv_at hl 1 rfl) ?_
  refine z_catch (b := o) (As := [.int x0]) (rest := [.int (nI 0), .ref out]) [(out, .inl (cy.2.2, 1, .inr (.inl (fun _ => ov))))] ⟨hx, hb, hml, hown, hts⟩ hK hP hD hS hTs hTh hM (cwV 1 hts gL_least_X4_least rfl rfl rfl k_yX4_least ⟨Nat.le_of_ble_eq_true rfl, Nat.le_of_ble_eq_true rfl⟩) (List.range' 1 (wr1.length + 1)) [0] (z_rgC _ _) rfl (z_rgN _) had 1 4 rfl rfl rfl rfl hl.1 rfl rfl dL_least_4 ⟨Nat.le_of_ble_eq_true rfl, Nat.le_of_ble_eq_true rfl⟩ htab [⟨0, 9, 12, 21⟩, ⟨0, 9, 15, 15⟩] ⟨0, 9, 18, 72⟩ [] rfl (fun z hz => by rcases List.mem_cons.mp hz with rfl | hz; exact ⟨by decide, _, lk545_wsL_least, by decide⟩; rcases List.mem_singleton.mp hz with rfl; exact ⟨by decide, _, lk546_wsL_least, by decide⟩) (by decide) (by decide) lk547_wsL_least (by decide) (fun q9 uu H locs hp hP hD hS => ?_)
  refine lv_astore_n (lv' := [(3, .ref q9), (0, .ref o), (1, .int x0), (2, .ref out)]) hx hb dL_least_18 rfl hl (by decide) rfl (fun ls hl => ?_)
  refine lv_iconst (v := nI 3) hx hb dL_least_19 (by decide) ?_
  exact z_iretB uu hx hb hr hlocks hS dL_least_20 hP ⟨rfl, hp⟩
