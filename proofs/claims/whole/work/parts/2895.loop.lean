set_option maxHeartbeats 8000000 in
set_option maxRecDepth 100000 in
theorem z_step_nodes {p : Program} {l : Launch} {e : Env} {s : State} {m : MethodId} {args : Array Value} {below : List Frame} {meth : Method} {c : Code} {Q : State → Prop} {D : va_G} {cy : zCy} {out o g a1 a2 a3 a4 a5 q a b P p1 p2 p3 p4 A e1 e2 e3 U f1 f2 f3 M m1 m2 m3 m4 m5 m6 m7 m8 m9 m10 m11 m12 m13 m14 m15 : Nat} {bs i cells slots : Nat} {H : Heap} {locs : List Loc} {ls : Array Slot} {fc : Nat → Nat} {ow : Nat → Nat} {sl : Nat → Nat} {qt : Nat} {nn : Nat} {fl : Nat} {ld : Nat → Int32} {ab : Nat → Int32} {lm : Nat → Int32} {vl : Nat → Nat → Int32} {rq : Nat → Bool} {cnt : Int32} {ln : Int32} {kn : Bool} {th : Bool} {pl : Nat → Int32} {chA : Nat → Int32} {hbA : Nat → Int32} {svA : Nat → Int32} {am : Bool} {am2 : Bool} {enA : Nat → Int32} {vaA : Nat → Int32} {miA : Nat → Int32} {enB : Nat → Int32} {vaB : Nat → Int32} {miB : Nat → Int32} {ov : Int64} {thr : Int32} {mam : Bool} {my : Nat → Int32} {fw : Nat → Int32} {fr : Nat → Int32} {rw_ : Nat → Int32} {ms : Nat → Int32} {td : Nat → Int32} {ot : Nat → Int32} {Ts : List Cond} {L : Nat} {xs : Nat → Int32} (hl9 : l.stackTraces = false) (hx : p.tables.exec = Jvm.exec) (hb : c.code = cL_law) (hml : c.maxLocals = 7) (hown : s.vm.findClass RL = some m.cls) (hts : ∀ w ∈ Ts, w.before args s = true) (hK : zK D cy s) (hX0 : va_X bs L xs s s.heap) (hbl : bs < s.heap.size) (hL : L ≤ 2560) (hi : i + 5 ≤ L) (hrc : cells + 1 ≤ 1078) (hrs : slots + 6 ≤ 10152) (hTs : zTs s) (hTh : zTh (zNew s) s s.heap)
    (cwa : CallW room_1 s args RL RX4 107 yX4_nodes cX4_nodes 1 (some .int) wsX4_nodes rmX4_nodes 0 0 0) (cwb : CallW room_1 s args RL RX5 110 yX5_nodes cX5_nodes 1 (some .int) wsX5_nodes rmX5_nodes 0 0 0)
    (G : zInvG fc ow fl ld lm vl) (J : zInvQ fc sl qt nn ld ab) (hkp : kn = true → zKeep nn ab sl ow th ln svA)
    (hP : va_P D vwCl ([(M, .inr (5, [.int thr, .ref m1, .ref m2, .ref m3, .ref m4, .ref m5, .int (nI fl), .int (nI qt), .int (nI nn), .ref m6, .ref m7, .ref m8, .ref m9, .ref m10, .ref m11, .ref m12, .ref m13, .ref m14, .ref m15, .int (bI (mam))])), (m1, .inl (cy.1, 4, .inl (fun z => nI (fc z)))), (m2, .inl (cy.1, 32, .inl lm)), (m3, .inl (cy.2.1, 32, .inl (fun z => bI (rq z)))), (m4, .inl (cy.1, 32, .inl (fun z => nI (ow z)))), (m5, .inl (cy.1, 640, .inl (fun z => vl (z / 160 * 8 + z % 8) (z % 160 / 8) + 1))), (m6, .inl (cy.1, 12, .inl ab)), (m7, .inl (cy.1, 12, .inl (fun z => nI (sl z % 8)))), (m8, .inl (cy.1, 12, .inl (fun z => nI (sl z / 8)))), (m9, .inl (cy.1, 12, .inl my)), (m10, .inl (cy.1, 48, .inl fw)), (m11, .inl (cy.1, 12, .inl fr)), (m12, .inl (cy.1, 12, .inl rw_)), (m13, .inl (cy.2.1, 12, .inl ms)), (m14, .inl (cy.1, 12, .inl td)), (m15, .inl (cy.1, 12, .inl ot))] ++ [(out, .inl (cy.2.2, 1, .inr (.inl (fun _ => ov)))), (o, .inr (4, [.ref g, .ref q, .ref P, .ref A, .ref U])), (g, .inr (1, [.ref a1, .ref a2, .ref a3, .ref a4, .ref a5, .int (nI fl)])), (a1, .inl (cy.1, 4, .inl (fun z => nI (fc z)))), (a2, .inl (cy.1, 32, .inl ld)), (a3, .inl (cy.2.1, 32, .inl (fun z => bI (rq z)))), (a4, .inl (cy.1, 32, .inl (fun z => nI (ow z)))), (a5, .inl (cy.1, 640, .inl (fun z => vl (z / 20) (z % 20)))), (q, .inr (3, [.ref a, .ref b, .int (nI qt), .int (nI nn)])), (a, .inl (cy.1, 12, .inl ab)), (b, .inl (cy.1, 12, .inl (fun z => nI (sl z)))), (P, .inr (2, [.ref g, .ref q, .ref p1, .ref p2, .ref p3, .ref p4, .int cnt, .int ln, .int (bI (kn)), .int (bI (th))])), (p1, .inl (cy.1, 12, .inl pl)), (p2, .inl (cy.1, 12, .inl chA)), (p3, .inl (cy.1, 48, .inl hbA)), (p4, .inl (cy.1, 12, .inl svA)), (A, .inr (0, [.ref g, .ref q, .ref P, .ref e1, .ref e2, .ref e3, .int (bI (am))])), (e1, .inl (cy.1, 12, .inl enA)), (e2, .inl (cy.1, 12, .inl vaA)), (e3, .inl (cy.2.1, 12, .inl miA)), (U, .inr (0, [.ref g, .ref q, .ref P, .ref f1, .ref f2, .ref f3, .int (bI (am2))])), (f1, .inl (cy.1, 12, .inl enB)), (f2, .inl (cy.1, 12, .inl vaB)), (f3, .inl (cy.2.1, 12, .inl miB))]) H) (hD : va_D (zNew s) ([(M, .inr (5, [.int thr, .ref m1, .ref m2, .ref m3, .ref m4, .ref m5, .int (nI fl), .int (nI qt), .int (nI nn), .ref m6, .ref m7, .ref m8, .ref m9, .ref m10, .ref m11, .ref m12, .ref m13, .ref m14, .ref m15, .int (bI (mam))])), (m1, .inl (cy.1, 4, .inl (fun z => nI (fc z)))), (m2, .inl (cy.1, 32, .inl lm)), (m3, .inl (cy.2.1, 32, .inl (fun z => bI (rq z)))), (m4, .inl (cy.1, 32, .inl (fun z => nI (ow z)))), (m5, .inl (cy.1, 640, .inl (fun z => vl (z / 160 * 8 + z % 8) (z % 160 / 8) + 1))), (m6, .inl (cy.1, 12, .inl ab)), (m7, .inl (cy.1, 12, .inl (fun z => nI (sl z % 8)))), (m8, .inl (cy.1, 12, .inl (fun z => nI (sl z / 8)))), (m9, .inl (cy.1, 12, .inl my)), (m10, .inl (cy.1, 48, .inl fw)), (m11, .inl (cy.1, 12, .inl fr)), (m12, .inl (cy.1, 12, .inl rw_)), (m13, .inl (cy.2.1, 12, .inl ms)), (m14, .inl (cy.1, 12, .inl td)), (m15, .inl (cy.1, 12, .inl ot))] ++ [(out, .inl (cy.2.2, 1, .inr (.inl (fun _ => ov)))), (o, .inr (4, [.ref g, .ref q, .ref P, .ref A, .ref U])), (g, .inr (1, [.ref a1, .ref a2, .ref a3, .ref a4, .ref a5, .int (nI fl)])), (a1, .inl (cy.1, 4, .inl (fun z => nI (fc z)))), (a2, .inl (cy.1, 32, .inl ld)), (a3, .inl (cy.2.1, 32, .inl (fun z => bI (rq z)))), (a4, .inl (cy.1, 32, .inl (fun z => nI (ow z)))), (a5, .inl (cy.1, 640, .inl (fun z => vl (z / 20) (z % 20)))), (q, .inr (3, [.ref a, .ref b, .int (nI qt), .int (nI nn)])), (a, .inl (cy.1, 12, .inl ab)), (b, .inl (cy.1, 12, .inl (fun z => nI (sl z)))), (P, .inr (2, [.ref g, .ref q, .ref p1, .ref p2, .ref p3, .ref p4, .int cnt, .int ln, .int (bI (kn)), .int (bI (th))])), (p1, .inl (cy.1, 12, .inl pl)), (p2, .inl (cy.1, 12, .inl chA)), (p3, .inl (cy.1, 48, .inl hbA)), (p4, .inl (cy.1, 12, .inl svA)), (A, .inr (0, [.ref g, .ref q, .ref P, .ref e1, .ref e2, .ref e3, .int (bI (am))])), (e1, .inl (cy.1, 12, .inl enA)), (e2, .inl (cy.1, 12, .inl vaA)), (e3, .inl (cy.2.1, 12, .inl miA)), (U, .inr (0, [.ref g, .ref q, .ref P, .ref f1, .ref f2, .ref f3, .int (bI (am2))])), (f1, .inl (cy.1, 12, .inl enB)), (f2, .inl (cy.1, 12, .inl vaB)), (f3, .inl (cy.2.1, 12, .inl miB))])) (hS : va_S (zNew s) s.heap H locs) (hl : lv_has ls 7 [(0, .ref bs), (1, .ref o), (2, .ref M), (3, .ref out), (4, .int (nI i))])
    (hgo : zGo p l e s m args below meth c Q D cy out o g a1 a2 a3 a4 a5 q a b P p1 p2 p3 p4 A e1 e2 e3 U f1 f2 f3 M m1 m2 m3 m4 m5 m6 m7 m8 m9 m10 m11 m12 m13 m14 m15 bs i (cells + 1) (slots + 6) 1218) : W p l e room_1 s m args below meth c H locs cells slots Q (F0 m 638 ls []) := by
  refine lv_aload_n hx hb dL_law_638 rfl (lv_at hl 1 rfl) ?_
  refine z_callV (b := o) (As := []) (rest := []) ⟨hx, hb, hml, hown, hts⟩ hK hP hS (c_X4_nodes (io := 17) (iq := 24) rfl rfl) cwa 17 4 rfl rfl rfl rfl hl.1 rfl rfl dL_law_639 ⟨by show _ ≤ 1078; omega, by show _ ≤ 10152; omega⟩ (fun H locs hP hS => ?_)
  refine lv_aload_n hx hb dL_law_642 rfl (lv_at hl 2 rfl) ?_
  refine z_callVW (b := M) (As := []) (rest := [.int (nI nn)]) [(m1, .inl (cy.1, 4, .inl (fun z => nI (fc z)))), (m2, .inl (cy.1, 32, .inl lm)), (m3, .inl (cy.2.1, 32, .inl (fun z => bI (rq z)))), (m4, .inl (cy.1, 32, .inl (fun z => nI (ow z)))), (m5, .inl (cy.1, 640, .inl (fun z => vl (z / 160 * 8 + z % 8) (z % 160 / 8) + 1))), (m6, .inl (cy.1, 12, .inl ab)), (m7, .inl (cy.1, 12, .inl (fun z => nI (sl z % 8)))), (m8, .inl (cy.1, 12, .inl (fun z => nI (sl z / 8)))), (m9, .inl (cy.1, 12, .inl my)), (m10, .inl (cy.1, 48, .inl fw)), (m11, .inl (cy.1, 12, .inl fr)), (m12, .inl (cy.1, 12, .inl rw_)), (m13, .inl (cy.2.1, 12, .inl ms)), (m14, .inl (cy.1, 12, .inl td)), (m15, .inl (cy.1, 12, .inl ot)), (out, .inl (cy.2.2, 1, .inr (.inl (fun _ => ov)))), (o, .inr (4, [.ref g, .ref q, .ref P, .ref A, .ref U])), (g, .inr (1, [.ref a1, .ref a2, .ref a3, .ref a4, .ref a5, .int (nI fl)])), (a1, .inl (cy.1, 4, .inl (fun z => nI (fc z)))), (a2, .inl (cy.1, 32, .inl ld)), (a3, .inl (cy.2.1, 32, .inl (fun z => bI (rq z)))), (a4, .inl (cy.1, 32, .inl (fun z => nI (ow z)))), (a5, .inl (cy.1, 640, .inl (fun z => vl (z / 20) (z % 20)))), (q, .inr (3, [.ref a, .ref b, .int (nI qt), .int (nI nn)])), (a, .inl (cy.1, 12, .inl ab)), (b, .inl (cy.1, 12, .inl (fun z => nI (sl z)))), (P, .inr (2, [.ref g, .ref q, .ref p1, .ref p2, .ref p3, .ref p4, .int cnt, .int ln, .int (bI (kn)), .int (bI (th))])), (p1, .inl (cy.1, 12, .inl pl)), (p2, .inl (cy.1, 12, .inl chA)), (p3, .inl (cy.1, 48, .inl hbA)), (p4, .inl (cy.1, 12, .inl svA)), (A, .inr (0, [.ref g, .ref q, .ref P, .ref e1, .ref e2, .ref e3, .int (bI (am))])), (e1, .inl (cy.1, 12, .inl enA)), (e2, .inl (cy.1, 12, .inl vaA)), (e3, .inl (cy.2.1, 12, .inl miA)), (U, .inr (0, [.ref g, .ref q, .ref P, .ref f1, .ref f2, .ref f3, .int (bI (am2))])), (f1, .inl (cy.1, 12, .inl enB)), (f2, .inl (cy.1, 12, .inl vaB)), (f3, .inl (cy.2.1, 12, .inl miB))] ⟨hx, hb, hml, hown, hts⟩ hK hP hD hS c_X5_nodes cwb [0] [1, 2, 3, 4, 5, 6, 7, 8, 9, 10, 11, 12, 13, 14, 15, 16, 17, 18, 19, 20, 21, 22, 23, 24, 25, 26, 27, 28, 29, 30, 31, 32, 33, 34, 35, 36, 37, 38, 39] rfl rfl rfl (fun _ => by rfl) 0 5 rfl rfl rfl rfl hl.1 rfl rfl dL_law_643 ⟨by show _ ≤ 1078; omega, by show _ ≤ 10152; omega⟩ (fun r u H locs hq hP hD hS => ?_)
  refine z_top (y := nI nn) hq ?_
  refine lv_icmp_eq (tgt := 1218) hx hb dL_law_646 (by decide) (fun _ => ?_) (fun cb => absurd rfl cb)
  refine W.widen (k := cells + 1) (n := slots + 6) (by omega) (by omega) ?_
  exact hgo fc ow sl qt nn fl ld ab lm vl rq cnt ln kn th pl chA hbA svA am am2 enA vaA miA enB vaB miB ov ((nI 0)) mam my fw fr rw_ ms td ot G J hkp H locs ls (hP.sub [39, 0, 1, 2, 3, 4, 5, 6, 7, 8, 9, 10, 11, 12, 13, 14, 15, 16, 17, 18, 19, 20, 21, 22, 23, 24, 25, 26, 27, 28, 29, 30, 31, 32, 33, 34, 35, 36, 37, 38] rfl) (hD.sub [39, 0, 1, 2, 3, 4, 5, 6, 7, 8, 9, 10, 11, 12, 13, 14, 15, 16, 17, 18, 19, 20, 21, 22, 23, 24, 25, 26, 27, 28, 29, 30, 31, 32, 33, 34, 35, 36, 37, 38] (by decide) rfl) hS hl
theorem z_and31 (x : Int32) : ∃ k, k < 32 ∧ x &&& nI 31 = nI k := by
  obtain ⟨n, hn, rfl⟩ : ∃ n, n < 2 ^ 32 ∧ x = nI n := ⟨x.toBitVec.toNat, x.toBitVec.isLt, Int32.toBitVec_inj.mp (by show _ = BitVec.ofNat 32 _; simp)⟩
  exact ⟨n % 32, Nat.mod_lt _ (by decide), by rw [nI_and]; exact congrArg nI (Nat.and_two_pow_sub_one_eq_mod n 5)⟩
theorem z_sub5 {L : Nat} (hL : L < 2 ^ 20) : (Int32.ofNat L - nI 5).toInt = (L : Int) - 5 := by
  rcases Nat.lt_or_ge L 5 with z | z
  · have h : ∀ L : Fin 5, (Int32.ofNat L.val - nI 5).toInt = (L.val : Int) - 5 := by decide +kernel
    exact h ⟨L, z⟩
  · rw [show Int32.ofNat L = nI L from rfl, nI_sub z, nI_toInt (by omega)]; omega
set_option maxHeartbeats 8000000 in
set_option maxRecDepth 100000 in
theorem z_loop {p : Program} {l : Launch} {e : Env} {s : State} {m : MethodId} {args : Array Value} {below : List Frame} {meth : Method} {c : Code} {Q : State → Prop} {D : va_G} {cy : zCy} {out o g a1 a2 a3 a4 a5 q a b P p1 p2 p3 p4 A e1 e2 e3 U f1 f2 f3 M m1 m2 m3 m4 m5 m6 m7 m8 m9 m10 m11 m12 m13 m14 m15 bs : Nat} {Ts : List Cond} {L : Nat} {xs : Nat → Int32} (hl9 : l.stackTraces = false) (hx : p.tables.exec = Jvm.exec) (hb : c.code = cL_law) (hml : c.maxLocals = 7) (hown : s.vm.findClass RL = some m.cls) (hts : ∀ w ∈ Ts, w.before args s = true) (hK : zK D cy s) (hX0 : va_X bs L xs s s.heap) (hbl : bs < s.heap.size) (hL : L ≤ 2560) (hTs : zTs s) (hTh : zTh (zNew s) s s.heap)
    (k_addField : (vx_CSW room_1 s args RL 78 yL_addField cL_addField 6 (some .int) [(0, 12, 15, 13), (0, 12, 19, 15)] wsL_addField rmL_addField_k 0 0 5) ∧ (vx_CSW room_1 s args RL 78 yL_addField cL_addField 6 (some .int) [(0, 12, 15, 13), (0, 12, 19, 15)] wsL_addField rmL_addField 1 6 5) ∧ (CallW room_1 s args RL RX5 83 yX5_addField cX5_addField 5 (some .int) wsX5_addField rmX5_addField 0 0 3) ∧ (CallW room_1 s args RL RX5 84 yX5_thrown cX5_thrown 1 (some .int) wsX5_thrown rmX5_thrown 0 0 0))
    (k_own : (vx_CSW room_1 s args RL 87 yL_own cL_own 7 (some .int) [(0, 21, 24, 13), (0, 21, 28, 21)] wsL_own rmL_own_k 0 0 6) ∧ (vx_CSW room_1 s args RL 87 yL_own cL_own 7 (some .int) [(0, 21, 24, 13), (0, 21, 28, 21)] wsL_own rmL_own 1 6 6) ∧ (CallW room_1 s args RL RX5 90 yX5_own cX5_own 7 (some .boolean) wsX5_own rmX5_own 0 0 4) ∧ (CallW room_1 s args RL RX5 84 yX5_thrown cX5_thrown 1 (some .int) wsX5_thrown rmX5_thrown 0 0 0))
    (k_set : (vx_CSW room_1 s args RL 91 yL_set cL_set 7 (some .int) [(0, 14, 17, 13), (0, 14, 21, 21)] wsL_set rmL_set_k 0 0 6) ∧ (vx_CSW room_1 s args RL 91 yL_set cL_set 7 (some .int) [(0, 14, 17, 13), (0, 14, 21, 21)] wsL_set rmL_set 1 6 6) ∧ (CallW room_1 s args RL RX5 94 yX5_set cX5_set 7 (some .int) wsX5_set rmX5_set 0 0 4) ∧ (CallW room_1 s args RL RX5 84 yX5_thrown cX5_thrown 1 (some .int) wsX5_thrown rmX5_thrown 0 0 0))
    (k_fail : (vx_CSW room_1 s args RL 95 yL_fail cL_fail 5 (some .int) [(0, 17, 20, 13)] wsL_fail rmL_fail_k 0 0 4) ∧ (vx_CSW room_1 s args RL 95 yL_fail cL_fail 5 (some .int) [(0, 17, 20, 13)] wsL_fail rmL_fail 1 6 4) ∧ (CallW room_1 s args RL RX5 98 yX5_fail cX5_fail 4 (some .boolean) wsX5_fail rmX5_fail 0 0 2) ∧ (CallW room_1 s args RL RX5 84 yX5_thrown cX5_thrown 1 (some .int) wsX5_thrown rmX5_thrown 0 0 0))
    (k_begin : (vx_CSW room_1 s args RL 99 yL_begin cL_begin 4 (some .int) [(0, 9, 12, 13)] wsL_begin rmL_begin_k 0 0 3) ∧ (vx_CSW room_1 s args RL 99 yL_begin cL_begin 4 (some .int) [(0, 9, 12, 13)] wsL_begin rmL_begin 1 6 3) ∧ (CallW room_1 s args RL RX5 102 yX5_begin cX5_begin 3 (some .int) wsX5_begin rmX5_begin 0 0 1) ∧ (CallW room_1 s args RL RX5 84 yX5_thrown cX5_thrown 1 (some .int) wsX5_thrown rmX5_thrown 0 0 0))
    (k_node : (vx_CSW room_1 s args RL 103 yL_node cL_node 5 (some .int) [(0, 10, 13, 21), (0, 10, 17, 15)] wsL_node rmL_node_k 0 0 4) ∧ (vx_CSW room_1 s args RL 103 yL_node cL_node 5 (some .int) [(0, 10, 13, 21), (0, 10, 17, 15)] wsL_node rmL_node 1 6 4) ∧ (CallW room_1 s args RL RX5 106 yX5_node cX5_node 7 (some .int) wsX5_node rmX5_node 0 0 2) ∧ (CallW room_1 s args RL RX5 84 yX5_thrown cX5_thrown 1 (some .int) wsX5_thrown rmX5_thrown 0 0 0))
    (k_typeOf : (vx_CSW room_1 s args RL 111 yL_typeOf cL_typeOf 4 (some .int) [(0, 9, 12, 21)] wsL_typeOf rmL_typeOf_k 0 0 3) ∧ (vx_CSW room_1 s args RL 111 yL_typeOf cL_typeOf 4 (some .int) [(0, 9, 12, 21)] wsL_typeOf rmL_typeOf 1 6 3) ∧ (CallW room_1 s args RL RX5 113 yX5_typeOf cX5_typeOf 2 (some .int) wsX5_typeOf rmX5_typeOf 0 0 1) ∧ (CallW room_1 s args RL RX5 84 yX5_thrown cX5_thrown 1 (some .int) wsX5_thrown rmX5_thrown 0 0 0))
    (k_hops : (vx_CSW room_1 s args RL 114 yL_hops cL_hops 3 (some .int) [(0, 8, 11, 15)] wsL_hops rmL_hops_k 0 0 2) ∧ (vx_CSW room_1 s args RL 114 yL_hops cL_hops 3 (some .int) [(0, 8, 11, 15)] wsL_hops rmL_hops 1 6 2) ∧ (CallW room_1 s args RL RX5 117 yX5_hops cX5_hops 1 (some .int) wsX5_hops rmX5_hops 0 0 0) ∧ (CallW room_1 s args RL RX5 84 yX5_thrown cX5_thrown 1 (some .int) wsX5_thrown rmX5_thrown 0 0 0))
    (k_takenFrom : (vx_CSW room_1 s args RL 118 yL_takenFrom cL_takenFrom 4 (some .int) [(0, 9, 12, 21), (0, 9, 15, 15)] wsL_takenFrom rmL_takenFrom_k 0 0 3) ∧ (vx_CSW room_1 s args RL 118 yL_takenFrom cL_takenFrom 4 (some .int) [(0, 9, 12, 21), (0, 9, 15, 15)] wsL_takenFrom rmL_takenFrom 1 6 3) ∧ (CallW room_1 s args RL RX5 120 yX5_takenFrom cX5_takenFrom 2 (some .int) wsX5_takenFrom rmX5_takenFrom 0 0 1) ∧ (CallW room_1 s args RL RX5 84 yX5_thrown cX5_thrown 1 (some .int) wsX5_thrown rmX5_thrown 0 0 0))
    (k_used : (vx_CSW room_1 s args RL 121 yL_used cL_used 3 (some .int) [(0, 8, 11, 15)] wsL_used rmL_used_k 0 0 2) ∧ (vx_CSW room_1 s args RL 121 yL_used cL_used 3 (some .int) [(0, 8, 11, 15)] wsL_used rmL_used 1 6 2) ∧ (CallW room_1 s args RL RX5 123 yX5_used cX5_used 3 (some .int) wsX5_used rmX5_used 0 0 0) ∧ (CallW room_1 s args RL RX5 84 yX5_thrown cX5_thrown 1 (some .int) wsX5_thrown rmX5_thrown 0 0 0))
    (k_value : (vx_CSW room_1 s args RL 124 yL_value cL_value 5 (some .int) [(0, 10, 13, 13), (0, 10, 17, 21), (0, 10, 21, 15)] wsL_value rmL_value_k 0 0 4) ∧ (vx_CSW room_1 s args RL 124 yL_value cL_value 5 (some .int) [(0, 10, 13, 13), (0, 10, 17, 21), (0, 10, 21, 15)] wsL_value rmL_value 1 6 4) ∧ (CallW room_1 s args RL RX5 126 yX5_value cX5_value 3 (some .int) wsX5_value rmX5_value 0 0 2) ∧ (CallW room_1 s args RL RX5 84 yX5_thrown cX5_thrown 1 (some .int) wsX5_thrown rmX5_thrown 0 0 0))
    (k_isMissing : (vx_CSW room_1 s args RL 127 yL_isMissing cL_isMissing 4 (some .int) [(0, 16, 19, 13), (0, 16, 22, 15)] wsL_isMissing rmL_isMissing_k 0 0 3) ∧ (vx_CSW room_1 s args RL 127 yL_isMissing cL_isMissing 4 (some .int) [(0, 16, 19, 13), (0, 16, 22, 15)] wsL_isMissing rmL_isMissing 1 6 3) ∧ (CallW room_1 s args RL RX5 129 yX5_isMissing cX5_isMissing 2 (some .boolean) wsX5_isMissing rmX5_isMissing 0 0 1) ∧ (CallW room_1 s args RL RX5 84 yX5_thrown cX5_thrown 1 (some .int) wsX5_thrown rmX5_thrown 0 0 0))
    (k_faults : (vx_CSW room_1 s args RL 130 yL_faults cL_faults 4 (some .int) [(0, 9, 12, 13), (0, 9, 15, 15)] wsL_faults rmL_faults_k 0 0 3) ∧ (vx_CSW room_1 s args RL 130 yL_faults cL_faults 4 (some .int) [(0, 9, 12, 13), (0, 9, 15, 15)] wsL_faults rmL_faults 1 6 3) ∧ (CallW room_1 s args RL RX5 132 yX5_faults cX5_faults 4 (some .int) wsX5_faults rmX5_faults 0 0 1) ∧ (CallW room_1 s args RL RX5 84 yX5_thrown cX5_thrown 1 (some .int) wsX5_thrown rmX5_thrown 0 0 0))
    (k_loaded : (vx_CSW room_1 s args RL 133 yL_loaded cL_loaded 6 (some .int) [(0, 12, 15, 13), (0, 12, 19, 21), (0, 12, 23, 15)] wsL_loaded rmL_loaded_k 0 0 5) ∧ (vx_CSW room_1 s args RL 133 yL_loaded cL_loaded 6 (some .int) [(0, 12, 15, 13), (0, 12, 19, 21), (0, 12, 23, 15)] wsL_loaded rmL_loaded 1 6 5) ∧ (CallW room_1 s args RL RX5 136 yX5_loaded cX5_loaded 7 (some .int) wsX5_loaded rmX5_loaded 0 0 3) ∧ (CallW room_1 s args RL RX5 84 yX5_thrown cX5_thrown 1 (some .int) wsX5_thrown rmX5_thrown 0 0 0))
    (k_harmed : (vx_CSW room_1 s args RL 137 yL_harmed cL_harmed 3 (some .int) [(0, 8, 11, 15)] wsL_harmed rmL_harmed_k 0 0 2) ∧ (vx_CSW room_1 s args RL 137 yL_harmed cL_harmed 3 (some .int) [(0, 8, 11, 15)] wsL_harmed rmL_harmed 1 6 2) ∧ (CallW room_1 s args RL RX5 139 yX5_harmed cX5_harmed 6 (some .int) wsX5_harmed rmX5_harmed 0 0 0) ∧ (CallW room_1 s args RL RX5 84 yX5_thrown cX5_thrown 1 (some .int) wsX5_thrown rmX5_thrown 0 0 0))
    (k_least : (vx_CSW room_1 s args RL 140 yL_least cL_least 4 (some .int) [(0, 9, 12, 21), (0, 9, 15, 15), (0, 9, 18, 72)] wsL_least rmL_least_k 0 0 3) ∧ (vx_CSW room_1 s args RL 140 yL_least cL_least 4 (some .int) [(0, 9, 12, 21), (0, 9, 15, 15), (0, 9, 18, 72)] wsL_least rmL_least 1 6 3) ∧ (CallW room_1 s args RL RX5 142 yX5_least cX5_least 5 (some .int) wsX5_least rmX5_least 0 0 1) ∧ (CallW room_1 s args RL RX5 84 yX5_thrown cX5_thrown 1 (some .int) wsX5_thrown rmX5_thrown 0 0 0))
    (k_nodes : (CallW room_1 s args RL RX4 107 yX4_nodes cX4_nodes 1 (some .int) wsX4_nodes rmX4_nodes 0 0 0) ∧ (CallW room_1 s args RL RX5 110 yX5_nodes cX5_nodes 1 (some .int) wsX5_nodes rmX5_nodes 0 0 0))
    (hend : ∀ (H : Heap) (ls : Array Slot), W p l e room_1 s m args below meth c H [] 1078 10152 Q (F0 m 1225 ls [.int 1])) : ∀ (fuel i cells slots : Nat), L < i + 5 * fuel → i ≤ L → cells + fuel ≤ 1078 → slots + 6 * fuel ≤ 10152 → zGo p l e s m args below meth c Q D cy out o g a1 a2 a3 a4 a5 q a b P p1 p2 p3 p4 A e1 e2 e3 U f1 f2 f3 M m1 m2 m3 m4 m5 m6 m7 m8 m9 m10 m11 m12 m13 m14 m15 bs i cells slots 23 := by
  intro fuel
  induction fuel with
  | zero => intro i cells slots h1 h2; exact absurd h1 (by omega)
  | succ fuel ih =>
    intro i cells slots h1 h2 h3 h4 fc ow sl qt nn fl ld ab lm vl rq cnt ln kn th pl chA hbA svA am am2 enA vaA miA enB vaB miB ov thr mam my fw fr rw_ ms td ot G J hkp H locs ls hP hD hS hl
    have hbs9 : ¬ zNew s bs := Nat.not_le.mpr hbl
    refine lv_iload hx hb dL_law_23 (lv_at hl 4 rfl) ?_
    refine lv_aload_n hx hb dL_law_25 rfl (lv_at hl 0 rfl) ?_
    refine va_slen hx hb hX0 hbl hbs9 hS dL_law_26 ?_
    refine lv_iconst (v := nI 5) hx hb dL_law_27 (by decide) ?_
    refine lv_isub hx hb dL_law_28 ?_
    refine lv_icmp_gt (tgt := 1224) hx hb dL_law_29 (by decide) (fun cb => ?_) (fun cb => ?_)
    · refine lv_iconst (v := 1) hx hb dL_law_1224 (by decide) ?_
      refine va_forget (fun q hq => hS.2.2 q hq) ?_
      exact W.widen (k := 1078) (n := 10152) (by omega) (by omega) (hend _ _)
    · have hi : i + 5 ≤ L := by
        rcases Nat.lt_or_ge L 5 with z | z
        · exfalso
          refine cb ?_
          refine Int32.lt_iff_toInt_lt.mpr ?_
          rw [show (Int32.ofNat L - nI 5).toInt = (L : Int) - 5 from z_sub5 (by omega), nI_toInt (by omega)]
          omega
        · have h9 : ¬ ((Int32.ofNat L - nI 5).toInt < (nI i).toInt) := fun z9 => cb (Int32.lt_iff_toInt_lt.mpr z9)
          rw [z_sub5 (by omega), nI_toInt (by omega)] at h9
          omega
      have hgo : zGo p l e s m args below meth c Q D cy out o g a1 a2 a3 a4 a5 q a b P p1 p2 p3 p4 A e1 e2 e3 U f1 f2 f3 M m1 m2 m3 m4 m5 m6 m7 m8 m9 m10 m11 m12 m13 m14 m15 bs i (cells + 1) (slots + 6) 1218 := by
        intro fc ow sl qt nn fl ld ab lm vl rq cnt ln kn th pl chA hbA svA am am2 enA vaA miA enB vaB miB ov thr mam my fw fr rw_ ms td ot G J hkp H locs ls hP hD hS hl
        refine lv_iinc (v := nI (i + 5)) (lv' := [(4, .int (nI (i + 5))), (0, .ref bs), (1, .ref o), (2, .ref M), (3, .ref out)]) hx hb dL_law_1218 hl (k := 4) rfl (z_inc5 _) (by decide) rfl (fun ls hl => ?_)
        refine lv_goto (tgt := 23) hx hb dL_law_1221 (by decide) ?_
        exact ih (i + 5) (cells + 1) (slots + 6) (by omega) (by omega) (by omega) (by omega) fc ow sl qt nn fl ld ab lm vl rq cnt ln kn th pl chA hbA svA am am2 enA vaA miA enB vaB miB ov thr mam my fw fr rw_ ms td ot G J hkp H locs ls hP hD hS (lv_sub hl [1, 2, 3, 4, 0] rfl)
      refine lv_aload_n hx hb dL_law_32 rfl (lv_at hl 0 rfl) ?_
      refine lv_iload hx hb dL_law_33 (lv_at hl 4 rfl) ?_
      refine z_sld hx hb hX0 hbl hbs9 hS (k := i) (by omega) hL dL_law_35 ?_
      refine lv_bipush (v := nI 31) hx hb dL_law_36 (by decide) ?_
      refine lv_iand hx hb dL_law_38 ?_
      obtain ⟨k, hk, ek⟩ := z_and31 (xs i)
      refine z_top (y := nI k) ek ?_
      have hrc : cells + 1 ≤ 1078 := by omega
      have hrs : slots + 6 ≤ 10152 := by omega
      by_cases q0 : k = 0
      · subst q0
        refine lv_tableIn (tgt := 120) (off := 81) hx hb dL_law_39 (by decide) (by decide) rfl (by decide) ?_
        exact z_step_addField hl9 hx hb hml hown hts hK hX0 hbl hL hi hrc hrs hTs hTh k_addField.1 k_addField.2.1 k_addField.2.2.1 k_addField.2.2.2 G J hkp hP hD hS hl hgo
      by_cases q1 : k = 1
      · subst q1
        refine lv_tableIn (tgt := 216) (off := 177) hx hb dL_law_39 (by decide) (by decide) rfl (by decide) ?_
        exact z_step_own hl9 hx hb hml hown hts hK hX0 hbl hL hi hrc hrs hTs hTh k_own.1 k_own.2.1 k_own.2.2.1 k_own.2.2.2 G J hkp hP hD hS hl hgo
      by_cases q2 : k = 2
      · subst q2
        refine lv_tableIn (tgt := 331) (off := 292) hx hb dL_law_39 (by decide) (by decide) rfl (by decide) ?_
        exact z_step_set hl9 hx hb hml hown hts hK hX0 hbl hL hi hrc hrs hTs hTh k_set.1 k_set.2.1 k_set.2.2.1 k_set.2.2.2 G J hkp hP hD hS hl hgo
      by_cases q3 : k = 3
      · subst q3
        refine lv_tableIn (tgt := 423) (off := 384) hx hb dL_law_39 (by decide) (by decide) rfl (by decide) ?_
        exact z_step_fail hl9 hx hb hml hown hts hK hX0 hbl hL hi hrc hrs hTs hTh k_fail.1 k_fail.2.1 k_fail.2.2.1 k_fail.2.2.2 G J hkp hP hD hS hl hgo
      by_cases q4 : k = 4
      · subst q4
        refine lv_tableIn (tgt := 514) (off := 475) hx hb dL_law_39 (by decide) (by decide) rfl (by decide) ?_
        exact z_step_begin hl9 hx hb hml hown hts hK hX0 hbl hL hi hrc hrs hTs hTh k_begin.1 k_begin.2.1 k_begin.2.2.1 k_begin.2.2.2 G J hkp hP hD hS hl hgo
      by_cases q5 : k = 5
      · subst q5
        refine lv_tableIn (tgt := 570) (off := 531) hx hb dL_law_39 (by decide) (by decide) rfl (by decide) ?_
        exact z_step_node hl9 hx hb hml hown hts hK hX0 hbl hL hi hrc hrs hTs hTh k_node.1 k_node.2.1 k_node.2.2.1 k_node.2.2.2 G J hkp hP hD hS hl hgo
      by_cases q6 : k = 6
      · subst q6
        refine lv_tableIn (tgt := 638) (off := 599) hx hb dL_law_39 (by decide) (by decide) rfl (by decide) ?_
        exact z_step_nodes hl9 hx hb hml hown hts hK hX0 hbl hL hi hrc hrs hTs hTh k_nodes.1 k_nodes.2 G J hkp hP hD hS hl hgo
      by_cases q7 : k = 7
      · subst q7
        refine lv_tableIn (tgt := 651) (off := 612) hx hb dL_law_39 (by decide) (by decide) rfl (by decide) ?_
        exact z_step_typeOf hl9 hx hb hml hown hts hK hX0 hbl hL hi hrc hrs hTs hTh k_typeOf.1 k_typeOf.2.1 k_typeOf.2.2.1 k_typeOf.2.2.2 G J hkp hP hD hS hl hgo
      by_cases q8 : k = 8
      · subst q8
        refine lv_tableIn (tgt := 707) (off := 668) hx hb dL_law_39 (by decide) (by decide) rfl (by decide) ?_
        exact z_step_hops hl9 hx hb hml hown hts hK hX0 hbl hL hi hrc hrs hTs hTh k_hops.1 k_hops.2.1 k_hops.2.2.1 k_hops.2.2.2 G J hkp hP hD hS hl hgo
      by_cases q9 : k = 9
      · subst q9
        refine lv_tableIn (tgt := 751) (off := 712) hx hb dL_law_39 (by decide) (by decide) rfl (by decide) ?_
        exact z_step_takenFrom hl9 hx hb hml hown hts hK hX0 hbl hL hi hrc hrs hTs hTh k_takenFrom.1 k_takenFrom.2.1 k_takenFrom.2.2.1 k_takenFrom.2.2.2 G J hkp hP hD hS hl hgo
      by_cases q10 : k = 10
      · subst q10
        refine lv_tableIn (tgt := 807) (off := 768) hx hb dL_law_39 (by decide) (by decide) rfl (by decide) ?_
        exact z_step_used hl9 hx hb hml hown hts hK hX0 hbl hL hi hrc hrs hTs hTh k_used.1 k_used.2.1 k_used.2.2.1 k_used.2.2.2 G J hkp hP hD hS hl hgo
      by_cases q11 : k = 11
      · subst q11
        refine lv_tableIn (tgt := 851) (off := 812) hx hb dL_law_39 (by decide) (by decide) rfl (by decide) ?_
        exact z_step_value hl9 hx hb hml hown hts hK hX0 hbl hL hi hrc hrs hTs hTh k_value.1 k_value.2.1 k_value.2.2.1 k_value.2.2.2 G J hkp hP hD hS hl hgo
      by_cases q12 : k = 12
      · subst q12
        refine lv_tableIn (tgt := 919) (off := 880) hx hb dL_law_39 (by decide) (by decide) rfl (by decide) ?_
        exact z_step_isMissing hl9 hx hb hml hown hts hK hX0 hbl hL hi hrc hrs hTs hTh k_isMissing.1 k_isMissing.2.1 k_isMissing.2.2.1 k_isMissing.2.2.2 G J hkp hP hD hS hl hgo
      by_cases q13 : k = 13
      · subst q13
        refine lv_tableIn (tgt := 982) (off := 943) hx hb dL_law_39 (by decide) (by decide) rfl (by decide) ?_
        exact z_step_faults hl9 hx hb hml hown hts hK hX0 hbl hL hi hrc hrs hTs hTh k_faults.1 k_faults.2.1 k_faults.2.2.1 k_faults.2.2.2 G J hkp hP hD hS hl hgo
      by_cases q14 : k = 14
      · subst q14
        refine lv_tableIn (tgt := 1038) (off := 999) hx hb dL_law_39 (by decide) (by decide) rfl (by decide) ?_
        exact z_step_loaded hl9 hx hb hml hown hts hK hX0 hbl hL hi hrc hrs hTs hTh k_loaded.1 k_loaded.2.1 k_loaded.2.2.1 k_loaded.2.2.2 G J hkp hP hD hS hl hgo
      by_cases q15 : k = 15
      · subst q15
        refine lv_tableIn (tgt := 1118) (off := 1079) hx hb dL_law_39 (by decide) (by decide) rfl (by decide) ?_
        exact z_step_harmed hl9 hx hb hml hown hts hK hX0 hbl hL hi hrc hrs hTs hTh k_harmed.1 k_harmed.2.1 k_harmed.2.2.1 k_harmed.2.2.2 G J hkp hP hD hS hl hgo
      by_cases q16 : k = 16
      · subst q16
        refine lv_tableIn (tgt := 1162) (off := 1123) hx hb dL_law_39 (by decide) (by decide) rfl (by decide) ?_
        exact z_step_least hl9 hx hb hml hown hts hK hX0 hbl hL hi hrc hrs hTs hTh k_least.1 k_least.2.1 k_least.2.2.1 k_least.2.2.2 G J hkp hP hD hS hl hgo
      refine lv_tableOut (tgt := 1218) hx hb dL_law_39 (Or.inr (by rw [nI_toInt (by omega)]; omega)) (by decide) ?_
      refine W.widen (k := cells + 1) (n := slots + 6) (by omega) (by omega) ?_
      exact hgo fc ow sl qt nn fl ld ab lm vl rq cnt ln kn th pl chA hbA svA am am2 enA vaA miA enB vaB miB ov thr mam my fw fr rw_ ms td ot G J hkp H locs ls hP hD hS hl
