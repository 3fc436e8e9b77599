/-! ONE CALL OF THE LAW, generic in the contracts of both sides -/
abbrev zNew (s : State) : Nat → Prop := fun q => s.heap.size ≤ q
theorem z_rgD2 (n k : Nat) : (va_nd (List.range' 0 n) && va_nd (List.range' n k) && (List.range' n k).all (fun i => decide (i ∉ List.range' 0 n))) = true := by
  rw [va_nd_of List.nodup_range', va_nd_of List.nodup_range']
  simp [List.mem_range']
  intro x _
  omega
theorem z_at0 {w v : va_W} {q : Nat × va_E} (h : w[0]? = some q) : (w ++ v)[0]? = some q := by rw [List.getElem?_append_left (List.getElem?_eq_some_iff.mp h).1]; exact h
theorem z_atL {w v : va_W} {q : Nat × va_E} (h : v[0]? = some q) : (w ++ v)[w.length]? = some q := by rw [List.getElem?_append_right (Nat.le_refl _), Nat.sub_self]; exact h
set_option maxHeartbeats 4000000 in
set_option maxRecDepth 100000 in
theorem z_case_addField_ok {p : Program} {l : Launch} {e : Env} {s : State} {m : MethodId} {args : Array Value} {below : List Frame} {meth : Method} {c : Code} {H : Heap} {locs : List Loc} {ls : Array Slot} {cells slots : Nat} {Q : State → Prop} {D : va_G} {cy : zCy} {Ts : List Cond} {SX SM : Type} {o M out bs L i : Nat} {xs : Nat → Int32} {wx wm : va_W} {px : SX → Prop} {pm : Int32 → SM → Prop} {wx' : SX → va_W} {wm' : SM → va_W}
    (hx : p.tables.exec = Jvm.exec) (hb : c.code = cL_law) (hml : c.maxLocals = 7) (hown : s.vm.findClass RL = some m.cls) (hts : ∀ w ∈ Ts, w.before args s = true) (hK : zK D cy s) (hX0 : va_X bs L xs s s.heap) (hbl : bs < s.heap.size) (hL : L ≤ 2560) (hi : i + 5 ≤ L) (hrc : cells + 1 ≤ 1078) (hrs : slots + 6 ≤ 10152)
    (hP : va_P D vwCl (wm ++ wx) H) (hD : va_D (zNew s) (wm ++ wx)) (hS : va_S (zNew s) s.heap H locs) (hl : lv_has ls 7 [(0, .ref bs), (1, .ref o), (2, .ref M), (3, .ref out), (4, .int (nI i))])
    (hX : zW SX l yL_addField wsL_addField rmL_addField_k D cy wx [.ref o, .int (xs (i + 1)), .int (xs (i + 2)), .int (bI (decide (¬ xs (i + 3) = 0))), .ref out] (fun r u => r = nI 0 ∧ px u) wx') (hadx : ∀ u, (wx' u).map Prod.fst = wx.map Prod.fst) (cwx : vx_CSW room_1 s args RL 78 yL_addField cL_addField 6 (some .int) [(0, 12, 15, 13), (0, 12, 19, 15)] wsL_addField rmL_addField_k 0 0 5)
    (hM : zW SM l yX5_addField wsX5_addField rmX5_addField D cy wm [.ref M, .int (xs (i + 1)), .int (xs (i + 2)), .int (bI (decide (¬ xs (i + 3) = 0)))] pm wm') (hadm : ∀ u, (wm' u).map Prod.fst = wm.map Prod.fst) (cwm : CallW room_1 s args RL RX5 83 yX5_addField cX5_addField 5 (some .int) wsX5_addField rmX5_addField 0 0 3)
    {mfs : List Value} (hMr : wm[0]? = some (M, .inr (5, mfs))) (hMr2 : ∀ v, ∃ fs, (wm' v)[0]? = some (M, .inr (5, fs))) (hT : ∀ v w, zR l yX5_thrown wsX5_thrown rmX5_thrown D cy (w ++ wm' v) [.ref M] (nI 0)) (cwt : CallW room_1 s args RL RX5 84 yX5_thrown cX5_thrown 1 (some .int) wsX5_thrown rmX5_thrown 0 0 0) {ov : SX → Int64} (hov : ∀ u, ∃ rs, wx' u = (out, .inl (cy.2.2, 1, .inr (.inl (fun _ => ov u)))) :: rs) (hval : ∀ u r v, px u → pm r v → ov u = r.toInt64)
    (kk : ∀ (u : SX) (r : Int32) (v : SM) (H : Heap) (locs : List Loc) (ls : Array Slot), px u → pm r v → va_P D vwCl (wm' v ++ wx' u) H → va_D (zNew s) (wm' v ++ wx' u) → va_S (zNew s) s.heap H locs → lv_has ls 7 [(0, .ref bs), (1, .ref o), (2, .ref M), (3, .ref out), (4, .int (nI i))] → W p l e room_1 s m args below meth c H locs (cells + 1) (slots + 6) Q (F0 m 1218 ls [])) : W p l e room_1 s m args below meth c H locs cells slots Q (F0 m 120 ls []) := by
  have hbA : ¬ zNew s bs := Nat.not_le.mpr hbl
  refine lv_aload_n hx hb dL_law_120 rfl (lv_at hl 1 rfl) ?_
  refine lv_aload_n hx hb dL_law_121 rfl (lv_at hl 0 rfl) ?_
  refine lv_iload hx hb dL_law_122 (lv_at hl 4 rfl) ?_
  refine lv_iconst (v := nI 1) hx hb dL_law_124 (by decide) ?_
  refine lv_iadd hx hb dL_law_125 ?_
  refine z_top (y := nI (i + 1)) (nI_add _ _) ?_
  refine z_sld hx hb hX0 hbl hbA hS (k := i + 1) (by omega) hL dL_law_126 ?_
  refine lv_aload_n hx hb dL_law_127 rfl (lv_at hl 0 rfl) ?_
  refine lv_iload hx hb dL_law_128 (lv_at hl 4 rfl) ?_
  refine lv_iconst (v := nI 2) hx hb dL_law_130 (by decide) ?_
  refine lv_iadd hx hb dL_law_131 ?_
  refine z_top (y := nI (i + 2)) (nI_add _ _) ?_
  refine z_sld hx hb hX0 hbl hbA hS (k := i + 2) (by omega) hL dL_law_132 ?_
  refine lv_aload_n hx hb dL_law_133 rfl (lv_at hl 0 rfl) ?_
  refine lv_iload hx hb dL_law_134 (lv_at hl 4 rfl) ?_
  refine lv_iconst (v := nI 3) hx hb dL_law_136 (by decide) ?_
  refine lv_iadd hx hb dL_law_137 ?_
  refine z_top (y := nI (i + 3)) (nI_add _ _) ?_
  refine z_sld hx hb hX0 hbl hbA hS (k := i + 3) (by omega) hL dL_law_138 ?_
  refine lv_if_eq (tgt := 146) hx hb dL_law_139 (by decide) (fun cb1 => ?_) (fun cb1 => ?_)
  · skip
    refine lv_iconst (v := nI 0) hx hb dL_law_146 (by decide) ?_
    refine z_top (y := (bI (decide (¬ xs (i + 3) = 0)))) (bI_no (fun z => z cb1)) ?_
    refine lv_aload_n hx hb dL_law_147 rfl (lv_at hl 3 rfl) ?_
    refine z_lawW (As := [.ref o, .int (xs (i + 1)), .int (xs (i + 2)), .int (bI (decide (¬ xs (i + 3) = 0))), .ref out]) (rest := []) ⟨hx, hb, hml, hown, hts⟩ hK hP hD hS hX cwx hadx rfl hl.1 rfl rfl dL_law_148 ⟨by show _ ≤ 1078; omega, by show _ ≤ 10152; omega⟩ (fun rr u H locs hp hP hD hS => ?_)
    obtain ⟨rfl, hp⟩ := hp
    refine lv_istore (lv' := [(5, .int (nI 0)), (0, .ref bs), (1, .ref o), (2, .ref M), (3, .ref out), (4, .int (nI i))]) hx hb dL_law_151 hl (by decide) rfl (fun ls hl => ?_)
    refine lv_aload_n hx hb dL_law_153 rfl (lv_at hl 3 rfl) ?_
    refine lv_aload_n hx hb dL_law_154 rfl (lv_at hl 1 rfl) ?_
    refine lv_iload hx hb dL_law_155 (lv_at hl 5 rfl) ?_
    refine lv_iconst (v := nI 1) hx hb dL_law_157 (by decide) ?_
    refine lv_iadd hx hb dL_law_158 ?_
    refine z_top (y := nI (i + 1)) (nI_add _ _) ?_
    refine z_sld hx hb hX0 hbl hbA hS (k := i + 1) (by omega) hL dL_law_159 ?_
    refine lv_aload_n hx hb dL_law_160 rfl (lv_at hl 1 rfl) ?_
    refine lv_iload hx hb dL_law_161 (lv_at hl 5 rfl) ?_
    refine lv_iconst (v := nI 2) hx hb dL_law_163 (by decide) ?_
    refine lv_iadd hx hb dL_law_164 ?_
    refine z_top (y := nI (i + 2)) (nI_add _ _) ?_
    refine z_sld hx hb hX0 hbl hbA hS (k := i + 2) (by omega) hL dL_law_165 ?_
    refine lv_aload_n hx hb dL_law_166 rfl (lv_at hl 1 rfl) ?_
    refine lv_iload hx hb dL_law_167 (lv_at hl 5 rfl) ?_
    refine lv_iconst (v := nI 3) hx hb dL_law_169 (by decide) ?_
    refine lv_iadd hx hb dL_law_170 ?_
    refine z_top (y := nI (i + 3)) (nI_add _ _) ?_
    refine z_sld hx hb hX0 hbl hbA hS (k := i + 3) (by omega) hL dL_law_171 ?_
    refine lv_if_eq (tgt := 179) hx hb dL_law_172 (by decide) (fun cb2 => ?_) (fun cb2 => ?_)
    · skip
      refine lv_iconst (v := nI 0) hx hb dL_law_179 (by decide) ?_
      refine z_top (y := (bI (decide (¬ xs (i + 3) = 0)))) (bI_no (fun z => z cb1)) ?_
      refine z_callVW (b := M) (As := [.int (xs (i + 1)), .int (xs (i + 2)), .int (bI (decide (¬ xs (i + 3) = 0)))]) (rest := []) (wx' u) ⟨hx, hb, hml, hown, hts⟩ hK hP hD hS hM cwm (List.range' 0 wm.length) (List.range' wm.length (wx' u).length) (z_rgB _ _) (z_rgA _ _) (z_rgD2 _ _) hadm 0 5 (z_at0 hMr) rfl rfl rfl hl.1 rfl rfl dL_law_180 ⟨by show _ ≤ 1078; omega, by show _ ≤ 10152; omega⟩ (fun r v H locs hq hP hD hS => ?_)
      refine lv_istore (lv' := [(6, .int r), (5, .int (nI 0)), (0, .ref bs), (1, .ref o), (2, .ref M), (3, .ref out), (4, .int (nI i))]) hx hb dL_law_183 hl (by decide) rfl (fun ls hl => ?_)
      refine lv_aload_n hx hb dL_law_185 rfl (lv_at hl 4 rfl) ?_
      obtain ⟨fs2, hMr3⟩ := hMr2 v
      refine z_callV (b := M) (As := []) (rest := []) ⟨hx, hb, hml, hown, hts⟩ hK hP hS (hT v (wx' u)) cwt (wx' u).length 5 (z_atL hMr3) rfl rfl rfl hl.1 rfl rfl dL_law_186 ⟨by show _ ≤ 1078; omega, by show _ ≤ 10152; omega⟩ (fun H locs hP hS => ?_)
      refine lv_iload hx hb dL_law_189 (lv_at hl 1 rfl) ?_
      refine lv_icmp_eq (tgt := 196) hx hb dL_law_191 (by decide) (fun cb3 => ?_) (fun cb3 => ?_)
      · have cb3 : 0 = 0 := zn_eq_t (a := 0) (b := 0) (by omega) (by omega) cb3
        refine lv_iload hx hb dL_law_196 (lv_at hl 1 rfl) ?_
        refine lv_if_ne (tgt := 213) hx hb dL_law_198 (by decide) (fun cb4 => ?_) (fun cb4 => ?_)
        · have cb4 : ¬ (0 = 0) := zn_ne_f (a := 0) (b := 0) (by omega) (by omega) cb4
          exact absurd cb4 (by decide)
        · have cb4 : 0 = 0 := zn_ne_t (a := 0) (b := 0) (by omega) (by omega) cb4
          refine lv_aload_n hx hb dL_law_201 rfl (lv_at hl 5 rfl) ?_
          refine lv_iconst (v := nI 0) hx hb dL_law_202 (by decide) ?_
          obtain ⟨rs9, hov9⟩ := hov u
          refine z_lald (q0 := 0) (ov := ov u) hx hb hK hP (by rw [hov9]; rfl) dL_law_203 ?_
          refine lv_iload hx hb dL_law_204 (lv_at hl 0 rfl) ?_
          refine lv_i2l (v := (r).toInt64) hx hb dL_law_206 rfl ?_
          have hv9 := hval u r v hp hq
          rw [hv9]
          refine z_lcmp0 hx hb dL_law_207 ?_
          refine lv_if_eq (tgt := 213) hx hb dL_law_208 (by decide) (fun cb5 => ?_) (fun cb5 => ?_)
          · have cb5 : 0 = 0 := zn_eq_t (a := 0) (b := 0) (by omega) (by omega) cb5
            refine lv_goto (tgt := 1218) hx hb dL_law_213 (by decide) ?_
            refine W.widen (k := cells + 1) (n := slots + 6) (by omega) (by omega) ?_
            exact kk u r v _ _ _ hp hq (z_swapP hP) (z_swapD hD) hS (lv_sub hl [2, 3, 4, 5, 6] rfl)
          · have cb5 : ¬ (0 = 0) := zn_eq_f (a := 0) (b := 0) (by omega) (by omega) cb5
            exact absurd cb5 (by decide)
      · have cb3 : ¬ (0 = 0) := zn_eq_f (a := 0) (b := 0) (by omega) (by omega) cb3
        exact absurd cb3 (by decide)
    · skip
      exact absurd cb1 cb2
  · skip
    refine lv_iconst (v := nI 1) hx hb dL_law_142 (by decide) ?_
    refine lv_goto (tgt := 147) hx hb dL_law_143 (by decide) ?_
    refine z_top (y := (bI (decide (¬ xs (i + 3) = 0)))) (bI_yes cb1) ?_
    refine lv_aload_n hx hb dL_law_147 rfl (lv_at hl 3 rfl) ?_
    refine z_lawW (As := [.ref o, .int (xs (i + 1)), .int (xs (i + 2)), .int (bI (decide (¬ xs (i + 3) = 0))), .ref out]) (rest := []) ⟨hx, hb, hml, hown, hts⟩ hK hP hD hS hX cwx hadx rfl hl.1 rfl rfl dL_law_148 ⟨by show _ ≤ 1078; omega, by show _ ≤ 10152; omega⟩ (fun rr u H locs hp hP hD hS => ?_)
    obtain ⟨rfl, hp⟩ := hp
    refine lv_istore (lv' := [(5, .int (nI 0)), (0, .ref bs), (1, .ref o), (2, .ref M), (3, .ref out), (4, .int (nI i))]) hx hb dL_law_151 hl (by decide) rfl (fun ls hl => ?_)
    refine lv_aload_n hx hb dL_law_153 rfl (lv_at hl 3 rfl) ?_
    refine lv_aload_n hx hb dL_law_154 rfl (lv_at hl 1 rfl) ?_
    refine lv_iload hx hb dL_law_155 (lv_at hl 5 rfl) ?_
    refine lv_iconst (v := nI 1) hx hb dL_law_157 (by decide) ?_
    refine lv_iadd hx hb dL_law_158 ?_
    refine z_top (y := nI (i + 1)) (nI_add _ _) ?_
    refine z_sld hx hb hX0 hbl hbA hS (k := i + 1) (by omega) hL dL_law_159 ?_
    refine lv_aload_n hx hb dL_law_160 rfl (lv_at hl 1 rfl) ?_
    refine lv_iload hx hb dL_law_161 (lv_at hl 5 rfl) ?_
    refine lv_iconst (v := nI 2) hx hb dL_law_163 (by decide) ?_
    refine lv_iadd hx hb dL_law_164 ?_
    refine z_top (y := nI (i + 2)) (nI_add _ _) ?_
    refine z_sld hx hb hX0 hbl hbA hS (k := i + 2) (by omega) hL dL_law_165 ?_
    refine lv_aload_n hx hb dL_law_166 rfl (lv_at hl 1 rfl) ?_
    refine lv_iload hx hb dL_law_167 (lv_at hl 5 rfl) ?_
    refine lv_iconst (v := nI 3) hx hb dL_law_169 (by decide) ?_
    refine lv_iadd hx hb dL_law_170 ?_
    refine z_top (y := nI (i + 3)) (nI_add _ _) ?_
    refine z_sld hx hb hX0 hbl hbA hS (k := i + 3) (by omega) hL dL_law_171 ?_
    refine lv_if_eq (tgt := 179) hx hb dL_law_172 (by decide) (fun cb6 => ?_) (fun cb6 => ?_)
    · skip
      exact absurd cb6 cb1
    · skip
      refine lv_iconst (v := nI 1) hx hb dL_law_175 (by decide) ?_
      refine lv_goto (tgt := 180) hx hb dL_law_176 (by decide) ?_
      refine z_top (y := (bI (decide (¬ xs (i + 3) = 0)))) (bI_yes cb1) ?_
      refine z_callVW (b := M) (As := [.int (xs (i + 1)), .int (xs (i + 2)), .int (bI (decide (¬ xs (i + 3) = 0)))]) (rest := []) (wx' u) ⟨hx, hb, hml, hown, hts⟩ hK hP hD hS hM cwm (List.range' 0 wm.length) (List.range' wm.length (wx' u).length) (z_rgB _ _) (z_rgA _ _) (z_rgD2 _ _) hadm 0 5 (z_at0 hMr) rfl rfl rfl hl.1 rfl rfl dL_law_180 ⟨by show _ ≤ 1078; omega, by show _ ≤ 10152; omega⟩ (fun r v H locs hq hP hD hS => ?_)
      refine lv_istore (lv' := [(6, .int r), (5, .int (nI 0)), (0, .ref bs), (1, .ref o), (2, .ref M), (3, .ref out), (4, .int (nI i))]) hx hb dL_law_183 hl (by decide) rfl (fun ls hl => ?_)
      refine lv_aload_n hx hb dL_law_185 rfl (lv_at hl 4 rfl) ?_
      obtain ⟨fs2, hMr3⟩ := hMr2 v
      refine z_callV (b := M) (As := []) (rest := []) ⟨hx, hb, hml, hown, hts⟩ hK hP hS (hT v (wx' u)) cwt (wx' u).length 5 (z_atL hMr3) rfl rfl rfl hl.1 rfl rfl dL_law_186 ⟨by show _ ≤ 1078; omega, by show _ ≤ 10152; omega⟩ (fun H locs hP hS => ?_)
      refine lv_iload hx hb dL_law_189 (lv_at hl 1 rfl) ?_
      refine lv_icmp_eq (tgt := 196) hx hb dL_law_191 (by decide) (fun cb7 => ?_) (fun cb7 => ?_)
      · have cb7 : 0 = 0 := zn_eq_t (a := 0) (b := 0) (by omega) (by omega) cb7
        refine lv_iload hx hb dL_law_196 (lv_at hl 1 rfl) ?_
        refine lv_if_ne (tgt := 213) hx hb dL_law_198 (by decide) (fun cb8 => ?_) (fun cb8 => ?_)
        · have cb8 : ¬ (0 = 0) := zn_ne_f (a := 0) (b := 0) (by omega) (by omega) cb8
          exact absurd cb8 (by decide)
        · have cb8 : 0 = 0 := zn_ne_t (a := 0) (b := 0) (by omega) (by omega) cb8
          refine lv_aload_n hx hb dL_law_201 rfl (lv_at hl 5 rfl) ?_
          refine lv_iconst (v := nI 0) hx hb dL_law_202 (by decide) ?_
          obtain ⟨rs9, hov9⟩ := hov u
          refine z_lald (q0 := 0) (ov := ov u) hx hb hK hP (by rw [hov9]; rfl) dL_law_203 ?_
          refine lv_iload hx hb dL_law_204 (lv_at hl 0 rfl) ?_
          refine lv_i2l (v := (r).toInt64) hx hb dL_law_206 rfl ?_
          have hv9 := hval u r v hp hq
          rw [hv9]
          refine z_lcmp0 hx hb dL_law_207 ?_
          refine lv_if_eq (tgt := 213) hx hb dL_law_208 (by decide) (fun cb9 => ?_) (fun cb9 => ?_)
          · have cb9 : 0 = 0 := zn_eq_t (a := 0) (b := 0) (by omega) (by omega) cb9
            refine lv_goto (tgt := 1218) hx hb dL_law_213 (by decide) ?_
            refine W.widen (k := cells + 1) (n := slots + 6) (by omega) (by omega) ?_
            exact kk u r v _ _ _ hp hq (z_swapP hP) (z_swapD hD) hS (lv_sub hl [2, 3, 4, 5, 6] rfl)
          · have cb9 : ¬ (0 = 0) := zn_eq_f (a := 0) (b := 0) (by omega) (by omega) cb9
            exact absurd cb9 (by decide)
      · have cb7 : ¬ (0 = 0) := zn_eq_f (a := 0) (b := 0) (by omega) (by omega) cb7
        exact absurd cb7 (by decide)
set_option maxHeartbeats 4000000 in
set_option maxRecDepth 100000 in
theorem z_case_addField_bad {p : Program} {l : Launch} {e : Env} {s : State} {m : MethodId} {args : Array Value} {below : List Frame} {meth : Method} {c : Code} {H : Heap} {locs : List Loc} {ls : Array Slot} {cells slots : Nat} {Q : State → Prop} {D : va_G} {cy : zCy} {Ts : List Cond} {SX SM : Type} {o M out bs L i : Nat} {xs : Nat → Int32} {wx wm : va_W} {px : SX → Prop} {pm : Int32 → SM → Prop} {wx' : SX → va_W} {wm' : SM → va_W}
    (hx : p.tables.exec = Jvm.exec) (hb : c.code = cL_law) (hml : c.maxLocals = 7) (hown : s.vm.findClass RL = some m.cls) (hts : ∀ w ∈ Ts, w.before args s = true) (hK : zK D cy s) (hX0 : va_X bs L xs s s.heap) (hbl : bs < s.heap.size) (hL : L ≤ 2560) (hi : i + 5 ≤ L) (hrc : cells + 1 ≤ 1078) (hrs : slots + 6 ≤ 10152)
    (hP : va_P D vwCl (wm ++ wx) H) (hD : va_D (zNew s) (wm ++ wx)) (hS : va_S (zNew s) s.heap H locs) (hl : lv_has ls 7 [(0, .ref bs), (1, .ref o), (2, .ref M), (3, .ref out), (4, .int (nI i))])
    {k9 : Nat} (hk1 : 0 < k9) (hk2 : k9 < 4) (hTs : zTs s) (hTh : zTh (zNew s) s s.heap) (hX : zB SX l yL_addField wsL_addField rmL_addField D cy wx [.ref o, .int (xs (i + 1)), .int (xs (i + 2)), .int (bI (decide (¬ xs (i + 3) = 0))), .ref out] (fun r u => r = nI k9 ∧ px u) wx') (hadx : ∀ u, (wx' u).map Prod.fst = wx.map Prod.fst) (cwx : vx_CSW room_1 s args RL 78 yL_addField cL_addField 6 (some .int) [(0, 12, 15, 13), (0, 12, 19, 15)] wsL_addField rmL_addField 1 6 5)
    (hM : zW SM l yX5_addField wsX5_addField rmX5_addField D cy wm [.ref M, .int (xs (i + 1)), .int (xs (i + 2)), .int (bI (decide (¬ xs (i + 3) = 0)))] pm wm') (hadm : ∀ u, (wm' u).map Prod.fst = wm.map Prod.fst) (cwm : CallW room_1 s args RL RX5 83 yX5_addField cX5_addField 5 (some .int) wsX5_addField rmX5_addField 0 0 3)
    {mfs : List Value} (hMr : wm[0]? = some (M, .inr (5, mfs))) (hMr2 : ∀ v, ∃ fs, (wm' v)[0]? = some (M, .inr (5, fs))) (hT : ∀ v w, zR l yX5_thrown wsX5_thrown rmX5_thrown D cy (w ++ wm' v) [.ref M] (nI k9)) (cwt : CallW room_1 s args RL RX5 84 yX5_thrown cX5_thrown 1 (some .int) wsX5_thrown rmX5_thrown 0 0 0)
    (kk : ∀ (u : SX) (r : Int32) (v : SM) (H : Heap) (locs : List Loc) (ls : Array Slot), px u → pm r v → va_P D vwCl (wm' v ++ wx' u) H → va_D (zNew s) (wm' v ++ wx' u) → va_S (zNew s) s.heap H locs → lv_has ls 7 [(0, .ref bs), (1, .ref o), (2, .ref M), (3, .ref out), (4, .int (nI i))] → W p l e room_1 s m args below meth c H locs (cells + 1) (slots + 6) Q (F0 m 1218 ls [])) : W p l e room_1 s m args below meth c H locs cells slots Q (F0 m 120 ls []) := by
  have hbA : ¬ zNew s bs := Nat.not_le.mpr hbl
  refine lv_aload_n hx hb dL_law_120 rfl (lv_at hl 1 rfl) ?_
  refine lv_aload_n hx hb dL_law_121 rfl (lv_at hl 0 rfl) ?_
  refine lv_iload hx hb dL_law_122 (lv_at hl 4 rfl) ?_
  refine lv_iconst (v := nI 1) hx hb dL_law_124 (by decide) ?_
  refine lv_iadd hx hb dL_law_125 ?_
  refine z_top (y := nI (i + 1)) (nI_add _ _) ?_
  refine z_sld hx hb hX0 hbl hbA hS (k := i + 1) (by omega) hL dL_law_126 ?_
  refine lv_aload_n hx hb dL_law_127 rfl (lv_at hl 0 rfl) ?_
  refine lv_iload hx hb dL_law_128 (lv_at hl 4 rfl) ?_
  refine lv_iconst (v := nI 2) hx hb dL_law_130 (by decide) ?_
  refine lv_iadd hx hb dL_law_131 ?_
  refine z_top (y := nI (i + 2)) (nI_add _ _) ?_
  refine z_sld hx hb hX0 hbl hbA hS (k := i + 2) (by omega) hL dL_law_132 ?_
  refine lv_aload_n hx hb dL_law_133 rfl (lv_at hl 0 rfl) ?_
  refine lv_iload hx hb dL_law_134 (lv_at hl 4 rfl) ?_
  refine lv_iconst (v := nI 3) hx hb dL_law_136 (by decide) ?_
  refine lv_iadd hx hb dL_law_137 ?_
  refine z_top (y := nI (i + 3)) (nI_add _ _) ?_
  refine z_sld hx hb hX0 hbl hbA hS (k := i + 3) (by omega) hL dL_law_138 ?_
  refine lv_if_eq (tgt := 146) hx hb dL_law_139 (by decide) (fun cb1 => ?_) (fun cb1 => ?_)
  · skip
    refine lv_iconst (v := nI 0) hx hb dL_law_146 (by decide) ?_
    refine z_top (y := (bI (decide (¬ xs (i + 3) = 0)))) (bI_no (fun z => z cb1)) ?_
    refine lv_aload_n hx hb dL_law_147 rfl (lv_at hl 3 rfl) ?_
    refine z_lawB (As := [.ref o, .int (xs (i + 1)), .int (xs (i + 2)), .int (bI (decide (¬ xs (i + 3) = 0))), .ref out]) (rest := []) ⟨hx, hb, hml, hown, hts⟩ hK hP hD hS hTs hTh hX cwx hadx rfl hl.1 rfl rfl dL_law_148 ⟨by show _ ≤ 1078; omega, by show _ ≤ 10152; omega⟩ (fun rr u H locs hp hP hD hS => ?_)
    obtain ⟨rfl, hp⟩ := hp
    refine lv_istore (lv' := [(5, .int (nI k9)), (0, .ref bs), (1, .ref o), (2, .ref M), (3, .ref out), (4, .int (nI i))]) hx hb dL_law_151 hl (by decide) rfl (fun ls hl => ?_)
    refine lv_aload_n hx hb dL_law_153 rfl (lv_at hl 3 rfl) ?_
    refine lv_aload_n hx hb dL_law_154 rfl (lv_at hl 1 rfl) ?_
    refine lv_iload hx hb dL_law_155 (lv_at hl 5 rfl) ?_
    refine lv_iconst (v := nI 1) hx hb dL_law_157 (by decide) ?_
    refine lv_iadd hx hb dL_law_158 ?_
    refine z_top (y := nI (i + 1)) (nI_add _ _) ?_
    refine z_sld hx hb hX0 hbl hbA hS (k := i + 1) (by omega) hL dL_law_159 ?_
    refine lv_aload_n hx hb dL_law_160 rfl (lv_at hl 1 rfl) ?_
    refine lv_iload hx hb dL_law_161 (lv_at hl 5 rfl) ?_
    refine lv_iconst (v := nI 2) hx hb dL_law_163 (by decide) ?_
    refine lv_iadd hx hb dL_law_164 ?_
    refine z_top (y := nI (i + 2)) (nI_add _ _) ?_
    refine z_sld hx hb hX0 hbl hbA hS (k := i + 2) (by omega) hL dL_law_165 ?_
    refine lv_aload_n hx hb dL_law_166 rfl (lv_at hl 1 rfl) ?_
    refine lv_iload hx hb dL_law_167 (lv_at hl 5 rfl) ?_
    refine lv_iconst (v := nI 3) hx hb dL_law_169 (by decide) ?_
    refine lv_iadd hx hb dL_law_170 ?_
    refine z_top (y := nI (i + 3)) (nI_add _ _) ?_
    refine z_sld hx hb hX0 hbl hbA hS (k := i + 3) (by omega) hL dL_law_171 ?_
    refine lv_if_eq (tgt := 179) hx hb dL_law_172 (by decide) (fun cb2 => ?_) (fun cb2 => ?_)
    · skip
      refine lv_iconst (v := nI 0) hx hb dL_law_179 (by decide) ?_
      refine z_top (y := (bI (decide (¬ xs (i + 3) = 0)))) (bI_no (fun z => z cb1)) ?_
      refine z_callVW (b := M) (As := [.int (xs (i + 1)), .int (xs (i + 2)), .int (bI (decide (¬ xs (i + 3) = 0)))]) (rest := []) (wx' u) ⟨hx, hb, hml, hown, hts⟩ hK hP hD hS hM cwm (List.range' 0 wm.length) (List.range' wm.length (wx' u).length) (z_rgB _ _) (z_rgA _ _) (z_rgD2 _ _) hadm 0 5 (z_at0 hMr) rfl rfl rfl hl.1 rfl rfl dL_law_180 ⟨by show _ ≤ 1078; omega, by show _ ≤ 10152; omega⟩ (fun r v H locs hq hP hD hS => ?_)
      refine lv_istore (lv' := [(6, .int r), (5, .int (nI k9)), (0, .ref bs), (1, .ref o), (2, .ref M), (3, .ref out), (4, .int (nI i))]) hx hb dL_law_183 hl (by decide) rfl (fun ls hl => ?_)
      refine lv_aload_n hx hb dL_law_185 rfl (lv_at hl 4 rfl) ?_
      obtain ⟨fs2, hMr3⟩ := hMr2 v
      refine z_callV (b := M) (As := []) (rest := []) ⟨hx, hb, hml, hown, hts⟩ hK hP hS (hT v (wx' u)) cwt (wx' u).length 5 (z_atL hMr3) rfl rfl rfl hl.1 rfl rfl dL_law_186 ⟨by show _ ≤ 1078; omega, by show _ ≤ 10152; omega⟩ (fun H locs hP hS => ?_)
      refine lv_iload hx hb dL_law_189 (lv_at hl 1 rfl) ?_
      refine lv_icmp_eq (tgt := 196) hx hb dL_law_191 (by decide) (fun cb3 => ?_) (fun cb3 => ?_)
      · have cb3 : k9 = k9 := zn_eq_t (a := k9) (b := k9) (by omega) (by omega) cb3
        refine lv_iload hx hb dL_law_196 (lv_at hl 1 rfl) ?_
        refine lv_if_ne (tgt := 213) hx hb dL_law_198 (by decide) (fun cb4 => ?_) (fun cb4 => ?_)
        · have cb4 : ¬ (k9 = 0) := zn_ne_f (a := k9) (b := 0) (by omega) (by omega) cb4
          refine lv_goto (tgt := 1218) hx hb dL_law_213 (by decide) ?_
          exact kk u r v _ _ _ hp hq (z_swapP hP) (z_swapD hD) hS (lv_sub hl [2, 3, 4, 5, 6] rfl)
        · have cb4 : k9 = 0 := zn_ne_t (a := k9) (b := 0) (by omega) (by omega) cb4
          exact absurd cb4 (by omega)
      · have cb3 : ¬ (k9 = k9) := zn_eq_f (a := k9) (b := k9) (by omega) (by omega) cb3
        exact absurd rfl cb3
    · skip
      exact absurd cb1 cb2
  · skip
    refine lv_iconst (v := nI 1) hx hb dL_law_142 (by decide) ?_
    refine lv_goto (tgt := 147) hx hb dL_law_143 (by decide) ?_
    refine z_top (y := (bI (decide (¬ xs (i + 3) = 0)))) (bI_yes cb1) ?_
    refine lv_aload_n hx hb dL_law_147 rfl (lv_at hl 3 rfl) ?_
    refine z_lawB (As := [.ref o, .int (xs (i + 1)), .int (xs (i + 2)), .int (bI (decide (¬ xs (i + 3) = 0))), .ref out]) (rest := []) ⟨hx, hb, hml, hown, hts⟩ hK hP hD hS hTs hTh hX cwx hadx rfl hl.1 rfl rfl dL_law_148 ⟨by show _ ≤ 1078; omega, by show _ ≤ 10152; omega⟩ (fun rr u H locs hp hP hD hS => ?_)
    obtain ⟨rfl, hp⟩ := hp
    refine lv_istore (lv' := [(5, .int (nI k9)), (0, .ref bs), (1, .ref o), (2, .ref M), (3, .ref out), (4, .int (nI i))]) hx hb dL_law_151 hl (by decide) rfl (fun ls hl => ?_)
    refine lv_aload_n hx hb dL_law_153 rfl (lv_at hl 3 rfl) ?_
    refine lv_aload_n hx hb dL_law_154 rfl (lv_at hl 1 rfl) ?_
    refine lv_iload hx hb dL_law_155 (lv_at hl 5 rfl) ?_
    refine lv_iconst (v := nI 1) hx hb dL_law_157 (by decide) ?_
    refine lv_iadd hx hb dL_law_158 ?_
    refine z_top (y := nI (i + 1)) (nI_add _ _) ?_
    refine z_sld hx hb hX0 hbl hbA hS (k := i + 1) (by omega) hL dL_law_159 ?_
    refine lv_aload_n hx hb dL_law_160 rfl (lv_at hl 1 rfl) ?_
    refine lv_iload hx hb dL_law_161 (lv_at hl 5 rfl) ?_
    refine lv_iconst (v := nI 2) hx hb dL_law_163 (by decide) ?_
    refine lv_iadd hx hb dL_law_164 ?_
    refine z_top (y := nI (i + 2)) (nI_add _ _) ?_
    refine z_sld hx hb hX0 hbl hbA hS (k := i + 2) (by omega) hL dL_law_165 ?_
    refine lv_aload_n hx hb dL_law_166 rfl (lv_at hl 1 rfl) ?_
    refine lv_iload hx hb dL_law_167 (lv_at hl 5 rfl) ?_
    refine lv_iconst (v := nI 3) hx hb dL_law_169 (by decide) ?_
    refine lv_iadd hx hb dL_law_170 ?_
    refine z_top (y := nI (i + 3)) (nI_add _ _) ?_
    refine z_sld hx hb hX0 hbl hbA hS (k := i + 3) (by omega) hL dL_law_171 ?_
    refine lv_if_eq (tgt := 179) hx hb dL_law_172 (by decide) (fun cb5 => ?_) (fun cb5 => ?_)
    · skip
      exact absurd cb5 cb1
    · skip
      refine lv_iconst (v := nI 1) hx hb dL_law_175 (by decide) ?_
      refine lv_goto (tgt := 180) hx hb dL_law_176 (by decide) ?_
      refine z_top (y := (bI (decide (¬ xs (i + 3) = 0)))) (bI_yes cb1) ?_
      refine z_callVW (b := M) (As := [.int (xs (i + 1)), .int (xs (i + 2)), .int (bI (decide (¬ xs (i + 3) = 0)))]) (rest := []) (wx' u) ⟨hx, hb, hml, hown, hts⟩ hK hP hD hS hM cwm (List.range' 0 wm.length) (List.range' wm.length (wx' u).length) (z_rgB _ _) (z_rgA _ _) (z_rgD2 _ _) hadm 0 5 (z_at0 hMr) rfl rfl rfl hl.1 rfl rfl dL_law_180 ⟨by show _ ≤ 1078; omega, by show _ ≤ 10152; omega⟩ (fun r v H locs hq hP hD hS => ?_)
      refine lv_istore (lv' := [(6, .int r), (5, .int (nI k9)), (0, .ref bs), (1, .ref o), (2, .ref M), (3, .ref out), (4, .int (nI i))]) hx hb dL_law_183 hl (by decide) rfl (fun ls hl => ?_)
      refine lv_aload_n hx hb dL_law_185 rfl (lv_at hl 4 rfl) ?_
      obtain ⟨fs2, hMr3⟩ := hMr2 v
      refine z_callV (b := M) (As := []) (rest := []) ⟨hx, hb, hml, hown, hts⟩ hK hP hS (hT v (wx' u)) cwt (wx' u).length 5 (z_atL hMr3) rfl rfl rfl hl.1 rfl rfl dL_law_186 ⟨by show _ ≤ 1078; omega, by show _ ≤ 10152; omega⟩ (fun H locs hP hS => ?_)
      refine lv_iload hx hb dL_law_189 (lv_at hl 1 rfl) ?_
      refine lv_icmp_eq (tgt := 196) hx hb dL_law_191 (by decide) (fun cb6 => ?_) (fun cb6 => ?_)
      · have cb6 : k9 = k9 := zn_eq_t (a := k9) (b := k9) (by omega) (by omega) cb6
        refine lv_iload hx hb dL_law_196 (lv_at hl 1 rfl) ?_
        refine lv_if_ne (tgt := 213) hx hb dL_law_198 (by decide) (fun cb7 => ?_) (fun cb7 => ?_)
        · have cb7 : ¬ (k9 = 0) := zn_ne_f (a := k9) (b := 0) (by omega) (by omega) cb7
          refine lv_goto (tgt := 1218) hx hb dL_law_213 (by decide) ?_
          exact kk u r v _ _ _ hp hq (z_swapP hP) (z_swapD hD) hS (lv_sub hl [2, 3, 4, 5, 6] rfl)
        · have cb7 : k9 = 0 := zn_ne_t (a := k9) (b := 0) (by omega) (by omega) cb7
          exact absurd cb7 (by omega)
      · have cb6 : ¬ (k9 = k9) := zn_eq_f (a := k9) (b := k9) (by omega) (by omega) cb6
        exact absurd rfl cb6
set_option maxHeartbeats 4000000 in
set_option maxRecDepth 100000 in
theorem z_case_own_ok {p : Program} {l : Launch} {e : Env} {s : State} {m : MethodId} {args : Array Value} {below : List Frame} {meth : Method} {c : Code} {H : Heap} {locs : List Loc} {ls : Array Slot} {cells slots : Nat} {Q : State → Prop} {D : va_G} {cy : zCy} {Ts : List Cond} {SX SM : Type} {o M out bs L i : Nat} {xs : Nat → Int32} {wx wm : va_W} {px : SX → Prop} {pm : Int32 → SM → Prop} {wx' : SX → va_W} {wm' : SM → va_W}
    (hx : p.tables.exec = Jvm.exec) (hb : c.code = cL_law) (hml : c.maxLocals = 7) (hown : s.vm.findClass RL = some m.cls) (hts : ∀ w ∈ Ts, w.before args s = true) (hK : zK D cy s) (hX0 : va_X bs L xs s s.heap) (hbl : bs < s.heap.size) (hL : L ≤ 2560) (hi : i + 5 ≤ L) (hrc : cells + 1 ≤ 1078) (hrs : slots + 6 ≤ 10152)
    (hP : va_P D vwCl (wm ++ wx) H) (hD : va_D (zNew s) (wm ++ wx)) (hS : va_S (zNew s) s.heap H locs) (hl : lv_has ls 7 [(0, .ref bs), (1, .ref o), (2, .ref M), (3, .ref out), (4, .int (nI i))])
    (hX : zW SX l yL_own wsL_own rmL_own_k D cy wx [.ref o, .int (xs (i + 1)), .int (xs (i + 2)), .int (xs (i + 3)), .int (bI (decide (¬ xs (i + 4) = 0))), .ref out] (fun r u => r = nI 0 ∧ px u) wx') (hadx : ∀ u, (wx' u).map Prod.fst = wx.map Prod.fst) (cwx : vx_CSW room_1 s args RL 87 yL_own cL_own 7 (some .int) [(0, 21, 24, 13), (0, 21, 28, 21)] wsL_own rmL_own_k 0 0 6)
    (hM : zW SM l yX5_own wsX5_own rmX5_own D cy wm [.ref M, .int (xs (i + 1)), .int (xs (i + 2)), .int (xs (i + 3)), .int (bI (decide (¬ xs (i + 4) = 0)))] pm wm') (hadm : ∀ u, (wm' u).map Prod.fst = wm.map Prod.fst) (cwm : CallW room_1 s args RL RX5 90 yX5_own cX5_own 7 (some .boolean) wsX5_own rmX5_own 0 0 4)
    {mfs : List Value} (hMr : wm[0]? = some (M, .inr (5, mfs))) (hMr2 : ∀ v, ∃ fs, (wm' v)[0]? = some (M, .inr (5, fs))) (hT : ∀ v w, zR l yX5_thrown wsX5_thrown rmX5_thrown D cy (w ++ wm' v) [.ref M] (nI 0)) (cwt : CallW room_1 s args RL RX5 84 yX5_thrown cX5_thrown 1 (some .int) wsX5_thrown rmX5_thrown 0 0 0) {ov : SX → Int64} (hov : ∀ u, ∃ rs, wx' u = (out, .inl (cy.2.2, 1, .inr (.inl (fun _ => ov u)))) :: rs) (hval : ∀ u r v, px u → pm r v → ov u = (if r = 0 then 0 else 1))
    (kk : ∀ (u : SX) (r : Int32) (v : SM) (H : Heap) (locs : List Loc) (ls : Array Slot), px u → pm r v → va_P D vwCl (wm' v ++ wx' u) H → va_D (zNew s) (wm' v ++ wx' u) → va_S (zNew s) s.heap H locs → lv_has ls 7 [(0, .ref bs), (1, .ref o), (2, .ref M), (3, .ref out), (4, .int (nI i))] → W p l e room_1 s m args below meth c H locs (cells + 1) (slots + 6) Q (F0 m 1218 ls [])) : W p l e room_1 s m args below meth c H locs cells slots Q (F0 m 216 ls []) := by
  have hbA : ¬ zNew s bs := Nat.not_le.mpr hbl
  refine lv_aload_n hx hb dL_law_216 rfl (lv_at hl 1 rfl) ?_
  refine lv_aload_n hx hb dL_law_217 rfl (lv_at hl 0 rfl) ?_
  refine lv_iload hx hb dL_law_218 (lv_at hl 4 rfl) ?_
  refine lv_iconst (v := nI 1) hx hb dL_law_220 (by decide) ?_
  refine lv_iadd hx hb dL_law_221 ?_
  refine z_top (y := nI (i + 1)) (nI_add _ _) ?_
  refine z_sld hx hb hX0 hbl hbA hS (k := i + 1) (by omega) hL dL_law_222 ?_
  refine lv_aload_n hx hb dL_law_223 rfl (lv_at hl 0 rfl) ?_
  refine lv_iload hx hb dL_law_224 (lv_at hl 4 rfl) ?_
  refine lv_iconst (v := nI 2) hx hb dL_law_226 (by decide) ?_
  refine lv_iadd hx hb dL_law_227 ?_
  refine z_top (y := nI (i + 2)) (nI_add _ _) ?_
  refine z_sld hx hb hX0 hbl hbA hS (k := i + 2) (by omega) hL dL_law_228 ?_
  refine lv_aload_n hx hb dL_law_229 rfl (lv_at hl 0 rfl) ?_
  refine lv_iload hx hb dL_law_230 (lv_at hl 4 rfl) ?_
  refine lv_iconst (v := nI 3) hx hb dL_law_232 (by decide) ?_
  refine lv_iadd hx hb dL_law_233 ?_
  refine z_top (y := nI (i + 3)) (nI_add _ _) ?_
  refine z_sld hx hb hX0 hbl hbA hS (k := i + 3) (by omega) hL dL_law_234 ?_
  refine lv_aload_n hx hb dL_law_235 rfl (lv_at hl 0 rfl) ?_
  refine lv_iload hx hb dL_law_236 (lv_at hl 4 rfl) ?_
  refine lv_iconst (v := nI 4) hx hb dL_law_238 (by decide) ?_
  refine lv_iadd hx hb dL_law_239 ?_
  refine z_top (y := nI (i + 4)) (nI_add _ _) ?_
  refine z_sld hx hb hX0 hbl hbA hS (k := i + 4) (by omega) hL dL_law_240 ?_
  refine lv_if_eq (tgt := 248) hx hb dL_law_241 (by decide) (fun cb1 => ?_) (fun cb1 => ?_)
  · skip
    refine lv_iconst (v := nI 0) hx hb dL_law_248 (by decide) ?_
    refine z_top (y := (bI (decide (¬ xs (i + 4) = 0)))) (bI_no (fun z => z cb1)) ?_
    refine lv_aload_n hx hb dL_law_249 rfl (lv_at hl 3 rfl) ?_
    refine z_lawW (As := [.ref o, .int (xs (i + 1)), .int (xs (i + 2)), .int (xs (i + 3)), .int (bI (decide (¬ xs (i + 4) = 0))), .ref out]) (rest := []) ⟨hx, hb, hml, hown, hts⟩ hK hP hD hS hX cwx hadx rfl hl.1 rfl rfl dL_law_250 ⟨by show _ ≤ 1078; omega, by show _ ≤ 10152; omega⟩ (fun rr u H locs hp hP hD hS => ?_)
    obtain ⟨rfl, hp⟩ := hp
    refine lv_istore (lv' := [(5, .int (nI 0)), (0, .ref bs), (1, .ref o), (2, .ref M), (3, .ref out), (4, .int (nI i))]) hx hb dL_law_253 hl (by decide) rfl (fun ls hl => ?_)
    refine lv_aload_n hx hb dL_law_255 rfl (lv_at hl 3 rfl) ?_
    refine lv_aload_n hx hb dL_law_256 rfl (lv_at hl 1 rfl) ?_
    refine lv_iload hx hb dL_law_257 (lv_at hl 5 rfl) ?_
    refine lv_iconst (v := nI 1) hx hb dL_law_259 (by decide) ?_
    refine lv_iadd hx hb dL_law_260 ?_
    refine z_top (y := nI (i + 1)) (nI_add _ _) ?_
    refine z_sld hx hb hX0 hbl hbA hS (k := i + 1) (by omega) hL dL_law_261 ?_
    refine lv_aload_n hx hb dL_law_262 rfl (lv_at hl 1 rfl) ?_
    refine lv_iload hx hb dL_law_263 (lv_at hl 5 rfl) ?_
    refine lv_iconst (v := nI 2) hx hb dL_law_265 (by decide) ?_
    refine lv_iadd hx hb dL_law_266 ?_
    refine z_top (y := nI (i + 2)) (nI_add _ _) ?_
    refine z_sld hx hb hX0 hbl hbA hS (k := i + 2) (by omega) hL dL_law_267 ?_
    refine lv_aload_n hx hb dL_law_268 rfl (lv_at hl 1 rfl) ?_
    refine lv_iload hx hb dL_law_269 (lv_at hl 5 rfl) ?_
    refine lv_iconst (v := nI 3) hx hb dL_law_271 (by decide) ?_
    refine lv_iadd hx hb dL_law_272 ?_
    refine z_top (y := nI (i + 3)) (nI_add _ _) ?_
    refine z_sld hx hb hX0 hbl hbA hS (k := i + 3) (by omega) hL dL_law_273 ?_
    refine lv_aload_n hx hb dL_law_274 rfl (lv_at hl 1 rfl) ?_
    refine lv_iload hx hb dL_law_275 (lv_at hl 5 rfl) ?_
    refine lv_iconst (v := nI 4) hx hb dL_law_277 (by decide) ?_
    refine lv_iadd hx hb dL_law_278 ?_
    refine z_top (y := nI (i + 4)) (nI_add _ _) ?_
    refine z_sld hx hb hX0 hbl hbA hS (k := i + 4) (by omega) hL dL_law_279 ?_
    refine lv_if_eq (tgt := 287) hx hb dL_law_280 (by decide) (fun cb2 => ?_) (fun cb2 => ?_)
    · skip
      refine lv_iconst (v := nI 0) hx hb dL_law_287 (by decide) ?_
      refine z_top (y := (bI (decide (¬ xs (i + 4) = 0)))) (bI_no (fun z => z cb1)) ?_
      refine z_callVW (b := M) (As := [.int (xs (i + 1)), .int (xs (i + 2)), .int (xs (i + 3)), .int (bI (decide (¬ xs (i + 4) = 0)))]) (rest := []) (wx' u) ⟨hx, hb, hml, hown, hts⟩ hK hP hD hS hM cwm (List.range' 0 wm.length) (List.range' wm.length (wx' u).length) (z_rgB _ _) (z_rgA _ _) (z_rgD2 _ _) hadm 0 5 (z_at0 hMr) rfl rfl rfl hl.1 rfl rfl dL_law_288 ⟨by show _ ≤ 1078; omega, by show _ ≤ 10152; omega⟩ (fun r v H locs hq hP hD hS => ?_)
      refine lv_istore (lv' := [(6, .int r), (5, .int (nI 0)), (0, .ref bs), (1, .ref o), (2, .ref M), (3, .ref out), (4, .int (nI i))]) hx hb dL_law_291 hl (by decide) rfl (fun ls hl => ?_)
      refine lv_aload_n hx hb dL_law_293 rfl (lv_at hl 4 rfl) ?_
      obtain ⟨fs2, hMr3⟩ := hMr2 v
      refine z_callV (b := M) (As := []) (rest := []) ⟨hx, hb, hml, hown, hts⟩ hK hP hS (hT v (wx' u)) cwt (wx' u).length 5 (z_atL hMr3) rfl rfl rfl hl.1 rfl rfl dL_law_294 ⟨by show _ ≤ 1078; omega, by show _ ≤ 10152; omega⟩ (fun H locs hP hS => ?_)
      refine lv_iload hx hb dL_law_297 (lv_at hl 1 rfl) ?_
      refine lv_icmp_eq (tgt := 304) hx hb dL_law_299 (by decide) (fun cb3 => ?_) (fun cb3 => ?_)
      · have cb3 : 0 = 0 := zn_eq_t (a := 0) (b := 0) (by omega) (by omega) cb3
        refine lv_iload hx hb dL_law_304 (lv_at hl 1 rfl) ?_
        refine lv_if_ne (tgt := 328) hx hb dL_law_306 (by decide) (fun cb4 => ?_) (fun cb4 => ?_)
        · have cb4 : ¬ (0 = 0) := zn_ne_f (a := 0) (b := 0) (by omega) (by omega) cb4
          exact absurd cb4 (by decide)
        · have cb4 : 0 = 0 := zn_ne_t (a := 0) (b := 0) (by omega) (by omega) cb4
          refine lv_aload_n hx hb dL_law_309 rfl (lv_at hl 5 rfl) ?_
          refine lv_iconst (v := nI 0) hx hb dL_law_310 (by decide) ?_
          obtain ⟨rs9, hov9⟩ := hov u
          refine z_lald (q0 := 0) (ov := ov u) hx hb hK hP (by rw [hov9]; rfl) dL_law_311 ?_
          refine lv_iload hx hb dL_law_312 (lv_at hl 0 rfl) ?_
          refine lv_if_eq (tgt := 321) hx hb dL_law_314 (by decide) (fun cb5 => ?_) (fun cb5 => ?_)
          · skip
            refine lv_lconst (v := 0) hx hb dL_law_321 (by decide) ?_
            have hv9 := (hval u r v hp hq).trans (if_pos cb5)
            rw [hv9]
            refine z_lcmp0 hx hb dL_law_322 ?_
            refine lv_if_eq (tgt := 328) hx hb dL_law_323 (by decide) (fun cb6 => ?_) (fun cb6 => ?_)
            · have cb6 : 0 = 0 := zn_eq_t (a := 0) (b := 0) (by omega) (by omega) cb6
              refine lv_goto (tgt := 1218) hx hb dL_law_328 (by decide) ?_
              refine W.widen (k := cells + 1) (n := slots + 6) (by omega) (by omega) ?_
              exact kk u r v _ _ _ hp hq (z_swapP hP) (z_swapD hD) hS (lv_sub hl [2, 3, 4, 5, 6] rfl)
            · have cb6 : ¬ (0 = 0) := zn_eq_f (a := 0) (b := 0) (by omega) (by omega) cb6
              exact absurd cb6 (by decide)
          · skip
            refine lv_lconst (v := 1) hx hb dL_law_317 (by decide) ?_
            refine lv_goto (tgt := 322) hx hb dL_law_318 (by decide) ?_
            have hv9 := (hval u r v hp hq).trans (if_neg cb5)
            rw [hv9]
            refine z_lcmp0 hx hb dL_law_322 ?_
            refine lv_if_eq (tgt := 328) hx hb dL_law_323 (by decide) (fun cb7 => ?_) (fun cb7 => ?_)
            · have cb7 : 0 = 0 := zn_eq_t (a := 0) (b := 0) (by omega) (by omega) cb7
              refine lv_goto (tgt := 1218) hx hb dL_law_328 (by decide) ?_
              refine W.widen (k := cells + 1) (n := slots + 6) (by omega) (by omega) ?_
              exact kk u r v _ _ _ hp hq (z_swapP hP) (z_swapD hD) hS (lv_sub hl [2, 3, 4, 5, 6] rfl)
            · have cb7 : ¬ (0 = 0) := zn_eq_f (a := 0) (b := 0) (by omega) (by omega) cb7
              exact absurd cb7 (by decide)
      · have cb3 : ¬ (0 = 0) := zn_eq_f (a := 0) (b := 0) (by omega) (by omega) cb3
        exact absurd cb3 (by decide)
    · skip
      exact absurd cb1 cb2
  · skip
    refine lv_iconst (v := nI 1) hx hb dL_law_244 (by decide) ?_
    refine lv_goto (tgt := 249) hx hb dL_law_245 (by decide) ?_
    refine z_top (y := (bI (decide (¬ xs (i + 4) = 0)))) (bI_yes cb1) ?_
    refine lv_aload_n hx hb dL_law_249 rfl (lv_at hl 3 rfl) ?_
    refine z_lawW (As := [.ref o, .int (xs (i + 1)), .int (xs (i + 2)), .int (xs (i + 3)), .int (bI (decide (¬ xs (i + 4) = 0))), .ref out]) (rest := []) ⟨hx, hb, hml, hown, hts⟩ hK hP hD hS hX cwx hadx rfl hl.1 rfl rfl dL_law_250 ⟨by show _ ≤ 1078; omega, by show _ ≤ 10152; omega⟩ (fun rr u H locs hp hP hD hS => ?_)
    obtain ⟨rfl, hp⟩ := hp
    refine lv_istore (lv' := [(5, .int (nI 0)), (0, .ref bs), (1, .ref o), (2, .ref M), (3, .ref out), (4, .int (nI i))]) hx hb dL_law_253 hl (by decide) rfl (fun ls hl => ?_)
    refine lv_aload_n hx hb dL_law_255 rfl (lv_at hl 3 rfl) ?_
    refine lv_aload_n hx hb dL_law_256 rfl (lv_at hl 1 rfl) ?_
    refine lv_iload hx hb dL_law_257 (lv_at hl 5 rfl) ?_
    refine lv_iconst (v := nI 1) hx hb dL_law_259 (by decide) ?_
    refine lv_iadd hx hb dL_law_260 ?_
    refine z_top (y := nI (i + 1)) (nI_add _ _) ?_
    refine z_sld hx hb hX0 hbl hbA hS (k := i + 1) (by omega) hL dL_law_261 ?_
    refine lv_aload_n hx hb dL_law_262 rfl (lv_at hl 1 rfl) ?_
    refine lv_iload hx hb dL_law_263 (lv_at hl 5 rfl) ?_
    refine lv_iconst (v := nI 2) hx hb dL_law_265 (by decide) ?_
    refine lv_iadd hx hb dL_law_266 ?_
    refine z_top (y := nI (i + 2)) (nI_add _ _) ?_
    refine z_sld hx hb hX0 hbl hbA hS (k := i + 2) (by omega) hL dL_law_267 ?_
    refine lv_aload_n hx hb dL_law_268 rfl (lv_at hl 1 rfl) ?_
    refine lv_iload hx hb dL_law_269 (lv_at hl 5 rfl) ?_
    refine lv_iconst (v := nI 3) hx hb dL_law_271 (by decide) ?_
    refine lv_iadd hx hb dL_law_272 ?_
    refine z_top (y := nI (i + 3)) (nI_add _ _) ?_
    refine z_sld hx hb hX0 hbl hbA hS (k := i + 3) (by omega) hL dL_law_273 ?_
    refine lv_aload_n hx hb dL_law_274 rfl (lv_at hl 1 rfl) ?_
    refine lv_iload hx hb dL_law_275 (lv_at hl 5 rfl) ?_
    refine lv_iconst (v := nI 4) hx hb dL_law_277 (by decide) ?_
    refine lv_iadd hx hb dL_law_278 ?_
    refine z_top (y := nI (i + 4)) (nI_add _ _) ?_
    refine z_sld hx hb hX0 hbl hbA hS (k := i + 4) (by omega) hL dL_law_279 ?_
    refine lv_if_eq (tgt := 287) hx hb dL_law_280 (by decide) (fun cb8 => ?_) (fun cb8 => ?_)
    · skip
      exact absurd cb8 cb1
    · skip
      refine lv_iconst (v := nI 1) hx hb dL_law_283 (by decide) ?_
      refine lv_goto (tgt := 288) hx hb dL_law_284 (by decide) ?_
      refine z_top (y := (bI (decide (¬ xs (i + 4) = 0)))) (bI_yes cb1) ?_
      refine z_callVW (b := M) (As := [.int (xs (i + 1)), .int (xs (i + 2)), .int (xs (i + 3)), .int (bI (decide (¬ xs (i + 4) = 0)))]) (rest := []) (wx' u) ⟨hx, hb, hml, hown, hts⟩ hK hP hD hS hM cwm (List.range' 0 wm.length) (List.range' wm.length (wx' u).length) (z_rgB _ _) (z_rgA _ _) (z_rgD2 _ _) hadm 0 5 (z_at0 hMr) rfl rfl rfl hl.1 rfl rfl dL_law_288 ⟨by show _ ≤ 1078; omega, by show _ ≤ 10152; omega⟩ (fun r v H locs hq hP hD hS => ?_)
      refine lv_istore (lv' := [(6, .int r), (5, .int (nI 0)), (0, .ref bs), (1, .ref o), (2, .ref M), (3, .ref out), (4, .int (nI i))]) hx hb dL_law_291 hl (by decide) rfl (fun ls hl => ?_)
      refine lv_aload_n hx hb dL_law_293 rfl (lv_at hl 4 rfl) ?_
      obtain ⟨fs2, hMr3⟩ := hMr2 v
      refine z_callV (b := M) (As := []) (rest := []) ⟨hx, hb, hml, hown, hts⟩ hK hP hS (hT v (wx' u)) cwt (wx' u).length 5 (z_atL hMr3) rfl rfl rfl hl.1 rfl rfl dL_law_294 ⟨by show _ ≤ 1078; omega, by show _ ≤ 10152; omega⟩ (fun H locs hP hS => ?_)
      refine lv_iload hx hb dL_law_297 (lv_at hl 1 rfl) ?_
      refine lv_icmp_eq (tgt := 304) hx hb dL_law_299 (by decide) (fun cb9 => ?_) (fun cb9 => ?_)
      · have cb9 : 0 = 0 := zn_eq_t (a := 0) (b := 0) (by omega) (by omega) cb9
        refine lv_iload hx hb dL_law_304 (lv_at hl 1 rfl) ?_
        refine lv_if_ne (tgt := 328) hx hb dL_law_306 (by decide) (fun cb10 => ?_) (fun cb10 => ?_)
        · have cb10 : ¬ (0 = 0) := zn_ne_f (a := 0) (b := 0) (by omega) (by omega) cb10
          exact absurd cb10 (by decide)
        · have cb10 : 0 = 0 := zn_ne_t (a := 0) (b := 0) (by omega) (by omega) cb10
          refine lv_aload_n hx hb dL_law_309 rfl (lv_at hl 5 rfl) ?_
          refine lv_iconst (v := nI 0) hx hb dL_law_310 (by decide) ?_
          obtain ⟨rs9, hov9⟩ := hov u
          refine z_lald (q0 := 0) (ov := ov u) hx hb hK hP (by rw [hov9]; rfl) dL_law_311 ?_
          refine lv_iload hx hb dL_law_312 (lv_at hl 0 rfl) ?_
          refine lv_if_eq (tgt := 321) hx hb dL_law_314 (by decide) (fun cb11 => ?_) (fun cb11 => ?_)
          · skip
            refine lv_lconst (v := 0) hx hb dL_law_321 (by decide) ?_
            have hv9 := (hval u r v hp hq).trans (if_pos cb11)
            rw [hv9]
            refine z_lcmp0 hx hb dL_law_322 ?_
            refine lv_if_eq (tgt := 328) hx hb dL_law_323 (by decide) (fun cb12 => ?_) (fun cb12 => ?_)
            · have cb12 : 0 = 0 := zn_eq_t (a := 0) (b := 0) (by omega) (by omega) cb12
              refine lv_goto (tgt := 1218) hx hb dL_law_328 (by decide) ?_
              refine W.widen (k := cells + 1) (n := slots + 6) (by omega) (by omega) ?_
              exact kk u r v _ _ _ hp hq (z_swapP hP) (z_swapD hD) hS (lv_sub hl [2, 3, 4, 5, 6] rfl)
            · have cb12 : ¬ (0 = 0) := zn_eq_f (a := 0) (b := 0) (by omega) (by omega) cb12
              exact absurd cb12 (by decide)
          · skip
            refine lv_lconst (v := 1) hx hb dL_law_317 (by decide) ?_
            refine lv_goto (tgt := 322) hx hb dL_law_318 (by decide) ?_
            have hv9 := (hval u r v hp hq).trans (if_neg cb11)
            rw [hv9]
            refine z_lcmp0 hx hb dL_law_322 ?_
            refine lv_if_eq (tgt := 328) hx hb dL_law_323 (by decide) (fun cb13 => ?_) (fun cb13 => ?_)
            · have cb13 : 0 = 0 := zn_eq_t (a := 0) (b := 0) (by omega) (by omega) cb13
              refine lv_goto (tgt := 1218) hx hb dL_law_328 (by decide) ?_
              refine W.widen (k := cells + 1) (n := slots + 6) (by omega) (by omega) ?_
              exact kk u r v _ _ _ hp hq (z_swapP hP) (z_swapD hD) hS (lv_sub hl [2, 3, 4, 5, 6] rfl)
            · have cb13 : ¬ (0 = 0) := zn_eq_f (a := 0) (b := 0) (by omega) (by omega) cb13
              exact absurd cb13 (by decide)
      · have cb9 : ¬ (0 = 0) := zn_eq_f (a := 0) (b := 0) (by omega) (by omega) cb9
        exact absurd cb9 (by decide)
set_option maxHeartbeats 4000000 in
set_option maxRecDepth 100000 in
theorem z_case_own_bad {p : Program} {l : Launch} {e : Env} {s : State} {m : MethodId} {args : Array Value} {below : List Frame} {meth : Method} {c : Code} {H : Heap} {locs : List Loc} {ls : Array Slot} {cells slots : Nat} {Q : State → Prop} {D : va_G} {cy : zCy} {Ts : List Cond} {SX SM : Type} {o M out bs L i : Nat} {xs : Nat → Int32} {wx wm : va_W} {px : SX → Prop} {pm : Int32 → SM → Prop} {wx' : SX → va_W} {wm' : SM → va_W}
    (hx : p.tables.exec = Jvm.exec) (hb : c.code = cL_law) (hml : c.maxLocals = 7) (hown : s.vm.findClass RL = some m.cls) (hts : ∀ w ∈ Ts, w.before args s = true) (hK : zK D cy s) (hX0 : va_X bs L xs s s.heap) (hbl : bs < s.heap.size) (hL : L ≤ 2560) (hi : i + 5 ≤ L) (hrc : cells + 1 ≤ 1078) (hrs : slots + 6 ≤ 10152)
    (hP : va_P D vwCl (wm ++ wx) H) (hD : va_D (zNew s) (wm ++ wx)) (hS : va_S (zNew s) s.heap H locs) (hl : lv_has ls 7 [(0, .ref bs), (1, .ref o), (2, .ref M), (3, .ref out), (4, .int (nI i))])
    {k9 : Nat} (hk1 : 0 < k9) (hk2 : k9 < 4) (hTs : zTs s) (hTh : zTh (zNew s) s s.heap) (hX : zB SX l yL_own wsL_own rmL_own D cy wx [.ref o, .int (xs (i + 1)), .int (xs (i + 2)), .int (xs (i + 3)), .int (bI (decide (¬ xs (i + 4) = 0))), .ref out] (fun r u => r = nI k9 ∧ px u) wx') (hadx : ∀ u, (wx' u).map Prod.fst = wx.map Prod.fst) (cwx : vx_CSW room_1 s args RL 87 yL_own cL_own 7 (some .int) [(0, 21, 24, 13), (0, 21, 28, 21)] wsL_own rmL_own 1 6 6)
    (hM : zW SM l yX5_own wsX5_own rmX5_own D cy wm [.ref M, .int (xs (i + 1)), .int (xs (i + 2)), .int (xs (i + 3)), .int (bI (decide (¬ xs (i + 4) = 0)))] pm wm') (hadm : ∀ u, (wm' u).map Prod.fst = wm.map Prod.fst) (cwm : CallW room_1 s args RL RX5 90 yX5_own cX5_own 7 (some .boolean) wsX5_own rmX5_own 0 0 4)
    {mfs : List Value} (hMr : wm[0]? = some (M, .inr (5, mfs))) (hMr2 : ∀ v, ∃ fs, (wm' v)[0]? = some (M, .inr (5, fs))) (hT : ∀ v w, zR l yX5_thrown wsX5_thrown rmX5_thrown D cy (w ++ wm' v) [.ref M] (nI k9)) (cwt : CallW room_1 s args RL RX5 84 yX5_thrown cX5_thrown 1 (some .int) wsX5_thrown rmX5_thrown 0 0 0)
    (kk : ∀ (u : SX) (r : Int32) (v : SM) (H : Heap) (locs : List Loc) (ls : Array Slot), px u → pm r v → va_P D vwCl (wm' v ++ wx' u) H → va_D (zNew s) (wm' v ++ wx' u) → va_S (zNew s) s.heap H locs → lv_has ls 7 [(0, .ref bs), (1, .ref o), (2, .ref M), (3, .ref out), (4, .int (nI i))] → W p l e room_1 s m args below meth c H locs (cells + 1) (slots + 6) Q (F0 m 1218 ls [])) : W p l e room_1 s m args below meth c H locs cells slots Q (F0 m 216 ls []) := by
  have hbA : ¬ zNew s bs := Nat.not_le.mpr hbl
  refine lv_aload_n hx hb dL_law_216 rfl (lv_at hl 1 rfl) ?_
  refine lv_aload_n hx hb dL_law_217 rfl (lv_at hl 0 rfl) ?_
  refine lv_iload hx hb dL_law_218 (lv_at hl 4 rfl) ?_
  refine lv_iconst (v := nI 1) hx hb dL_law_220 (by decide) ?_
  refine lv_iadd hx hb dL_law_221 ?_
  refine z_top (y := nI (i + 1)) (nI_add _ _) ?_
  refine z_sld hx hb hX0 hbl hbA hS (k := i + 1) (by omega) hL dL_law_222 ?_
  refine lv_aload_n hx hb dL_law_223 rfl (lv_at hl 0 rfl) ?_
  refine lv_iload hx hb dL_law_224 (lv_at hl 4 rfl) ?_
  refine lv_iconst (v := nI 2) hx hb dL_law_226 (by decide) ?_
  refine lv_iadd hx hb dL_law_227 ?_
  refine z_top (y := nI (i + 2)) (nI_add _ _) ?_
  refine z_sld hx hb hX0 hbl hbA hS (k := i + 2) (by omega) hL dL_law_228 ?_
  refine lv_aload_n hx hb dL_law_229 rfl (lv_at hl 0 rfl) ?_
  refine lv_iload hx hb dL_law_230 (lv_at hl 4 rfl) ?_
  refine lv_iconst (v := nI 3) hx hb dL_law_232 (by decide) ?_
  refine lv_iadd hx hb dL_law_233 ?_
  refine z_top (y := nI (i + 3)) (nI_add _ _) ?_
  refine z_sld hx hb hX0 hbl hbA hS (k := i + 3) (by omega) hL dL_law_234 ?_
  refine lv_aload_n hx hb dL_law_235 rfl (lv_at hl 0 rfl) ?_
  refine lv_iload hx hb dL_law_236 (lv_at hl 4 rfl) ?_
  refine lv_iconst (v := nI 4) hx hb dL_law_238 (by decide) ?_
  refine lv_iadd hx hb dL_law_239 ?_
  refine z_top (y := nI (i + 4)) (nI_add _ _) ?_
  refine z_sld hx hb hX0 hbl hbA hS (k := i + 4) (by omega) hL dL_law_240 ?_
  refine lv_if_eq (tgt := 248) hx hb dL_law_241 (by decide) (fun cb1 => ?_) (fun cb1 => ?_)
  · skip
    refine lv_iconst (v := nI 0) hx hb dL_law_248 (by decide) ?_
    refine z_top (y := (bI (decide (¬ xs (i + 4) = 0)))) (bI_no (fun z => z cb1)) ?_
    refine lv_aload_n hx hb dL_law_249 rfl (lv_at hl 3 rfl) ?_
    refine z_lawB (As := [.ref o, .int (xs (i + 1)), .int (xs (i + 2)), .int (xs (i + 3)), .int (bI (decide (¬ xs (i + 4) = 0))), .ref out]) (rest := []) ⟨hx, hb, hml, hown, hts⟩ hK hP hD hS hTs hTh hX cwx hadx rfl hl.1 rfl rfl dL_law_250 ⟨by show _ ≤ 1078; omega, by show _ ≤ 10152; omega⟩ (fun rr u H locs hp hP hD hS => ?_)
    obtain ⟨rfl, hp⟩ := hp
    refine lv_istore (lv' := [(5, .int (nI k9)), (0, .ref bs), (1, .ref o), (2, .ref M), (3, .ref out), (4, .int (nI i))]) hx hb dL_law_253 hl (by decide) rfl (fun ls hl => ?_)
    refine lv_aload_n hx hb dL_law_255 rfl (lv_at hl 3 rfl) ?_
    refine lv_aload_n hx hb dL_law_256 rfl (lv_at hl 1 rfl) ?_
    refine lv_iload hx hb dL_law_257 (lv_at hl 5 rfl) ?_
    refine lv_iconst (v := nI 1) hx hb dL_law_259 (by decide) ?_
    refine lv_iadd hx hb dL_law_260 ?_
    refine z_top (y := nI (i + 1)) (nI_add _ _) ?_
    refine z_sld hx hb hX0 hbl hbA hS (k := i + 1) (by omega) hL dL_law_261 ?_
    refine lv_aload_n hx hb dL_law_262 rfl (lv_at hl 1 rfl) ?_
    refine lv_iload hx hb dL_law_263 (lv_at hl 5 rfl) ?_
    refine lv_iconst (v := nI 2) hx hb dL_law_265 (by decide) ?_
    refine lv_iadd hx hb dL_law_266 ?_
    refine z_top (y := nI (i + 2)) (nI_add _ _) ?_
    refine z_sld hx hb hX0 hbl hbA hS (k := i + 2) (by omega) hL dL_law_267 ?_
    refine lv_aload_n hx hb dL_law_268 rfl (lv_at hl 1 rfl) ?_
    refine lv_iload hx hb dL_law_269 (lv_at hl 5 rfl) ?_
    refine lv_iconst (v := nI 3) hx hb dL_law_271 (by decide) ?_
    refine lv_iadd hx hb dL_law_272 ?_
    refine z_top (y := nI (i + 3)) (nI_add _ _) ?_
    refine z_sld hx hb hX0 hbl hbA hS (k := i + 3) (by omega) hL dL_law_273 ?_
    refine lv_aload_n hx hb dL_law_274 rfl (lv_at hl 1 rfl) ?_
    refine lv_iload hx hb dL_law_275 (lv_at hl 5 rfl) ?_
    refine lv_iconst (v := nI 4) hx hb dL_law_277 (by decide) ?_
    refine lv_iadd hx hb dL_law_278 ?_
    refine z_top (y := nI (i + 4)) (nI_add _ _) ?_
    refine z_sld hx hb hX0 hbl hbA hS (k := i + 4) (by omega) hL dL_law_279 ?_
    refine lv_if_eq (tgt := 287) hx hb dL_law_280 (by decide) (fun cb2 => ?_) (fun cb2 => ?_)
    · skip
      refine lv_iconst (v := nI 0) hx hb dL_law_287 (by decide) ?_
      refine z_top (y := (bI (decide (¬ xs (i + 4) = 0)))) (bI_no (fun z => z cb1)) ?_
      refine z_callVW (b := M) (As := [.int (xs (i + 1)), .int (xs (i + 2)), .int (xs (i + 3)), .int (bI (decide (¬ xs (i + 4) = 0)))]) (rest := []) (wx' u) ⟨hx, hb, hml, hown, hts⟩ hK hP hD hS hM cwm (List.range' 0 wm.length) (List.range' wm.length (wx' u).length) (z_rgB _ _) (z_rgA _ _) (z_rgD2 _ _) hadm 0 5 (z_at0 hMr) rfl rfl rfl hl.1 rfl rfl dL_law_288 ⟨by show _ ≤ 1078; omega, by show _ ≤ 10152; omega⟩ (fun r v H locs hq hP hD hS => ?_)
      refine lv_istore (lv' := [(6, .int r), (5, .int (nI k9)), (0, .ref bs), (1, .ref o), (2, .ref M), (3, .ref out), (4, .int (nI i))]) hx hb dL_law_291 hl (by decide) rfl (fun ls hl => ?_)
      refine lv_aload_n hx hb dL_law_293 rfl (lv_at hl 4 rfl) ?_
      obtain ⟨fs2, hMr3⟩ := hMr2 v
      refine z_callV (b := M) (As := []) (rest := []) ⟨hx, hb, hml, hown, hts⟩ hK hP hS (hT v (wx' u)) cwt (wx' u).length 5 (z_atL hMr3) rfl rfl rfl hl.1 rfl rfl dL_law_294 ⟨by show _ ≤ 1078; omega, by show _ ≤ 10152; omega⟩ (fun H locs hP hS => ?_)
      refine lv_iload hx hb dL_law_297 (lv_at hl 1 rfl) ?_
      refine lv_icmp_eq (tgt := 304) hx hb dL_law_299 (by decide) (fun cb3 => ?_) (fun cb3 => ?_)
      · have cb3 : k9 = k9 := zn_eq_t (a := k9) (b := k9) (by omega) (by omega) cb3
        refine lv_iload hx hb dL_law_304 (lv_at hl 1 rfl) ?_
        refine lv_if_ne (tgt := 328) hx hb dL_law_306 (by decide) (fun cb4 => ?_) (fun cb4 => ?_)
        · have cb4 : ¬ (k9 = 0) := zn_ne_f (a := k9) (b := 0) (by omega) (by omega) cb4
          refine lv_goto (tgt := 1218) hx hb dL_law_328 (by decide) ?_
          exact kk u r v _ _ _ hp hq (z_swapP hP) (z_swapD hD) hS (lv_sub hl [2, 3, 4, 5, 6] rfl)
        · have cb4 : k9 = 0 := zn_ne_t (a := k9) (b := 0) (by omega) (by omega) cb4
          exact absurd cb4 (by omega)
      · have cb3 : ¬ (k9 = k9) := zn_eq_f (a := k9) (b := k9) (by omega) (by omega) cb3
        exact absurd rfl cb3
    · skip
      exact absurd cb1 cb2
  · skip
    refine lv_iconst (v := nI 1) hx hb dL_law_244 (by decide) ?_
    refine lv_goto (tgt := 249) hx hb dL_law_245 (by decide) ?_
    refine z_top (y := (bI (decide (¬ xs (i + 4) = 0)))) (bI_yes cb1) ?_
    refine lv_aload_n hx hb dL_law_249 rfl (lv_at hl 3 rfl) ?_
    refine z_lawB (As := [.ref o, .int (xs (i + 1)), .int (xs (i + 2)), .int (xs (i + 3)), .int (bI (decide (¬ xs (i + 4) = 0))), .ref out]) (rest := []) ⟨hx, hb, hml, hown, hts⟩ hK hP hD hS hTs hTh hX cwx hadx rfl hl.1 rfl rfl dL_law_250 ⟨by show _ ≤ 1078; omega, by show _ ≤ 10152; omega⟩ (fun rr u H locs hp hP hD hS => ?_)
    obtain ⟨rfl, hp⟩ := hp
    refine lv_istore (lv' := [(5, .int (nI k9)), (0, .ref bs), (1, .ref o), (2, .ref M), (3, .ref out), (4, .int (nI i))]) hx hb dL_law_253 hl (by decide) rfl (fun ls hl => ?_)
    refine lv_aload_n hx hb dL_law_255 rfl (lv_at hl 3 rfl) ?_
    refine lv_aload_n hx hb dL_law_256 rfl (lv_at hl 1 rfl) ?_
    refine lv_iload hx hb dL_law_257 (lv_at hl 5 rfl) ?_
    refine lv_iconst (v := nI 1) hx hb dL_law_259 (by decide) ?_
    refine lv_iadd hx hb dL_law_260 ?_
    refine z_top (y := nI (i + 1)) (nI_add _ _) ?_
    refine z_sld hx hb hX0 hbl hbA hS (k := i + 1) (by omega) hL dL_law_261 ?_
    refine lv_aload_n hx hb dL_law_262 rfl (lv_at hl 1 rfl) ?_
    refine lv_iload hx hb dL_law_263 (lv_at hl 5 rfl) ?_
    refine lv_iconst (v := nI 2) hx hb dL_law_265 (by decide) ?_
    refine lv_iadd hx hb dL_law_266 ?_
    refine z_top (y := nI (i + 2)) (nI_add _ _) ?_
    refine z_sld hx hb hX0 hbl hbA hS (k := i + 2) (by omega) hL dL_law_267 ?_
    refine lv_aload_n hx hb dL_law_268 rfl (lv_at hl 1 rfl) ?_
    refine lv_iload hx hb dL_law_269 (lv_at hl 5 rfl) ?_
    refine lv_iconst (v := nI 3) hx hb dL_law_271 (by decide) ?_
    refine lv_iadd hx hb dL_law_272 ?_
    refine z_top (y := nI (i + 3)) (nI_add _ _) ?_
    refine z_sld hx hb hX0 hbl hbA hS (k := i + 3) (by omega) hL dL_law_273 ?_
    refine lv_aload_n hx hb dL_law_274 rfl (lv_at hl 1 rfl) ?_
    refine lv_iload hx hb dL_law_275 (lv_at hl 5 rfl) ?_
    refine lv_iconst (v := nI 4) hx hb dL_law_277 (by decide) ?_
    refine lv_iadd hx hb dL_law_278 ?_
    refine z_top (y := nI (i + 4)) (nI_add _ _) ?_
    refine z_sld hx hb hX0 hbl hbA hS (k := i + 4) (by omega) hL dL_law_279 ?_
    refine lv_if_eq (tgt := 287) hx hb dL_law_280 (by decide) (fun cb5 => ?_) (fun cb5 => ?_)
    · skip
      exact absurd cb5 cb1
    · skip
      refine lv_iconst (v := nI 1) hx hb dL_law_283 (by decide) ?_
      refine lv_goto (tgt := 288) hx hb dL_law_284 (by decide) ?_
      refine z_top (y := (bI (decide (¬ xs (i + 4) = 0)))) (bI_yes cb1) ?_
      refine z_callVW (b := M) (As := [.int (xs (i + 1)), .int (xs (i + 2)), .int (xs (i + 3)), .int (bI (decide (¬ xs (i + 4) = 0)))]) (rest := []) (wx' u) ⟨hx, hb, hml, hown, hts⟩ hK hP hD hS hM cwm (List.range' 0 wm.length) (List.range' wm.length (wx' u).length) (z_rgB _ _) (z_rgA _ _) (z_rgD2 _ _) hadm 0 5 (z_at0 hMr) rfl rfl rfl hl.1 rfl rfl dL_law_288 ⟨by show _ ≤ 1078; omega, by show _ ≤ 10152; omega⟩ (fun r v H locs hq hP hD hS => ?_)
      refine lv_istore (lv' := [(6, .int r), (5, .int (nI k9)), (0, .ref bs), (1, .ref o), (2, .ref M), (3, .ref out), (4, .int (nI i))]) hx hb dL_law_291 hl (by decide) rfl (fun ls hl => ?_)
      refine lv_aload_n hx hb dL_law_293 rfl (lv_at hl 4 rfl) ?_
      obtain ⟨fs2, hMr3⟩ := hMr2 v
      refine z_callV (b := M) (As := []) (rest := []) ⟨hx, hb, hml, hown, hts⟩ hK hP hS (hT v (wx' u)) cwt (wx' u).length 5 (z_atL hMr3) rfl rfl rfl hl.1 rfl rfl dL_law_294 ⟨by show _ ≤ 1078; omega, by show _ ≤ 10152; omega⟩ (fun H locs hP hS => ?_)
      refine lv_iload hx hb dL_law_297 (lv_at hl 1 rfl) ?_
      refine lv_icmp_eq (tgt := 304) hx hb dL_law_299 (by decide) (fun cb6 => ?_) (fun cb6 => ?_)
      · have cb6 : k9 = k9 := zn_eq_t (a := k9) (b := k9) (by omega) (by omega) cb6
        refine lv_iload hx hb dL_law_304 (lv_at hl 1 rfl) ?_
        refine lv_if_ne (tgt := 328) hx hb dL_law_306 (by decide) (fun cb7 => ?_) (fun cb7 => ?_)
        · have cb7 : ¬ (k9 = 0) := zn_ne_f (a := k9) (b := 0) (by omega) (by omega) cb7
          refine lv_goto (tgt := 1218) hx hb dL_law_328 (by decide) ?_
          exact kk u r v _ _ _ hp hq (z_swapP hP) (z_swapD hD) hS (lv_sub hl [2, 3, 4, 5, 6] rfl)
        · have cb7 : k9 = 0 := zn_ne_t (a := k9) (b := 0) (by omega) (by omega) cb7
          exact absurd cb7 (by omega)
      · have cb6 : ¬ (k9 = k9) := zn_eq_f (a := k9) (b := k9) (by omega) (by omega) cb6
        exact absurd rfl cb6
set_option maxHeartbeats 4000000 in
set_option maxRecDepth 100000 in
theorem z_case_set_ok {p : Program} {l : Launch} {e : Env} {s : State} {m : MethodId} {args : Array Value} {below : List Frame} {meth : Method} {c : Code} {H : Heap} {locs : List Loc} {ls : Array Slot} {cells slots : Nat} {Q : State → Prop} {D : va_G} {cy : zCy} {Ts : List Cond} {SX SM : Type} {o M out bs L i : Nat} {xs : Nat → Int32} {wx wm : va_W} {px : SX → Prop} {pm : Int32 → SM → Prop} {wx' : SX → va_W} {wm' : SM → va_W}
    (hx : p.tables.exec = Jvm.exec) (hb : c.code = cL_law) (hml : c.maxLocals = 7) (hown : s.vm.findClass RL = some m.cls) (hts : ∀ w ∈ Ts, w.before args s = true) (hK : zK D cy s) (hX0 : va_X bs L xs s s.heap) (hbl : bs < s.heap.size) (hL : L ≤ 2560) (hi : i + 5 ≤ L) (hrc : cells + 1 ≤ 1078) (hrs : slots + 6 ≤ 10152)
    (hP : va_P D vwCl (wm ++ wx) H) (hD : va_D (zNew s) (wm ++ wx)) (hS : va_S (zNew s) s.heap H locs) (hl : lv_has ls 7 [(0, .ref bs), (1, .ref o), (2, .ref M), (3, .ref out), (4, .int (nI i))])
    (hX : zW SX l yL_set wsL_set rmL_set_k D cy wx [.ref o, .int (xs (i + 1)), .int (xs (i + 2)), .int (xs (i + 3)), .int (xs (i + 4)), .ref out] (fun r u => r = nI 0 ∧ px u) wx') (hadx : ∀ u, (wx' u).map Prod.fst = wx.map Prod.fst) (cwx : vx_CSW room_1 s args RL 91 yL_set cL_set 7 (some .int) [(0, 14, 17, 13), (0, 14, 21, 21)] wsL_set rmL_set_k 0 0 6)
    (hM : zW SM l yX5_set wsX5_set rmX5_set D cy wm [.ref M, .int (xs (i + 1)), .int (xs (i + 2)), .int (xs (i + 3)), .int (xs (i + 4))] pm wm') (hadm : ∀ u, (wm' u).map Prod.fst = wm.map Prod.fst) (cwm : CallW room_1 s args RL RX5 94 yX5_set cX5_set 7 (some .int) wsX5_set rmX5_set 0 0 4)
    {mfs : List Value} (hMr : wm[0]? = some (M, .inr (5, mfs))) (hMr2 : ∀ v, ∃ fs, (wm' v)[0]? = some (M, .inr (5, fs))) (hT : ∀ v w, zR l yX5_thrown wsX5_thrown rmX5_thrown D cy (w ++ wm' v) [.ref M] (nI 0)) (cwt : CallW room_1 s args RL RX5 84 yX5_thrown cX5_thrown 1 (some .int) wsX5_thrown rmX5_thrown 0 0 0) {ov : SX → Int64} (hov : ∀ u, ∃ rs, wx' u = (out, .inl (cy.2.2, 1, .inr (.inl (fun _ => ov u)))) :: rs) (hval : ∀ u r v, px u → pm r v → ov u = r.toInt64)
    (kk : ∀ (u : SX) (r : Int32) (v : SM) (H : Heap) (locs : List Loc) (ls : Array Slot), px u → pm r v → va_P D vwCl (wm' v ++ wx' u) H → va_D (zNew s) (wm' v ++ wx' u) → va_S (zNew s) s.heap H locs → lv_has ls 7 [(0, .ref bs), (1, .ref o), (2, .ref M), (3, .ref out), (4, .int (nI i))] → W p l e room_1 s m args below meth c H locs (cells + 1) (slots + 6) Q (F0 m 1218 ls [])) : W p l e room_1 s m args below meth c H locs cells slots Q (F0 m 331 ls []) := by
  have hbA : ¬ zNew s bs := Nat.not_le.mpr hbl
  refine lv_aload_n hx hb dL_law_331 rfl (lv_at hl 1 rfl) ?_
  refine lv_aload_n hx hb dL_law_332 rfl (lv_at hl 0 rfl) ?_
  refine lv_iload hx hb dL_law_333 (lv_at hl 4 rfl) ?_
  refine lv_iconst (v := nI 1) hx hb dL_law_335 (by decide) ?_
  refine lv_iadd hx hb dL_law_336 ?_
  refine z_top (y := nI (i + 1)) (nI_add _ _) ?_
  refine z_sld hx hb hX0 hbl hbA hS (k := i + 1) (by omega) hL dL_law_337 ?_
  refine lv_aload_n hx hb dL_law_338 rfl (lv_at hl 0 rfl) ?_
  refine lv_iload hx hb dL_law_339 (lv_at hl 4 rfl) ?_
  refine lv_iconst (v := nI 2) hx hb dL_law_341 (by decide) ?_
  refine lv_iadd hx hb dL_law_342 ?_
  refine z_top (y := nI (i + 2)) (nI_add _ _) ?_
  refine z_sld hx hb hX0 hbl hbA hS (k := i + 2) (by omega) hL dL_law_343 ?_
  refine lv_aload_n hx hb dL_law_344 rfl (lv_at hl 0 rfl) ?_
  refine lv_iload hx hb dL_law_345 (lv_at hl 4 rfl) ?_
  refine lv_iconst (v := nI 3) hx hb dL_law_347 (by decide) ?_
  refine lv_iadd hx hb dL_law_348 ?_
  refine z_top (y := nI (i + 3)) (nI_add _ _) ?_
  refine z_sld hx hb hX0 hbl hbA hS (k := i + 3) (by omega) hL dL_law_349 ?_
  refine lv_aload_n hx hb dL_law_350 rfl (lv_at hl 0 rfl) ?_
  refine lv_iload hx hb dL_law_351 (lv_at hl 4 rfl) ?_
  refine lv_iconst (v := nI 4) hx hb dL_law_353 (by decide) ?_
  refine lv_iadd hx hb dL_law_354 ?_
  refine z_top (y := nI (i + 4)) (nI_add _ _) ?_
  refine z_sld hx hb hX0 hbl hbA hS (k := i + 4) (by omega) hL dL_law_355 ?_
  refine lv_aload_n hx hb dL_law_356 rfl (lv_at hl 3 rfl) ?_
  refine z_lawW (As := [.ref o, .int (xs (i + 1)), .int (xs (i + 2)), .int (xs (i + 3)), .int (xs (i + 4)), .ref out]) (rest := []) ⟨hx, hb, hml, hown, hts⟩ hK hP hD hS hX cwx hadx rfl hl.1 rfl rfl dL_law_357 ⟨by show _ ≤ 1078; omega, by show _ ≤ 10152; omega⟩ (fun rr u H locs hp hP hD hS => ?_)
  obtain ⟨rfl, hp⟩ := hp
  refine lv_istore (lv' := [(5, .int (nI 0)), (0, .ref bs), (1, .ref o), (2, .ref M), (3, .ref out), (4, .int (nI i))]) hx hb dL_law_360 hl (by decide) rfl (fun ls hl => ?_)
  refine lv_aload_n hx hb dL_law_362 rfl (lv_at hl 3 rfl) ?_
  refine lv_aload_n hx hb dL_law_363 rfl (lv_at hl 1 rfl) ?_
  refine lv_iload hx hb dL_law_364 (lv_at hl 5 rfl) ?_
  refine lv_iconst (v := nI 1) hx hb dL_law_366 (by decide) ?_
  refine lv_iadd hx hb dL_law_367 ?_
  refine z_top (y := nI (i + 1)) (nI_add _ _) ?_
  refine z_sld hx hb hX0 hbl hbA hS (k := i + 1) (by omega) hL dL_law_368 ?_
  refine lv_aload_n hx hb dL_law_369 rfl (lv_at hl 1 rfl) ?_
  refine lv_iload hx hb dL_law_370 (lv_at hl 5 rfl) ?_
  refine lv_iconst (v := nI 2) hx hb dL_law_372 (by decide) ?_
  refine lv_iadd hx hb dL_law_373 ?_
  refine z_top (y := nI (i + 2)) (nI_add _ _) ?_
  refine z_sld hx hb hX0 hbl hbA hS (k := i + 2) (by omega) hL dL_law_374 ?_
  refine lv_aload_n hx hb dL_law_375 rfl (lv_at hl 1 rfl) ?_
  refine lv_iload hx hb dL_law_376 (lv_at hl 5 rfl) ?_
  refine lv_iconst (v := nI 3) hx hb dL_law_378 (by decide) ?_
  refine lv_iadd hx hb dL_law_379 ?_
  refine z_top (y := nI (i + 3)) (nI_add _ _) ?_
  refine z_sld hx hb hX0 hbl hbA hS (k := i + 3) (by omega) hL dL_law_380 ?_
  refine lv_aload_n hx hb dL_law_381 rfl (lv_at hl 1 rfl) ?_
  refine lv_iload hx hb dL_law_382 (lv_at hl 5 rfl) ?_
  refine lv_iconst (v := nI 4) hx hb dL_law_384 (by decide) ?_
  refine lv_iadd hx hb dL_law_385 ?_
  refine z_top (y := nI (i + 4)) (nI_add _ _) ?_
  refine z_sld hx hb hX0 hbl hbA hS (k := i + 4) (by omega) hL dL_law_386 ?_
  refine z_callVW (b := M) (As := [.int (xs (i + 1)), .int (xs (i + 2)), .int (xs (i + 3)), .int (xs (i + 4))]) (rest := []) (wx' u) ⟨hx, hb, hml, hown, hts⟩ hK hP hD hS hM cwm (List.range' 0 wm.length) (List.range' wm.length (wx' u).length) (z_rgB _ _) (z_rgA _ _) (z_rgD2 _ _) hadm 0 5 (z_at0 hMr) rfl rfl rfl hl.1 rfl rfl dL_law_387 ⟨by show _ ≤ 1078; omega, by show _ ≤ 10152; omega⟩ (fun r v H locs hq hP hD hS => ?_)
  refine lv_istore (lv' := [(6, .int r), (5, .int (nI 0)), (0, .ref bs), (1, .ref o), (2, .ref M), (3, .ref out), (4, .int (nI i))]) hx hb dL_law_390 hl (by decide) rfl (fun ls hl => ?_)
  refine lv_aload_n hx hb dL_law_392 rfl (lv_at hl 4 rfl) ?_
  obtain ⟨fs2, hMr3⟩ := hMr2 v
  refine z_callV (b := M) (As := []) (rest := []) ⟨hx, hb, hml, hown, hts⟩ hK hP hS (hT v (wx' u)) cwt (wx' u).length 5 (z_atL hMr3) rfl rfl rfl hl.1 rfl rfl dL_law_393 ⟨by show _ ≤ 1078; omega, by show _ ≤ 10152; omega⟩ (fun H locs hP hS => ?_)
  refine lv_iload hx hb dL_law_396 (lv_at hl 1 rfl) ?_
  refine lv_icmp_eq (tgt := 403) hx hb dL_law_398 (by decide) (fun cb1 => ?_) (fun cb1 => ?_)
  · have cb1 : 0 = 0 := zn_eq_t (a := 0) (b := 0) (by omega) (by omega) cb1
    refine lv_iload hx hb dL_law_403 (lv_at hl 1 rfl) ?_
    refine lv_if_ne (tgt := 420) hx hb dL_law_405 (by decide) (fun cb2 => ?_) (fun cb2 => ?_)
    · have cb2 : ¬ (0 = 0) := zn_ne_f (a := 0) (b := 0) (by omega) (by omega) cb2
      exact absurd cb2 (by decide)
    · have cb2 : 0 = 0 := zn_ne_t (a := 0) (b := 0) (by omega) (by omega) cb2
      refine lv_aload_n hx hb dL_law_408 rfl (lv_at hl 5 rfl) ?_
      refine lv_iconst (v := nI 0) hx hb dL_law_409 (by decide) ?_
      obtain ⟨rs9, hov9⟩ := hov u
      refine z_lald (q0 := 0) (ov := ov u) hx hb hK hP (by rw [hov9]; rfl) dL_law_410 ?_
      refine lv_iload hx hb dL_law_411 (lv_at hl 0 rfl) ?_
      refine lv_i2l (v := (r).toInt64) hx hb dL_law_413 rfl ?_
      have hv9 := hval u r v hp hq
      rw [hv9]
      refine z_lcmp0 hx hb dL_law_414 ?_
      refine lv_if_eq (tgt := 420) hx hb dL_law_415 (by decide) (fun cb3 => ?_) (fun cb3 => ?_)
      · have cb3 : 0 = 0 := zn_eq_t (a := 0) (b := 0) (by omega) (by omega) cb3
        refine lv_goto (tgt := 1218) hx hb dL_law_420 (by decide) ?_
        refine W.widen (k := cells + 1) (n := slots + 6) (by omega) (by omega) ?_
        exact kk u r v _ _ _ hp hq (z_swapP hP) (z_swapD hD) hS (lv_sub hl [2, 3, 4, 5, 6] rfl)
      · have cb3 : ¬ (0 = 0) := zn_eq_f (a := 0) (b := 0) (by omega) (by omega) cb3
        exact absurd cb3 (by decide)
  · have cb1 : ¬ (0 = 0) := zn_eq_f (a := 0) (b := 0) (by omega) (by omega) cb1
    exact absurd cb1 (by decide)
set_option maxHeartbeats 4000000 in
set_option maxRecDepth 100000 in
theorem z_case_set_bad {p : Program} {l : Launch} {e : Env} {s : State} {m : MethodId} {args : Array Value} {below : List Frame} {meth : Method} {c : Code} {H : Heap} {locs : List Loc} {ls : Array Slot} {cells slots : Nat} {Q : State → Prop} {D : va_G} {cy : zCy} {Ts : List Cond} {SX SM : Type} {o M out bs L i : Nat} {xs : Nat → Int32} {wx wm : va_W} {px : SX → Prop} {pm : Int32 → SM → Prop} {wx' : SX → va_W} {wm' : SM → va_W}
    (hx : p.tables.exec = Jvm.exec) (hb : c.code = cL_law) (hml : c.maxLocals = 7) (hown : s.vm.findClass RL = some m.cls) (hts : ∀ w ∈ Ts, w.before args s = true) (hK : zK D cy s) (hX0 : va_X bs L xs s s.heap) (hbl : bs < s.heap.size) (hL : L ≤ 2560) (hi : i + 5 ≤ L) (hrc : cells + 1 ≤ 1078) (hrs : slots + 6 ≤ 10152)
    (hP : va_P D vwCl (wm ++ wx) H) (hD : va_D (zNew s) (wm ++ wx)) (hS : va_S (zNew s) s.heap H locs) (hl : lv_has ls 7 [(0, .ref bs), (1, .ref o), (2, .ref M), (3, .ref out), (4, .int (nI i))])
    {k9 : Nat} (hk1 : 0 < k9) (hk2 : k9 < 4) (hTs : zTs s) (hTh : zTh (zNew s) s s.heap) (hX : zB SX l yL_set wsL_set rmL_set D cy wx [.ref o, .int (xs (i + 1)), .int (xs (i + 2)), .int (xs (i + 3)), .int (xs (i + 4)), .ref out] (fun r u => r = nI k9 ∧ px u) wx') (hadx : ∀ u, (wx' u).map Prod.fst = wx.map Prod.fst) (cwx : vx_CSW room_1 s args RL 91 yL_set cL_set 7 (some .int) [(0, 14, 17, 13), (0, 14, 21, 21)] wsL_set rmL_set 1 6 6)
    (hM : zW SM l yX5_set wsX5_set rmX5_set D cy wm [.ref M, .int (xs (i + 1)), .int (xs (i + 2)), .int (xs (i + 3)), .int (xs (i + 4))] pm wm') (hadm : ∀ u, (wm' u).map Prod.fst = wm.map Prod.fst) (cwm : CallW room_1 s args RL RX5 94 yX5_set cX5_set 7 (some .int) wsX5_set rmX5_set 0 0 4)
    {mfs : List Value} (hMr : wm[0]? = some (M, .inr (5, mfs))) (hMr2 : ∀ v, ∃ fs, (wm' v)[0]? = some (M, .inr (5, fs))) (hT : ∀ v w, zR l yX5_thrown wsX5_thrown rmX5_thrown D cy (w ++ wm' v) [.ref M] (nI k9)) (cwt : CallW room_1 s args RL RX5 84 yX5_thrown cX5_thrown 1 (some .int) wsX5_thrown rmX5_thrown 0 0 0)
    (kk : ∀ (u : SX) (r : Int32) (v : SM) (H : Heap) (locs : List Loc) (ls : Array Slot), px u → pm r v → va_P D vwCl (wm' v ++ wx' u) H → va_D (zNew s) (wm' v ++ wx' u) → va_S (zNew s) s.heap H locs → lv_has ls 7 [(0, .ref bs), (1, .ref o), (2, .ref M), (3, .ref out), (4, .int (nI i))] → W p l e room_1 s m args below meth c H locs (cells + 1) (slots + 6) Q (F0 m 1218 ls [])) : W p l e room_1 s m args below meth c H locs cells slots Q (F0 m 331 ls []) := by
  have hbA : ¬ zNew s bs := Nat.not_le.mpr hbl
  refine lv_aload_n hx hb dL_law_331 rfl (lv_at hl 1 rfl) ?_
  refine lv_aload_n hx hb dL_law_332 rfl (lv_at hl 0 rfl) ?_
  refine lv_iload hx hb dL_law_333 (lv_at hl 4 rfl) ?_
  refine lv_iconst (v := nI 1) hx hb dL_law_335 (by decide) ?_
  refine lv_iadd hx hb dL_law_336 ?_
  refine z_top (y := nI (i + 1)) (nI_add _ _) ?_
  refine z_sld hx hb hX0 hbl hbA hS (k := i + 1) (by omega) hL dL_law_337 ?_
  refine lv_aload_n hx hb dL_law_338 rfl (lv_at hl 0 rfl) ?_
  refine lv_iload hx hb dL_law_339 (lv_at hl 4 rfl) ?_
  refine lv_iconst (v := nI 2) hx hb dL_law_341 (by decide) ?_
  refine lv_iadd hx hb dL_law_342 ?_
  refine z_top (y := nI (i + 2)) (nI_add _ _) ?_
  refine z_sld hx hb hX0 hbl hbA hS (k := i + 2) (by omega) hL dL_law_343 ?_
  refine lv_aload_n hx hb dL_law_344 rfl (lv_at hl 0 rfl) ?_
  refine lv_iload hx hb dL_law_345 (lv_at hl 4 rfl) ?_
  refine lv_iconst (v := nI 3) hx hb dL_law_347 (by decide) ?_
  refine lv_iadd hx hb dL_law_348 ?_
  refine z_top (y := nI (i + 3)) (nI_add _ _) ?_
  refine z_sld hx hb hX0 hbl hbA hS (k := i + 3) (by omega) hL dL_law_349 ?_
  refine lv_aload_n hx hb dL_law_350 rfl (lv_at hl 0 rfl) ?_
  refine lv_iload hx hb dL_law_351 (lv_at hl 4 rfl) ?_
  refine lv_iconst (v := nI 4) hx hb dL_law_353 (by decide) ?_
  refine lv_iadd hx hb dL_law_354 ?_
  refine z_top (y := nI (i + 4)) (nI_add _ _) ?_
  refine z_sld hx hb hX0 hbl hbA hS (k := i + 4) (by omega) hL dL_law_355 ?_
  refine lv_aload_n hx hb dL_law_356 rfl (lv_at hl 3 rfl) ?_
  refine z_lawB (As := [.ref o, .int (xs (i + 1)), .int (xs (i + 2)), .int (xs (i + 3)), .int (xs (i + 4)), .ref out]) (rest := []) ⟨hx, hb, hml, hown, hts⟩ hK hP hD hS hTs hTh hX cwx hadx rfl hl.1 rfl rfl dL_law_357 ⟨by show _ ≤ 1078; omega, by show _ ≤ 10152; omega⟩ (fun rr u H locs hp hP hD hS => ?_)
  obtain ⟨rfl, hp⟩ := hp
  refine lv_istore (lv' := [(5, .int (nI k9)), (0, .ref bs), (1, .ref o), (2, .ref M), (3, .ref out), (4, .int (nI i))]) hx hb dL_law_360 hl (by decide) rfl (fun ls hl => ?_)
  refine lv_aload_n hx hb dL_law_362 rfl (lv_at hl 3 rfl) ?_
  refine lv_aload_n hx hb dL_law_363 rfl (lv_at hl 1 rfl) ?_
  refine lv_iload hx hb dL_law_364 (lv_at hl 5 rfl) ?_
  refine lv_iconst (v := nI 1) hx hb dL_law_366 (by decide) ?_
  refine lv_iadd hx hb dL_law_367 ?_
  refine z_top (y := nI (i + 1)) (nI_add _ _) ?_
  refine z_sld hx hb hX0 hbl hbA hS (k := i + 1) (by omega) hL dL_law_368 ?_
  refine lv_aload_n hx hb dL_law_369 rfl (lv_at hl 1 rfl) ?_
  refine lv_iload hx hb dL_law_370 (lv_at hl 5 rfl) ?_
  refine lv_iconst (v := nI 2) hx hb dL_law_372 (by decide) ?_
  refine lv_iadd hx hb dL_law_373 ?_
  refine z_top (y := nI (i + 2)) (nI_add _ _) ?_
  refine z_sld hx hb hX0 hbl hbA hS (k := i + 2) (by omega) hL dL_law_374 ?_
  refine lv_aload_n hx hb dL_law_375 rfl (lv_at hl 1 rfl) ?_
  refine lv_iload hx hb dL_law_376 (lv_at hl 5 rfl) ?_
  refine lv_iconst (v := nI 3) hx hb dL_law_378 (by decide) ?_
  refine lv_iadd hx hb dL_law_379 ?_
  refine z_top (y := nI (i + 3)) (nI_add _ _) ?_
  refine z_sld hx hb hX0 hbl hbA hS (k := i + 3) (by omega) hL dL_law_380 ?_
  refine lv_aload_n hx hb dL_law_381 rfl (lv_at hl 1 rfl) ?_
  refine lv_iload hx hb dL_law_382 (lv_at hl 5 rfl) ?_
  refine lv_iconst (v := nI 4) hx hb dL_law_384 (by decide) ?_
  refine lv_iadd hx hb dL_law_385 ?_
  refine z_top (y := nI (i + 4)) (nI_add _ _) ?_
  refine z_sld hx hb hX0 hbl hbA hS (k := i + 4) (by omega) hL dL_law_386 ?_
  refine z_callVW (b := M) (As := [.int (xs (i + 1)), .int (xs (i + 2)), .int (xs (i + 3)), .int (xs (i + 4))]) (rest := []) (wx' u) ⟨hx, hb, hml, hown, hts⟩ hK hP hD hS hM cwm (List.range' 0 wm.length) (List.range' wm.length (wx' u).length) (z_rgB _ _) (z_rgA _ _) (z_rgD2 _ _) hadm 0 5 (z_at0 hMr) rfl rfl rfl hl.1 rfl rfl dL_law_387 ⟨by show _ ≤ 1078; omega, by show _ ≤ 10152; omega⟩ (fun r v H locs hq hP hD hS => ?_)
  refine lv_istore (lv' := [(6, .int r), (5, .int (nI k9)), (0, .ref bs), (1, .ref o), (2, .ref M), (3, .ref out), (4, .int (nI i))]) hx hb dL_law_390 hl (by decide) rfl (fun ls hl => ?_)
  refine lv_aload_n hx hb dL_law_392 rfl (lv_at hl 4 rfl) ?_
  obtain ⟨fs2, hMr3⟩ := hMr2 v
  refine z_callV (b := M) (As := []) (rest := []) ⟨hx, hb, hml, hown, hts⟩ hK hP hS (hT v (wx' u)) cwt (wx' u).length 5 (z_atL hMr3) rfl rfl rfl hl.1 rfl rfl dL_law_393 ⟨by show _ ≤ 1078; omega, by show _ ≤ 10152; omega⟩ (fun H locs hP hS => ?_)
  refine lv_iload hx hb dL_law_396 (lv_at hl 1 rfl) ?_
  refine lv_icmp_eq (tgt := 403) hx hb dL_law_398 (by decide) (fun cb1 => ?_) (fun cb1 => ?_)
  · have cb1 : k9 = k9 := zn_eq_t (a := k9) (b := k9) (by omega) (by omega) cb1
    refine lv_iload hx hb dL_law_403 (lv_at hl 1 rfl) ?_
    refine lv_if_ne (tgt := 420) hx hb dL_law_405 (by decide) (fun cb2 => ?_) (fun cb2 => ?_)
    · have cb2 : ¬ (k9 = 0) := zn_ne_f (a := k9) (b := 0) (by omega) (by omega) cb2
      refine lv_goto (tgt := 1218) hx hb dL_law_420 (by decide) ?_
      exact kk u r v _ _ _ hp hq (z_swapP hP) (z_swapD hD) hS (lv_sub hl [2, 3, 4, 5, 6] rfl)
    · have cb2 : k9 = 0 := zn_ne_t (a := k9) (b := 0) (by omega) (by omega) cb2
      exact absurd cb2 (by omega)
  · have cb1 : ¬ (k9 = k9) := zn_eq_f (a := k9) (b := k9) (by omega) (by omega) cb1
    exact absurd rfl cb1
set_option maxHeartbeats 4000000 in
set_option maxRecDepth 100000 in
theorem z_case_fail_ok {p : Program} {l : Launch} {e : Env} {s : State} {m : MethodId} {args : Array Value} {below : List Frame} {meth : Method} {c : Code} {H : Heap} {locs : List Loc} {ls : Array Slot} {cells slots : Nat} {Q : State → Prop} {D : va_G} {cy : zCy} {Ts : List Cond} {SX SM : Type} {o M out bs L i : Nat} {xs : Nat → Int32} {wx wm : va_W} {px : SX → Prop} {pm : Int32 → SM → Prop} {wx' : SX → va_W} {wm' : SM → va_W}
    (hx : p.tables.exec = Jvm.exec) (hb : c.code = cL_law) (hml : c.maxLocals = 7) (hown : s.vm.findClass RL = some m.cls) (hts : ∀ w ∈ Ts, w.before args s = true) (hK : zK D cy s) (hX0 : va_X bs L xs s s.heap) (hbl : bs < s.heap.size) (hL : L ≤ 2560) (hi : i + 5 ≤ L) (hrc : cells + 1 ≤ 1078) (hrs : slots + 6 ≤ 10152)
    (hP : va_P D vwCl (wm ++ wx) H) (hD : va_D (zNew s) (wm ++ wx)) (hS : va_S (zNew s) s.heap H locs) (hl : lv_has ls 7 [(0, .ref bs), (1, .ref o), (2, .ref M), (3, .ref out), (4, .int (nI i))])
    (hX : zW SX l yL_fail wsL_fail rmL_fail_k D cy wx [.ref o, .int (xs (i + 1)), .int (bI (decide (¬ xs (i + 2) = 0))), .ref out] (fun r u => r = nI 0 ∧ px u) wx') (hadx : ∀ u, (wx' u).map Prod.fst = wx.map Prod.fst) (cwx : vx_CSW room_1 s args RL 95 yL_fail cL_fail 5 (some .int) [(0, 17, 20, 13)] wsL_fail rmL_fail_k 0 0 4)
    (hM : zW SM l yX5_fail wsX5_fail rmX5_fail D cy wm [.ref M, .int (xs (i + 1)), .int (bI (decide (¬ xs (i + 2) = 0)))] pm wm') (hadm : ∀ u, (wm' u).map Prod.fst = wm.map Prod.fst) (cwm : CallW room_1 s args RL RX5 98 yX5_fail cX5_fail 4 (some .boolean) wsX5_fail rmX5_fail 0 0 2)
    {mfs : List Value} (hMr : wm[0]? = some (M, .inr (5, mfs))) (hMr2 : ∀ v, ∃ fs, (wm' v)[0]? = some (M, .inr (5, fs))) (hT : ∀ v w, zR l yX5_thrown wsX5_thrown rmX5_thrown D cy (w ++ wm' v) [.ref M] (nI 0)) (cwt : CallW room_1 s args RL RX5 84 yX5_thrown cX5_thrown 1 (some .int) wsX5_thrown rmX5_thrown 0 0 0) {ov : SX → Int64} (hov : ∀ u, ∃ rs, wx' u = (out, .inl (cy.2.2, 1, .inr (.inl (fun _ => ov u)))) :: rs) (hval : ∀ u r v, px u → pm r v → ov u = (if r = 0 then 0 else 1))
    (kk : ∀ (u : SX) (r : Int32) (v : SM) (H : Heap) (locs : List Loc) (ls : Array Slot), px u → pm r v → va_P D vwCl (wm' v ++ wx' u) H → va_D (zNew s) (wm' v ++ wx' u) → va_S (zNew s) s.heap H locs → lv_has ls 7 [(0, .ref bs), (1, .ref o), (2, .ref M), (3, .ref out), (4, .int (nI i))] → W p l e room_1 s m args below meth c H locs (cells + 1) (slots + 6) Q (F0 m 1218 ls [])) : W p l e room_1 s m args below meth c H locs cells slots Q (F0 m 423 ls []) := by
  have hbA : ¬ zNew s bs := Nat.not_le.mpr hbl
  refine lv_aload_n hx hb dL_law_423 rfl (lv_at hl 1 rfl) ?_
  refine lv_aload_n hx hb dL_law_424 rfl (lv_at hl 0 rfl) ?_
  refine lv_iload hx hb dL_law_425 (lv_at hl 4 rfl) ?_
  refine lv_iconst (v := nI 1) hx hb dL_law_427 (by decide) ?_
  refine lv_iadd hx hb dL_law_428 ?_
  refine z_top (y := nI (i + 1)) (nI_add _ _) ?_
  refine z_sld hx hb hX0 hbl hbA hS (k := i + 1) (by omega) hL dL_law_429 ?_
  refine lv_aload_n hx hb dL_law_430 rfl (lv_at hl 0 rfl) ?_
  refine lv_iload hx hb dL_law_431 (lv_at hl 4 rfl) ?_
  refine lv_iconst (v := nI 2) hx hb dL_law_433 (by decide) ?_
  refine lv_iadd hx hb dL_law_434 ?_
  refine z_top (y := nI (i + 2)) (nI_add _ _) ?_
  refine z_sld hx hb hX0 hbl hbA hS (k := i + 2) (by omega) hL dL_law_435 ?_
  refine lv_if_eq (tgt := 443) hx hb dL_law_436 (by decide) (fun cb1 => ?_) (fun cb1 => ?_)
  · skip
    refine lv_iconst (v := nI 0) hx hb dL_law_443 (by decide) ?_
    refine z_top (y := (bI (decide (¬ xs (i + 2) = 0)))) (bI_no (fun z => z cb1)) ?_
    refine lv_aload_n hx hb dL_law_444 rfl (lv_at hl 3 rfl) ?_
    refine z_lawW (As := [.ref o, .int (xs (i + 1)), .int (bI (decide (¬ xs (i + 2) = 0))), .ref out]) (rest := []) ⟨hx, hb, hml, hown, hts⟩ hK hP hD hS hX cwx hadx rfl hl.1 rfl rfl dL_law_445 ⟨by show _ ≤ 1078; omega, by show _ ≤ 10152; omega⟩ (fun rr u H locs hp hP hD hS => ?_)
    obtain ⟨rfl, hp⟩ := hp
    refine lv_istore (lv' := [(5, .int (nI 0)), (0, .ref bs), (1, .ref o), (2, .ref M), (3, .ref out), (4, .int (nI i))]) hx hb dL_law_448 hl (by decide) rfl (fun ls hl => ?_)
    refine lv_aload_n hx hb dL_law_450 rfl (lv_at hl 3 rfl) ?_
    refine lv_aload_n hx hb dL_law_451 rfl (lv_at hl 1 rfl) ?_
    refine lv_iload hx hb dL_law_452 (lv_at hl 5 rfl) ?_
    refine lv_iconst (v := nI 1) hx hb dL_law_454 (by decide) ?_
    refine lv_iadd hx hb dL_law_455 ?_
    refine z_top (y := nI (i + 1)) (nI_add _ _) ?_
    refine z_sld hx hb hX0 hbl hbA hS (k := i + 1) (by omega) hL dL_law_456 ?_
    refine lv_aload_n hx hb dL_law_457 rfl (lv_at hl 1 rfl) ?_
    refine lv_iload hx hb dL_law_458 (lv_at hl 5 rfl) ?_
    refine lv_iconst (v := nI 2) hx hb dL_law_460 (by decide) ?_
    refine lv_iadd hx hb dL_law_461 ?_
    refine z_top (y := nI (i + 2)) (nI_add _ _) ?_
    refine z_sld hx hb hX0 hbl hbA hS (k := i + 2) (by omega) hL dL_law_462 ?_
    refine lv_if_eq (tgt := 470) hx hb dL_law_463 (by decide) (fun cb2 => ?_) (fun cb2 => ?_)
    · skip
      refine lv_iconst (v := nI 0) hx hb dL_law_470 (by decide) ?_
      refine z_top (y := (bI (decide (¬ xs (i + 2) = 0)))) (bI_no (fun z => z cb1)) ?_
      refine z_callVW (b := M) (As := [.int (xs (i + 1)), .int (bI (decide (¬ xs (i + 2) = 0)))]) (rest := []) (wx' u) ⟨hx, hb, hml, hown, hts⟩ hK hP hD hS hM cwm (List.range' 0 wm.length) (List.range' wm.length (wx' u).length) (z_rgB _ _) (z_rgA _ _) (z_rgD2 _ _) hadm 0 5 (z_at0 hMr) rfl rfl rfl hl.1 rfl rfl dL_law_471 ⟨by show _ ≤ 1078; omega, by show _ ≤ 10152; omega⟩ (fun r v H locs hq hP hD hS => ?_)
      refine lv_istore (lv' := [(6, .int r), (5, .int (nI 0)), (0, .ref bs), (1, .ref o), (2, .ref M), (3, .ref out), (4, .int (nI i))]) hx hb dL_law_474 hl (by decide) rfl (fun ls hl => ?_)
      refine lv_aload_n hx hb dL_law_476 rfl (lv_at hl 4 rfl) ?_
      obtain ⟨fs2, hMr3⟩ := hMr2 v
      refine z_callV (b := M) (As := []) (rest := []) ⟨hx, hb, hml, hown, hts⟩ hK hP hS (hT v (wx' u)) cwt (wx' u).length 5 (z_atL hMr3) rfl rfl rfl hl.1 rfl rfl dL_law_477 ⟨by show _ ≤ 1078; omega, by show _ ≤ 10152; omega⟩ (fun H locs hP hS => ?_)
      refine lv_iload hx hb dL_law_480 (lv_at hl 1 rfl) ?_
      refine lv_icmp_eq (tgt := 487) hx hb dL_law_482 (by decide) (fun cb3 => ?_) (fun cb3 => ?_)
      · have cb3 : 0 = 0 := zn_eq_t (a := 0) (b := 0) (by omega) (by omega) cb3
        refine lv_iload hx hb dL_law_487 (lv_at hl 1 rfl) ?_
        refine lv_if_ne (tgt := 511) hx hb dL_law_489 (by decide) (fun cb4 => ?_) (fun cb4 => ?_)
        · have cb4 : ¬ (0 = 0) := zn_ne_f (a := 0) (b := 0) (by omega) (by omega) cb4
          exact absurd cb4 (by decide)
        · have cb4 : 0 = 0 := zn_ne_t (a := 0) (b := 0) (by omega) (by omega) cb4
          refine lv_aload_n hx hb dL_law_492 rfl (lv_at hl 5 rfl) ?_
          refine lv_iconst (v := nI 0) hx hb dL_law_493 (by decide) ?_
          obtain ⟨rs9, hov9⟩ := hov u
          refine z_lald (q0 := 0) (ov := ov u) hx hb hK hP (by rw [hov9]; rfl) dL_law_494 ?_
          refine lv_iload hx hb dL_law_495 (lv_at hl 0 rfl) ?_
          refine lv_if_eq (tgt := 504) hx hb dL_law_497 (by decide) (fun cb5 => ?_) (fun cb5 => ?_)
          · skip
            refine lv_lconst (v := 0) hx hb dL_law_504 (by decide) ?_
            have hv9 := (hval u r v hp hq).trans (if_pos cb5)
            rw [hv9]
            refine z_lcmp0 hx hb dL_law_505 ?_
            refine lv_if_eq (tgt := 511) hx hb dL_law_506 (by decide) (fun cb6 => ?_) (fun cb6 => ?_)
            · have cb6 : 0 = 0 := zn_eq_t (a := 0) (b := 0) (by omega) (by omega) cb6
              refine lv_goto (tgt := 1218) hx hb dL_law_511 (by decide) ?_
              refine W.widen (k := cells + 1) (n := slots + 6) (by omega) (by omega) ?_
              exact kk u r v _ _ _ hp hq (z_swapP hP) (z_swapD hD) hS (lv_sub hl [2, 3, 4, 5, 6] rfl)
            · have cb6 : ¬ (0 = 0) := zn_eq_f (a := 0) (b := 0) (by omega) (by omega) cb6
              exact absurd cb6 (by decide)
          · skip
            refine lv_lconst (v := 1) hx hb dL_law_500 (by decide) ?_
            refine lv_goto (tgt := 505) hx hb dL_law_501 (by decide) ?_
            have hv9 := (hval u r v hp hq).trans (if_neg cb5)
            rw [hv9]
            refine z_lcmp0 hx hb dL_law_505 ?_
            refine lv_if_eq (tgt := 511) hx hb dL_law_506 (by decide) (fun cb7 => ?_) (fun cb7 => ?_)
            · have cb7 : 0 = 0 := zn_eq_t (a := 0) (b := 0) (by omega) (by omega) cb7
              refine lv_goto (tgt := 1218) hx hb dL_law_511 (by decide) ?_
              refine W.widen (k := cells + 1) (n := slots + 6) (by omega) (by omega) ?_
              exact kk u r v _ _ _ hp hq (z_swapP hP) (z_swapD hD) hS (lv_sub hl [2, 3, 4, 5, 6] rfl)
            · have cb7 : ¬ (0 = 0) := zn_eq_f (a := 0) (b := 0) (by omega) (by omega) cb7
              exact absurd cb7 (by decide)
      · have cb3 : ¬ (0 = 0) := zn_eq_f (a := 0) (b := 0) (by omega) (by omega) cb3
        exact absurd cb3 (by decide)
    · skip
      exact absurd cb1 cb2
  · skip
    refine lv_iconst (v := nI 1) hx hb dL_law_439 (by decide) ?_
    refine lv_goto (tgt := 444) hx hb dL_law_440 (by decide) ?_
    refine z_top (y := (bI (decide (¬ xs (i + 2) = 0)))) (bI_yes cb1) ?_
    refine lv_aload_n hx hb dL_law_444 rfl (lv_at hl 3 rfl) ?_
    refine z_lawW (As := [.ref o, .int (xs (i + 1)), .int (bI (decide (¬ xs (i + 2) = 0))), .ref out]) (rest := []) ⟨hx, hb, hml, hown, hts⟩ hK hP hD hS hX cwx hadx rfl hl.1 rfl rfl dL_law_445 ⟨by show _ ≤ 1078; omega, by show _ ≤ 10152; omega⟩ (fun rr u H locs hp hP hD hS => ?_)
    obtain ⟨rfl, hp⟩ := hp
    refine lv_istore (lv' := [(5, .int (nI 0)), (0, .ref bs), (1, .ref o), (2, .ref M), (3, .ref out), (4, .int (nI i))]) hx hb dL_law_448 hl (by decide) rfl (fun ls hl => ?_)
    refine lv_aload_n hx hb dL_law_450 rfl (lv_at hl 3 rfl) ?_
    refine lv_aload_n hx hb dL_law_451 rfl (lv_at hl 1 rfl) ?_
    refine lv_iload hx hb dL_law_452 (lv_at hl 5 rfl) ?_
    refine lv_iconst (v := nI 1) hx hb dL_law_454 (by decide) ?_
    refine lv_iadd hx hb dL_law_455 ?_
    refine z_top (y := nI (i + 1)) (nI_add _ _) ?_
    refine z_sld hx hb hX0 hbl hbA hS (k := i + 1) (by omega) hL dL_law_456 ?_
    refine lv_aload_n hx hb dL_law_457 rfl (lv_at hl 1 rfl) ?_
    refine lv_iload hx hb dL_law_458 (lv_at hl 5 rfl) ?_
    refine lv_iconst (v := nI 2) hx hb dL_law_460 (by decide) ?_
    refine lv_iadd hx hb dL_law_461 ?_
    refine z_top (y := nI (i + 2)) (nI_add _ _) ?_
    refine z_sld hx hb hX0 hbl hbA hS (k := i + 2) (by omega) hL dL_law_462 ?_
    refine lv_if_eq (tgt := 470) hx hb dL_law_463 (by decide) (fun cb8 => ?_) (fun cb8 => ?_)
    · skip
      exact absurd cb8 cb1
    · skip
      refine lv_iconst (v := nI 1) hx hb dL_law_466 (by decide) ?_
      refine lv_goto (tgt := 471) hx hb dL_law_467 (by decide) ?_
      refine z_top (y := (bI (decide (¬ xs (i + 2) = 0)))) (bI_yes cb1) ?_
      refine z_callVW (b := M) (As := [.int (xs (i + 1)), .int (bI (decide (¬ xs (i + 2) = 0)))]) (rest := []) (wx' u) ⟨hx, hb, hml, hown, hts⟩ hK hP hD hS hM cwm (List.range' 0 wm.length) (List.range' wm.length (wx' u).length) (z_rgB _ _) (z_rgA _ _) (z_rgD2 _ _) hadm 0 5 (z_at0 hMr) rfl rfl rfl hl.1 rfl rfl dL_law_471 ⟨by show _ ≤ 1078; omega, by show _ ≤ 10152; omega⟩ (fun r v H locs hq hP hD hS => ?_)
      refine lv_istore (lv' := [(6, .int r), (5, .int (nI 0)), (0, .ref bs), (1, .ref o), (2, .ref M), (3, .ref out), (4, .int (nI i))]) hx hb dL_law_474 hl (by decide) rfl (fun ls hl => ?_)
      refine lv_aload_n hx hb dL_law_476 rfl (lv_at hl 4 rfl) ?_
      obtain ⟨fs2, hMr3⟩ := hMr2 v
      refine z_callV (b := M) (As := []) (rest := []) ⟨hx, hb, hml, hown, hts⟩ hK hP hS (hT v (wx' u)) cwt (wx' u).length 5 (z_atL hMr3) rfl rfl rfl hl.1 rfl rfl dL_law_477 ⟨by show _ ≤ 1078; omega, by show _ ≤ 10152; omega⟩ (fun H locs hP hS => ?_)
      refine lv_iload hx hb dL_law_480 (lv_at hl 1 rfl) ?_
      refine lv_icmp_eq (tgt := 487) hx hb dL_law_482 (by decide) (fun cb9 => ?_) (fun cb9 => ?_)
      · have cb9 : 0 = 0 := zn_eq_t (a := 0) (b := 0) (by omega) (by omega) cb9
        refine lv_iload hx hb dL_law_487 (lv_at hl 1 rfl) ?_
        refine lv_if_ne (tgt := 511) hx hb dL_law_489 (by decide) (fun cb10 => ?_) (fun cb10 => ?_)
        · have cb10 : ¬ (0 = 0) := zn_ne_f (a := 0) (b := 0) (by omega) (by omega) cb10
          exact absurd cb10 (by decide)
        · have cb10 : 0 = 0 := zn_ne_t (a := 0) (b := 0) (by omega) (by omega) cb10
          refine lv_aload_n hx hb dL_law_492 rfl (lv_at hl 5 rfl) ?_
          refine lv_iconst (v := nI 0) hx hb dL_law_493 (by decide) ?_
          obtain ⟨rs9, hov9⟩ := hov u
          refine z_lald (q0 := 0) (ov := ov u) hx hb hK hP (by rw [hov9]; rfl) dL_law_494 ?_
          refine lv_iload hx hb dL_law_495 (lv_at hl 0 rfl) ?_
          refine lv_if_eq (tgt := 504) hx hb dL_law_497 (by decide) (fun cb11 => ?_) (fun cb11 => ?_)
          · skip
            refine lv_lconst (v := 0) hx hb dL_law_504 (by decide) ?_
            have hv9 := (hval u r v hp hq).trans (if_pos cb11)
            rw [hv9]
            refine z_lcmp0 hx hb dL_law_505 ?_
            refine lv_if_eq (tgt := 511) hx hb dL_law_506 (by decide) (fun cb12 => ?_) (fun cb12 => ?_)
            · have cb12 : 0 = 0 := zn_eq_t (a := 0) (b := 0) (by omega) (by omega) cb12
              refine lv_goto (tgt := 1218) hx hb dL_law_511 (by decide) ?_
              refine W.widen (k := cells + 1) (n := slots + 6) (by omega) (by omega) ?_
              exact kk u r v _ _ _ hp hq (z_swapP hP) (z_swapD hD) hS (lv_sub hl [2, 3, 4, 5, 6] rfl)
            · have cb12 : ¬ (0 = 0) := zn_eq_f (a := 0) (b := 0) (by omega) (by omega) cb12
              exact absurd cb12 (by decide)
          · skip
            refine lv_lconst (v := 1) hx hb dL_law_500 (by decide) ?_
            refine lv_goto (tgt := 505) hx hb dL_law_501 (by decide) ?_
            have hv9 := (hval u r v hp hq).trans (if_neg cb11)
            rw [hv9]
            refine z_lcmp0 hx hb dL_law_505 ?_
            refine lv_if_eq (tgt := 511) hx hb dL_law_506 (by decide) (fun cb13 => ?_) (fun cb13 => ?_)
            · have cb13 : 0 = 0 := zn_eq_t (a := 0) (b := 0) (by omega) (by omega) cb13
              refine lv_goto (tgt := 1218) hx hb dL_law_511 (by decide) ?_
              refine W.widen (k := cells + 1) (n := slots + 6) (by omega) (by omega) ?_
              exact kk u r v _ _ _ hp hq (z_swapP hP) (z_swapD hD) hS (lv_sub hl [2, 3, 4, 5, 6] rfl)
            · have cb13 : ¬ (0 = 0) := zn_eq_f (a := 0) (b := 0) (by omega) (by omega) cb13
              exact absurd cb13 (by decide)
      · have cb9 : ¬ (0 = 0) := zn_eq_f (a := 0) (b := 0) (by omega) (by omega) cb9
        exact absurd cb9 (by decide)
set_option maxHeartbeats 4000000 in
set_option maxRecDepth 100000 in
theorem z_case_fail_bad {p : Program} {l : Launch} {e : Env} {s : State} {m : MethodId} {args : Array Value} {below : List Frame} {meth : Method} {c : Code} {H : Heap} {locs : List Loc} {ls : Array Slot} {cells slots : Nat} {Q : State → Prop} {D : va_G} {cy : zCy} {Ts : List Cond} {SX SM : Type} {o M out bs L i : Nat} {xs : Nat → Int32} {wx wm : va_W} {px : SX → Prop} {pm : Int32 → SM → Prop} {wx' : SX → va_W} {wm' : SM → va_W}
    (hx : p.tables.exec = Jvm.exec) (hb : c.code = cL_law) (hml : c.maxLocals = 7) (hown : s.vm.findClass RL = some m.cls) (hts : ∀ w ∈ Ts, w.before args s = true) (hK : zK D cy s) (hX0 : va_X bs L xs s s.heap) (hbl : bs < s.heap.size) (hL : L ≤ 2560) (hi : i + 5 ≤ L) (hrc : cells + 1 ≤ 1078) (hrs : slots + 6 ≤ 10152)
    (hP : va_P D vwCl (wm ++ wx) H) (hD : va_D (zNew s) (wm ++ wx)) (hS : va_S (zNew s) s.heap H locs) (hl : lv_has ls 7 [(0, .ref bs), (1, .ref o), (2, .ref M), (3, .ref out), (4, .int (nI i))])
    {k9 : Nat} (hk1 : 0 < k9) (hk2 : k9 < 4) (hTs : zTs s) (hTh : zTh (zNew s) s s.heap) (hX : zB SX l yL_fail wsL_fail rmL_fail D cy wx [.ref o, .int (xs (i + 1)), .int (bI (decide (¬ xs (i + 2) = 0))), .ref out] (fun r u => r = nI k9 ∧ px u) wx') (hadx : ∀ u, (wx' u).map Prod.fst = wx.map Prod.fst) (cwx : vx_CSW room_1 s args RL 95 yL_fail cL_fail 5 (some .int) [(0, 17, 20, 13)] wsL_fail rmL_fail 1 6 4)
    (hM : zW SM l yX5_fail wsX5_fail rmX5_fail D cy wm [.ref M, .int (xs (i + 1)), .int (bI (decide (¬ xs (i + 2) = 0)))] pm wm') (hadm : ∀ u, (wm' u).map Prod.fst = wm.map Prod.fst) (cwm : CallW room_1 s args RL RX5 98 yX5_fail cX5_fail 4 (some .boolean) wsX5_fail rmX5_fail 0 0 2)
    {mfs : List Value} (hMr : wm[0]? = some (M, .inr (5, mfs))) (hMr2 : ∀ v, ∃ fs, (wm' v)[0]? = some (M, .inr (5, fs))) (hT : ∀ v w, zR l yX5_thrown wsX5_thrown rmX5_thrown D cy (w ++ wm' v) [.ref M] (nI k9)) (cwt : CallW room_1 s args RL RX5 84 yX5_thrown cX5_thrown 1 (some .int) wsX5_thrown rmX5_thrown 0 0 0)
    (kk : ∀ (u : SX) (r : Int32) (v : SM) (H : Heap) (locs : List Loc) (ls : Array Slot), px u → pm r v → va_P D vwCl (wm' v ++ wx' u) H → va_D (zNew s) (wm' v ++ wx' u) → va_S (zNew s) s.heap H locs → lv_has ls 7 [(0, .ref bs), (1, .ref o), (2, .ref M), (3, .ref out), (4, .int (nI i))] → W p l e room_1 s m args below meth c H locs (cells + 1) (slots + 6) Q (F0 m 1218 ls [])) : W p l e room_1 s m args below meth c H locs cells slots Q (F0 m 423 ls []) := by
  have hbA : ¬ zNew s bs := Nat.not_le.mpr hbl
  refine lv_aload_n hx hb dL_law_423 rfl (lv_at hl 1 rfl) ?_
  refine lv_aload_n hx hb dL_law_424 rfl (lv_at hl 0 rfl) ?_
  refine lv_iload hx hb dL_law_425 (lv_at hl 4 rfl) ?_
  refine lv_iconst (v := nI 1) hx hb dL_law_427 (by decide) ?_
  refine lv_iadd hx hb dL_law_428 ?_
  refine z_top (y := nI (i + 1)) (nI_add _ _) ?_
  refine z_sld hx hb hX0 hbl hbA hS (k := i + 1) (by omega) hL dL_law_429 ?_
  refine lv_aload_n hx hb dL_law_430 rfl (lv_at hl 0 rfl) ?_
  refine lv_iload hx hb dL_law_431 (lv_at hl 4 rfl) ?_
  refine lv_iconst (v := nI 2) hx hb dL_law_433 (by decide) ?_
  refine lv_iadd hx hb dL_law_434 ?_
  refine z_top (y := nI (i + 2)) (nI_add _ _) ?_
  refine z_sld hx hb hX0 hbl hbA hS (k := i + 2) (by omega) hL dL_law_435 ?_
  refine lv_if_eq (tgt := 443) hx hb dL_law_436 (by decide) (fun cb1 => ?_) (fun cb1 => ?_)
  · skip
    refine lv_iconst (v := nI 0) hx hb dL_law_443 (by decide) ?_
    refine z_top (y := (bI (decide (¬ xs (i + 2) = 0)))) (bI_no (fun z => z cb1)) ?_
    refine lv_aload_n hx hb dL_law_444 rfl (lv_at hl 3 rfl) ?_
    refine z_lawB (As := [.ref o, .int (xs (i + 1)), .int (bI (decide (¬ xs (i + 2) = 0))), .ref out]) (rest := []) ⟨hx, hb, hml, hown, hts⟩ hK hP hD hS hTs hTh hX cwx hadx rfl hl.1 rfl rfl dL_law_445 ⟨by show _ ≤ 1078; omega, by show _ ≤ 10152; omega⟩ (fun rr u H locs hp hP hD hS => ?_)
    obtain ⟨rfl, hp⟩ := hp
    refine lv_istore (lv' := [(5, .int (nI k9)), (0, .ref bs), (1, .ref o), (2, .ref M), (3, .ref out), (4, .int (nI i))]) hx hb dL_law_448 hl (by decide) rfl (fun ls hl => ?_)
    refine lv_aload_n hx hb dL_law_450 rfl (lv_at hl 3 rfl) ?_
    refine lv_aload_n hx hb dL_law_451 rfl (lv_at hl 1 rfl) ?_
    refine lv_iload hx hb dL_law_452 (lv_at hl 5 rfl) ?_
    refine lv_iconst (v := nI 1) hx hb dL_law_454 (by decide) ?_
    refine lv_iadd hx hb dL_law_455 ?_
    refine z_top (y := nI (i + 1)) (nI_add _ _) ?_
    refine z_sld hx hb hX0 hbl hbA hS (k := i + 1) (by omega) hL dL_law_456 ?_
    refine lv_aload_n hx hb dL_law_457 rfl (lv_at hl 1 rfl) ?_
    refine lv_iload hx hb dL_law_458 (lv_at hl 5 rfl) ?_
    refine lv_iconst (v := nI 2) hx hb dL_law_460 (by decide) ?_
    refine lv_iadd hx hb dL_law_461 ?_
    refine z_top (y := nI (i + 2)) (nI_add _ _) ?_
    refine z_sld hx hb hX0 hbl hbA hS (k := i + 2) (by omega) hL dL_law_462 ?_
    refine lv_if_eq (tgt := 470) hx hb dL_law_463 (by decide) (fun cb2 => ?_) (fun cb2 => ?_)
    · skip
      refine lv_iconst (v := nI 0) hx hb dL_law_470 (by decide) ?_
      refine z_top (y := (bI (decide (¬ xs (i + 2) = 0)))) (bI_no (fun z => z cb1)) ?_
      refine z_callVW (b := M) (As := [.int (xs (i + 1)), .int (bI (decide (¬ xs (i + 2) = 0)))]) (rest := []) (wx' u) ⟨hx, hb, hml, hown, hts⟩ hK hP hD hS hM cwm (List.range' 0 wm.length) (List.range' wm.length (wx' u).length) (z_rgB _ _) (z_rgA _ _) (z_rgD2 _ _) hadm 0 5 (z_at0 hMr) rfl rfl rfl hl.1 rfl rfl dL_law_471 ⟨by show _ ≤ 1078; omega, by show _ ≤ 10152; omega⟩ (fun r v H locs hq hP hD hS => ?_)
      refine lv_istore (lv' := [(6, .int r), (5, .int (nI k9)), (0, .ref bs), (1, .ref o), (2, .ref M), (3, .ref out), (4, .int (nI i))]) hx hb dL_law_474 hl (by decide) rfl (fun ls hl => ?_)
      refine lv_aload_n hx hb dL_law_476 rfl (lv_at hl 4 rfl) ?_
      obtain ⟨fs2, hMr3⟩ := hMr2 v
      refine z_callV (b := M) (As := []) (rest := []) ⟨hx, hb, hml, hown, hts⟩ hK hP hS (hT v (wx' u)) cwt (wx' u).length 5 (z_atL hMr3) rfl rfl rfl hl.1 rfl rfl dL_law_477 ⟨by show _ ≤ 1078; omega, by show _ ≤ 10152; omega⟩ (fun H locs hP hS => ?_)
      refine lv_iload hx hb dL_law_480 (lv_at hl 1 rfl) ?_
      refine lv_icmp_eq (tgt := 487) hx hb dL_law_482 (by decide) (fun cb3 => ?_) (fun cb3 => ?_)
      · have cb3 : k9 = k9 := zn_eq_t (a := k9) (b := k9) (by omega) (by omega) cb3
        refine lv_iload hx hb dL_law_487 (lv_at hl 1 rfl) ?_
        refine lv_if_ne (tgt := 511) hx hb dL_law_489 (by decide) (fun cb4 => ?_) (fun cb4 => ?_)
        · have cb4 : ¬ (k9 = 0) := zn_ne_f (a := k9) (b := 0) (by omega) (by omega) cb4
          refine lv_goto (tgt := 1218) hx hb dL_law_511 (by decide) ?_
          exact kk u r v _ _ _ hp hq (z_swapP hP) (z_swapD hD) hS (lv_sub hl [2, 3, 4, 5, 6] rfl)
        · have cb4 : k9 = 0 := zn_ne_t (a := k9) (b := 0) (by omega) (by omega) cb4
          exact absurd cb4 (by omega)
      · have cb3 : ¬ (k9 = k9) := zn_eq_f (a := k9) (b := k9) (by omega) (by omega) cb3
        exact absurd rfl cb3
    · skip
      exact absurd cb1 cb2
  · skip
    refine lv_iconst (v := nI 1) hx hb dL_law_439 (by decide) ?_
    refine lv_goto (tgt := 444) hx hb dL_law_440 (by decide) ?_
    refine z_top (y := (bI (decide (¬ xs (i + 2) = 0)))) (bI_yes cb1) ?_
    refine lv_aload_n hx hb dL_law_444 rfl (lv_at hl 3 rfl) ?_
    refine z_lawB (As := [.ref o, .int (xs (i + 1)), .int (bI (decide (¬ xs (i + 2) = 0))), .ref out]) (rest := []) ⟨hx, hb, hml, hown, hts⟩ hK hP hD hS hTs hTh hX cwx hadx rfl hl.1 rfl rfl dL_law_445 ⟨by show _ ≤ 1078; omega, by show _ ≤ 10152; omega⟩ (fun rr u H locs hp hP hD hS => ?_)
    obtain ⟨rfl, hp⟩ := hp
    refine lv_istore (lv' := [(5, .int (nI k9)), (0, .ref bs), (1, .ref o), (2, .ref M), (3, .ref out), (4, .int (nI i))]) hx hb dL_law_448 hl (by decide) rfl (fun ls hl => ?_)
    refine lv_aload_n hx hb dL_law_450 rfl (lv_at hl 3 rfl) ?_
    refine lv_aload_n hx hb dL_law_451 rfl (lv_at hl 1 rfl) ?_
    refine lv_iload hx hb dL_law_452 (lv_at hl 5 rfl) ?_
    refine lv_iconst (v := nI 1) hx hb dL_law_454 (by decide) ?_
    refine lv_iadd hx hb dL_law_455 ?_
    refine z_top (y := nI (i + 1)) (nI_add _ _) ?_
    refine z_sld hx hb hX0 hbl hbA hS (k := i + 1) (by omega) hL dL_law_456 ?_
    refine lv_aload_n hx hb dL_law_457 rfl (lv_at hl 1 rfl) ?_
    refine lv_iload hx hb dL_law_458 (lv_at hl 5 rfl) ?_
    refine lv_iconst (v := nI 2) hx hb dL_law_460 (by decide) ?_
    refine lv_iadd hx hb dL_law_461 ?_
    refine z_top (y := nI (i + 2)) (nI_add _ _) ?_
    refine z_sld hx hb hX0 hbl hbA hS (k := i + 2) (by omega) hL dL_law_462 ?_
    refine lv_if_eq (tgt := 470) hx hb dL_law_463 (by decide) (fun cb5 => ?_) (fun cb5 => ?_)
    · skip
      exact absurd cb5 cb1
    · skip
      refine lv_iconst (v := nI 1) hx hb dL_law_466 (by decide) ?_
      refine lv_goto (tgt := 471) hx hb dL_law_467 (by decide) ?_
      refine z_top (y := (bI (decide (¬ xs (i + 2) = 0)))) (bI_yes cb1) ?_
      refine z_callVW (b := M) (As := [.int (xs (i + 1)), .int (bI (decide (¬ xs (i + 2) = 0)))]) (rest := []) (wx' u) ⟨hx, hb, hml, hown, hts⟩ hK hP hD hS hM cwm (List.range' 0 wm.length) (List.range' wm.length (wx' u).length) (z_rgB _ _) (z_rgA _ _) (z_rgD2 _ _) hadm 0 5 (z_at0 hMr) rfl rfl rfl hl.1 rfl rfl dL_law_471 ⟨by show _ ≤ 1078; omega, by show _ ≤ 10152; omega⟩ (fun r v H locs hq hP hD hS => ?_)
      refine lv_istore (lv' := [(6, .int r), (5, .int (nI k9)), (0, .ref bs), (1, .ref o), (2, .ref M), (3, .ref out), (4, .int (nI i))]) hx hb dL_law_474 hl (by decide) rfl (fun ls hl => ?_)
      refine lv_aload_n hx hb dL_law_476 rfl (lv_at hl 4 rfl) ?_
      obtain ⟨fs2, hMr3⟩ := hMr2 v
      refine z_callV (b := M) (As := []) (rest := []) ⟨hx, hb, hml, hown, hts⟩ hK hP hS (hT v (wx' u)) cwt (wx' u).length 5 (z_atL hMr3) rfl rfl rfl hl.1 rfl rfl dL_law_477 ⟨by show _ ≤ 1078; omega, by show _ ≤ 10152; omega⟩ (fun H locs hP hS => ?_)
      refine lv_iload hx hb dL_law_480 (lv_at hl 1 rfl) ?_
      refine lv_icmp_eq (tgt := 487) hx hb dL_law_482 (by decide) (fun cb6 => ?_) (fun cb6 => ?_)
      · have cb6 : k9 = k9 := zn_eq_t (a := k9) (b := k9) (by omega) (by omega) cb6
        refine lv_iload hx hb dL_law_487 (lv_at hl 1 rfl) ?_
        refine lv_if_ne (tgt := 511) hx hb dL_law_489 (by decide) (fun cb7 => ?_) (fun cb7 => ?_)
        · have cb7 : ¬ (k9 = 0) := zn_ne_f (a := k9) (b := 0) (by omega) (by omega) cb7
          refine lv_goto (tgt := 1218) hx hb dL_law_511 (by decide) ?_
          exact kk u r v _ _ _ hp hq (z_swapP hP) (z_swapD hD) hS (lv_sub hl [2, 3, 4, 5, 6] rfl)
        · have cb7 : k9 = 0 := zn_ne_t (a := k9) (b := 0) (by omega) (by omega) cb7
          exact absurd cb7 (by omega)
      · have cb6 : ¬ (k9 = k9) := zn_eq_f (a := k9) (b := k9) (by omega) (by omega) cb6
        exact absurd rfl cb6
set_option maxHeartbeats 4000000 in
set_option maxRecDepth 100000 in
theorem z_case_begin_ok {p : Program} {l : Launch} {e : Env} {s : State} {m : MethodId} {args : Array Value} {below : List Frame} {meth : Method} {c : Code} {H : Heap} {locs : List Loc} {ls : Array Slot} {cells slots : Nat} {Q : State → Prop} {D : va_G} {cy : zCy} {Ts : List Cond} {SX SM : Type} {o M out bs L i : Nat} {xs : Nat → Int32} {wx wm : va_W} {px : SX → Prop} {pm : Int32 → SM → Prop} {wx' : SX → va_W} {wm' : SM → va_W}
    (hx : p.tables.exec = Jvm.exec) (hb : c.code = cL_law) (hml : c.maxLocals = 7) (hown : s.vm.findClass RL = some m.cls) (hts : ∀ w ∈ Ts, w.before args s = true) (hK : zK D cy s) (hX0 : va_X bs L xs s s.heap) (hbl : bs < s.heap.size) (hL : L ≤ 2560) (hi : i + 5 ≤ L) (hrc : cells + 1 ≤ 1078) (hrs : slots + 6 ≤ 10152)
    (hP : va_P D vwCl (wm ++ wx) H) (hD : va_D (zNew s) (wm ++ wx)) (hS : va_S (zNew s) s.heap H locs) (hl : lv_has ls 7 [(0, .ref bs), (1, .ref o), (2, .ref M), (3, .ref out), (4, .int (nI i))])
    (hX : zW SX l yL_begin wsL_begin rmL_begin_k D cy wx [.ref o, .int (xs (i + 1)), .ref out] (fun r u => r = nI 0 ∧ px u) wx') (hadx : ∀ u, (wx' u).map Prod.fst = wx.map Prod.fst) (cwx : vx_CSW room_1 s args RL 99 yL_begin cL_begin 4 (some .int) [(0, 9, 12, 13)] wsL_begin rmL_begin_k 0 0 3)
    (hM : zW SM l yX5_begin wsX5_begin rmX5_begin D cy wm [.ref M, .int (xs (i + 1))] pm wm') (hadm : ∀ u, (wm' u).map Prod.fst = wm.map Prod.fst) (cwm : CallW room_1 s args RL RX5 102 yX5_begin cX5_begin 3 (some .int) wsX5_begin rmX5_begin 0 0 1)
    {mfs : List Value} (hMr : wm[0]? = some (M, .inr (5, mfs))) (hMr2 : ∀ v, ∃ fs, (wm' v)[0]? = some (M, .inr (5, fs))) (hT : ∀ v w, zR l yX5_thrown wsX5_thrown rmX5_thrown D cy (w ++ wm' v) [.ref M] (nI 0)) (cwt : CallW room_1 s args RL RX5 84 yX5_thrown cX5_thrown 1 (some .int) wsX5_thrown rmX5_thrown 0 0 0) {ov : SX → Int64} (hov : ∀ u, ∃ rs, wx' u = (out, .inl (cy.2.2, 1, .inr (.inl (fun _ => ov u)))) :: rs) (hval : ∀ u r v, px u → pm r v → ov u = r.toInt64)
    (kk : ∀ (u : SX) (r : Int32) (v : SM) (H : Heap) (locs : List Loc) (ls : Array Slot), px u → pm r v → va_P D vwCl (wm' v ++ wx' u) H → va_D (zNew s) (wm' v ++ wx' u) → va_S (zNew s) s.heap H locs → lv_has ls 7 [(0, .ref bs), (1, .ref o), (2, .ref M), (3, .ref out), (4, .int (nI i))] → W p l e room_1 s m args below meth c H locs (cells + 1) (slots + 6) Q (F0 m 1218 ls [])) : W p l e room_1 s m args below meth c H locs cells slots Q (F0 m 514 ls []) := by
  have hbA : ¬ zNew s bs := Nat.not_le.mpr hbl
  refine lv_aload_n hx hb dL_law_514 rfl (lv_at hl 1 rfl) ?_
  refine lv_aload_n hx hb dL_law_515 rfl (lv_at hl 0 rfl) ?_
  refine lv_iload hx hb dL_law_516 (lv_at hl 4 rfl) ?_
  refine lv_iconst (v := nI 1) hx hb dL_law_518 (by decide) ?_
  refine lv_iadd hx hb dL_law_519 ?_
  refine z_top (y := nI (i + 1)) (nI_add _ _) ?_
  refine z_sld hx hb hX0 hbl hbA hS (k := i + 1) (by omega) hL dL_law_520 ?_
  refine lv_aload_n hx hb dL_law_521 rfl (lv_at hl 3 rfl) ?_
  refine z_lawW (As := [.ref o, .int (xs (i + 1)), .ref out]) (rest := []) ⟨hx, hb, hml, hown, hts⟩ hK hP hD hS hX cwx hadx rfl hl.1 rfl rfl dL_law_522 ⟨by show _ ≤ 1078; omega, by show _ ≤ 10152; omega⟩ (fun rr u H locs hp hP hD hS => ?_)
  obtain ⟨rfl, hp⟩ := hp
  refine lv_istore (lv' := [(5, .int (nI 0)), (0, .ref bs), (1, .ref o), (2, .ref M), (3, .ref out), (4, .int (nI i))]) hx hb dL_law_525 hl (by decide) rfl (fun ls hl => ?_)
  refine lv_aload_n hx hb dL_law_527 rfl (lv_at hl 3 rfl) ?_
  refine lv_aload_n hx hb dL_law_528 rfl (lv_at hl 1 rfl) ?_
  refine lv_iload hx hb dL_law_529 (lv_at hl 5 rfl) ?_
  refine lv_iconst (v := nI 1) hx hb dL_law_531 (by decide) ?_
  refine lv_iadd hx hb dL_law_532 ?_
  refine z_top (y := nI (i + 1)) (nI_add _ _) ?_
  refine z_sld hx hb hX0 hbl hbA hS (k := i + 1) (by omega) hL dL_law_533 ?_
  refine z_callVW (b := M) (As := [.int (xs (i + 1))]) (rest := []) (wx' u) ⟨hx, hb, hml, hown, hts⟩ hK hP hD hS hM cwm (List.range' 0 wm.length) (List.range' wm.length (wx' u).length) (z_rgB _ _) (z_rgA _ _) (z_rgD2 _ _) hadm 0 5 (z_at0 hMr) rfl rfl rfl hl.1 rfl rfl dL_law_534 ⟨by show _ ≤ 1078; omega, by show _ ≤ 10152; omega⟩ (fun r v H locs hq hP hD hS => ?_)
  refine lv_istore (lv' := [(6, .int r), (5, .int (nI 0)), (0, .ref bs), (1, .ref o), (2, .ref M), (3, .ref out), (4, .int (nI i))]) hx hb dL_law_537 hl (by decide) rfl (fun ls hl => ?_)
  refine lv_aload_n hx hb dL_law_539 rfl (lv_at hl 4 rfl) ?_
  obtain ⟨fs2, hMr3⟩ := hMr2 v
  refine z_callV (b := M) (As := []) (rest := []) ⟨hx, hb, hml, hown, hts⟩ hK hP hS (hT v (wx' u)) cwt (wx' u).length 5 (z_atL hMr3) rfl rfl rfl hl.1 rfl rfl dL_law_540 ⟨by show _ ≤ 1078; omega, by show _ ≤ 10152; omega⟩ (fun H locs hP hS => ?_)
  refine lv_iload hx hb dL_law_543 (lv_at hl 1 rfl) ?_
  refine lv_icmp_eq (tgt := 550) hx hb dL_law_545 (by decide) (fun cb1 => ?_) (fun cb1 => ?_)
  · have cb1 : 0 = 0 := zn_eq_t (a := 0) (b := 0) (by omega) (by omega) cb1
    refine lv_iload hx hb dL_law_550 (lv_at hl 1 rfl) ?_
    refine lv_if_ne (tgt := 567) hx hb dL_law_552 (by decide) (fun cb2 => ?_) (fun cb2 => ?_)
    · have cb2 : ¬ (0 = 0) := zn_ne_f (a := 0) (b := 0) (by omega) (by omega) cb2
      exact absurd cb2 (by decide)
    · have cb2 : 0 = 0 := zn_ne_t (a := 0) (b := 0) (by omega) (by omega) cb2
      refine lv_aload_n hx hb dL_law_555 rfl (lv_at hl 5 rfl) ?_
      refine lv_iconst (v := nI 0) hx hb dL_law_556 (by decide) ?_
      obtain ⟨rs9, hov9⟩ := hov u
      refine z_lald (q0 := 0) (ov := ov u) hx hb hK hP (by rw [hov9]; rfl) dL_law_557 ?_
      refine lv_iload hx hb dL_law_558 (lv_at hl 0 rfl) ?_
      refine lv_i2l (v := (r).toInt64) hx hb dL_law_560 rfl ?_
      have hv9 := hval u r v hp hq
      rw [hv9]
      refine z_lcmp0 hx hb dL_law_561 ?_
      refine lv_if_eq (tgt := 567) hx hb dL_law_562 (by decide) (fun cb3 => ?_) (fun cb3 => ?_)
      · have cb3 : 0 = 0 := zn_eq_t (a := 0) (b := 0) (by omega) (by omega) cb3
        refine lv_goto (tgt := 1218) hx hb dL_law_567 (by decide) ?_
        refine W.widen (k := cells + 1) (n := slots + 6) (by omega) (by omega) ?_
        exact kk u r v _ _ _ hp hq (z_swapP hP) (z_swapD hD) hS (lv_sub hl [2, 3, 4, 5, 6] rfl)
      · have cb3 : ¬ (0 = 0) := zn_eq_f (a := 0) (b := 0) (by omega) (by omega) cb3
        exact absurd cb3 (by decide)
  · have cb1 : ¬ (0 = 0) := zn_eq_f (a := 0) (b := 0) (by omega) (by omega) cb1
    exact absurd cb1 (by decide)
set_option maxHeartbeats 4000000 in
set_option maxRecDepth 100000 in
theorem z_case_begin_bad {p : Program} {l : Launch} {e : Env} {s : State} {m : MethodId} {args : Array Value} {below : List Frame} {meth : Method} {c : Code} {H : Heap} {locs : List Loc} {ls : Array Slot} {cells slots : Nat} {Q : State → Prop} {D : va_G} {cy : zCy} {Ts : List Cond} {SX SM : Type} {o M out bs L i : Nat} {xs : Nat → Int32} {wx wm : va_W} {px : SX → Prop} {pm : Int32 → SM → Prop} {wx' : SX → va_W} {wm' : SM → va_W}
    (hx : p.tables.exec = Jvm.exec) (hb : c.code = cL_law) (hml : c.maxLocals = 7) (hown : s.vm.findClass RL = some m.cls) (hts : ∀ w ∈ Ts, w.before args s = true) (hK : zK D cy s) (hX0 : va_X bs L xs s s.heap) (hbl : bs < s.heap.size) (hL : L ≤ 2560) (hi : i + 5 ≤ L) (hrc : cells + 1 ≤ 1078) (hrs : slots + 6 ≤ 10152)
    (hP : va_P D vwCl (wm ++ wx) H) (hD : va_D (zNew s) (wm ++ wx)) (hS : va_S (zNew s) s.heap H locs) (hl : lv_has ls 7 [(0, .ref bs), (1, .ref o), (2, .ref M), (3, .ref out), (4, .int (nI i))])
    {k9 : Nat} (hk1 : 0 < k9) (hk2 : k9 < 4) (hTs : zTs s) (hTh : zTh (zNew s) s s.heap) (hX : zB SX l yL_begin wsL_begin rmL_begin D cy wx [.ref o, .int (xs (i + 1)), .ref out] (fun r u => r = nI k9 ∧ px u) wx') (hadx : ∀ u, (wx' u).map Prod.fst = wx.map Prod.fst) (cwx : vx_CSW room_1 s args RL 99 yL_begin cL_begin 4 (some .int) [(0, 9, 12, 13)] wsL_begin rmL_begin 1 6 3)
    (hM : zW SM l yX5_begin wsX5_begin rmX5_begin D cy wm [.ref M, .int (xs (i + 1))] pm wm') (hadm : ∀ u, (wm' u).map Prod.fst = wm.map Prod.fst) (cwm : CallW room_1 s args RL RX5 102 yX5_begin cX5_begin 3 (some .int) wsX5_begin rmX5_begin 0 0 1)
    {mfs : List Value} (hMr : wm[0]? = some (M, .inr (5, mfs))) (hMr2 : ∀ v, ∃ fs, (wm' v)[0]? = some (M, .inr (5, fs))) (hT : ∀ v w, zR l yX5_thrown wsX5_thrown rmX5_thrown D cy (w ++ wm' v) [.ref M] (nI k9)) (cwt : CallW room_1 s args RL RX5 84 yX5_thrown cX5_thrown 1 (some .int) wsX5_thrown rmX5_thrown 0 0 0)
    (kk : ∀ (u : SX) (r : Int32) (v : SM) (H : Heap) (locs : List Loc) (ls : Array Slot), px u → pm r v → va_P D vwCl (wm' v ++ wx' u) H → va_D (zNew s) (wm' v ++ wx' u) → va_S (zNew s) s.heap H locs → lv_has ls 7 [(0, .ref bs), (1, .ref o), (2, .ref M), (3, .ref out), (4, .int (nI i))] → W p l e room_1 s m args below meth c H locs (cells + 1) (slots + 6) Q (F0 m 1218 ls [])) : W p l e room_1 s m args below meth c H locs cells slots Q (F0 m 514 ls []) := by
  have hbA : ¬ zNew s bs := Nat.not_le.mpr hbl
  refine lv_aload_n hx hb dL_law_514 rfl (lv_at hl 1 rfl) ?_
  refine lv_aload_n hx hb dL_law_515 rfl (lv_at hl 0 rfl) ?_
  refine lv_iload hx hb dL_law_516 (lv_at hl 4 rfl) ?_
  refine lv_iconst (v := nI 1) hx hb dL_law_518 (by decide) ?_
  refine lv_iadd hx hb dL_law_519 ?_
  refine z_top (y := nI (i + 1)) (nI_add _ _) ?_
  refine z_sld hx hb hX0 hbl hbA hS (k := i + 1) (by omega) hL dL_law_520 ?_
  refine lv_aload_n hx hb dL_law_521 rfl (lv_at hl 3 rfl) ?_
  refine z_lawB (As := [.ref o, .int (xs (i + 1)), .ref out]) (rest := []) ⟨hx, hb, hml, hown, hts⟩ hK hP hD hS hTs hTh hX cwx hadx rfl hl.1 rfl rfl dL_law_522 ⟨by show _ ≤ 1078; omega, by show _ ≤ 10152; omega⟩ (fun rr u H locs hp hP hD hS => ?_)
  obtain ⟨rfl, hp⟩ := hp
  refine lv_istore (lv' := [(5, .int (nI k9)), (0, .ref bs), (1, .ref o), (2, .ref M), (3, .ref out), (4, .int (nI i))]) hx hb dL_law_525 hl (by decide) rfl (fun ls hl => ?_)
  refine lv_aload_n hx hb dL_law_527 rfl (lv_at hl 3 rfl) ?_
  refine lv_aload_n hx hb dL_law_528 rfl (lv_at hl 1 rfl) ?_
  refine lv_iload hx hb dL_law_529 (lv_at hl 5 rfl) ?_
  refine lv_iconst (v := nI 1) hx hb dL_law_531 (by decide) ?_
  refine lv_iadd hx hb dL_law_532 ?_
  refine z_top (y := nI (i + 1)) (nI_add _ _) ?_
  refine z_sld hx hb hX0 hbl hbA hS (k := i + 1) (by omega) hL dL_law_533 ?_
  refine z_callVW (b := M) (As := [.int (xs (i + 1))]) (rest := []) (wx' u) ⟨hx, hb, hml, hown, hts⟩ hK hP hD hS hM cwm (List.range' 0 wm.length) (List.range' wm.length (wx' u).length) (z_rgB _ _) (z_rgA _ _) (z_rgD2 _ _) hadm 0 5 (z_at0 hMr) rfl rfl rfl hl.1 rfl rfl dL_law_534 ⟨by show _ ≤ 1078; omega, by show _ ≤ 10152; omega⟩ (fun r v H locs hq hP hD hS => ?_)
  refine lv_istore (lv' := [(6, .int r), (5, .int (nI k9)), (0, .ref bs), (1, .ref o), (2, .ref M), (3, .ref out), (4, .int (nI i))]) hx hb dL_law_537 hl (by decide) rfl (fun ls hl => ?_)
  refine lv_aload_n hx hb dL_law_539 rfl (lv_at hl 4 rfl) ?_
  obtain ⟨fs2, hMr3⟩ := hMr2 v
  refine z_callV (b := M) (As := []) (rest := []) ⟨hx, hb, hml, hown, hts⟩ hK hP hS (hT v (wx' u)) cwt (wx' u).length 5 (z_atL hMr3) rfl rfl rfl hl.1 rfl rfl dL_law_540 ⟨by show _ ≤ 1078; omega, by show _ ≤ 10152; omega⟩ (fun H locs hP hS => ?_)
  refine lv_iload hx hb dL_law_543 (lv_at hl 1 rfl) ?_
  refine lv_icmp_eq (tgt := 550) hx hb dL_law_545 (by decide) (fun cb1 => ?_) (fun cb1 => ?_)
  · have cb1 : k9 = k9 := zn_eq_t (a := k9) (b := k9) (by omega) (by omega) cb1
    refine lv_iload hx hb dL_law_550 (lv_at hl 1 rfl) ?_
    refine lv_if_ne (tgt := 567) hx hb dL_law_552 (by decide) (fun cb2 => ?_) (fun cb2 => ?_)
    · have cb2 : ¬ (k9 = 0) := zn_ne_f (a := k9) (b := 0) (by omega) (by omega) cb2
      refine lv_goto (tgt := 1218) hx hb dL_law_567 (by decide) ?_
      exact kk u r v _ _ _ hp hq (z_swapP hP) (z_swapD hD) hS (lv_sub hl [2, 3, 4, 5, 6] rfl)
    · have cb2 : k9 = 0 := zn_ne_t (a := k9) (b := 0) (by omega) (by omega) cb2
      exact absurd cb2 (by omega)
  · have cb1 : ¬ (k9 = k9) := zn_eq_f (a := k9) (b := k9) (by omega) (by omega) cb1
    exact absurd rfl cb1
set_option maxHeartbeats 4000000 in
set_option maxRecDepth 100000 in
theorem z_case_node_ok {p : Program} {l : Launch} {e : Env} {s : State} {m : MethodId} {args : Array Value} {below : List Frame} {meth : Method} {c : Code} {H : Heap} {locs : List Loc} {ls : Array Slot} {cells slots : Nat} {Q : State → Prop} {D : va_G} {cy : zCy} {Ts : List Cond} {SX SM : Type} {o M out bs L i : Nat} {xs : Nat → Int32} {wx wm : va_W} {px : SX → Prop} {pm : Int32 → SM → Prop} {wx' : SX → va_W} {wm' : SM → va_W}
    (hx : p.tables.exec = Jvm.exec) (hb : c.code = cL_law) (hml : c.maxLocals = 7) (hown : s.vm.findClass RL = some m.cls) (hts : ∀ w ∈ Ts, w.before args s = true) (hK : zK D cy s) (hX0 : va_X bs L xs s s.heap) (hbl : bs < s.heap.size) (hL : L ≤ 2560) (hi : i + 5 ≤ L) (hrc : cells + 1 ≤ 1078) (hrs : slots + 6 ≤ 10152)
    (hP : va_P D vwCl (wm ++ wx) H) (hD : va_D (zNew s) (wm ++ wx)) (hS : va_S (zNew s) s.heap H locs) (hl : lv_has ls 7 [(0, .ref bs), (1, .ref o), (2, .ref M), (3, .ref out), (4, .int (nI i))])
    (hX : zW SX l yL_node wsL_node rmL_node_k D cy wx [.ref o, .int (xs (i + 1)), .int (xs (i + 2)), .ref out] (fun r u => r = nI 0 ∧ px u) wx') (hadx : ∀ u, (wx' u).map Prod.fst = wx.map Prod.fst) (cwx : vx_CSW room_1 s args RL 103 yL_node cL_node 5 (some .int) [(0, 10, 13, 21), (0, 10, 17, 15)] wsL_node rmL_node_k 0 0 4)
    (hM : zW SM l yX5_node wsX5_node rmX5_node D cy wm [.ref M, .int (xs (i + 1)), .int (xs (i + 2))] pm wm') (hadm : ∀ u, (wm' u).map Prod.fst = wm.map Prod.fst) (cwm : CallW room_1 s args RL RX5 106 yX5_node cX5_node 7 (some .int) wsX5_node rmX5_node 0 0 2)
    {mfs : List Value} (hMr : wm[0]? = some (M, .inr (5, mfs))) (hMr2 : ∀ v, ∃ fs, (wm' v)[0]? = some (M, .inr (5, fs))) (hT : ∀ v w, zR l yX5_thrown wsX5_thrown rmX5_thrown D cy (w ++ wm' v) [.ref M] (nI 0)) (cwt : CallW room_1 s args RL RX5 84 yX5_thrown cX5_thrown 1 (some .int) wsX5_thrown rmX5_thrown 0 0 0) {ov : SX → Int64} (hov : ∀ u, ∃ rs, wx' u = (out, .inl (cy.2.2, 1, .inr (.inl (fun _ => ov u)))) :: rs) (hval : ∀ u r v, px u → pm r v → ov u = r.toInt64)
    (kk : ∀ (u : SX) (r : Int32) (v : SM) (H : Heap) (locs : List Loc) (ls : Array Slot), px u → pm r v → va_P D vwCl (wm' v ++ wx' u) H → va_D (zNew s) (wm' v ++ wx' u) → va_S (zNew s) s.heap H locs → lv_has ls 7 [(0, .ref bs), (1, .ref o), (2, .ref M), (3, .ref out), (4, .int (nI i))] → W p l e room_1 s m args below meth c H locs (cells + 1) (slots + 6) Q (F0 m 1218 ls [])) : W p l e room_1 s m args below meth c H locs cells slots Q (F0 m 570 ls []) := by
  have hbA : ¬ zNew s bs := Nat.not_le.mpr hbl
  refine lv_aload_n hx hb dL_law_570 rfl (lv_at hl 1 rfl) ?_
  refine lv_aload_n hx hb dL_law_571 rfl (lv_at hl 0 rfl) ?_
  refine lv_iload hx hb dL_law_572 (lv_at hl 4 rfl) ?_
  refine lv_iconst (v := nI 1) hx hb dL_law_574 (by decide) ?_
  refine lv_iadd hx hb dL_law_575 ?_
  refine z_top (y := nI (i + 1)) (nI_add _ _) ?_
  refine z_sld hx hb hX0 hbl hbA hS (k := i + 1) (by omega) hL dL_law_576 ?_
  refine lv_aload_n hx hb dL_law_577 rfl (lv_at hl 0 rfl) ?_
  refine lv_iload hx hb dL_law_578 (lv_at hl 4 rfl) ?_
  refine lv_iconst (v := nI 2) hx hb dL_law_580 (by decide) ?_
  refine lv_iadd hx hb dL_law_581 ?_
  refine z_top (y := nI (i + 2)) (nI_add _ _) ?_
  refine z_sld hx hb hX0 hbl hbA hS (k := i + 2) (by omega) hL dL_law_582 ?_
  refine lv_aload_n hx hb dL_law_583 rfl (lv_at hl 3 rfl) ?_
  refine z_lawW (As := [.ref o, .int (xs (i + 1)), .int (xs (i + 2)), .ref out]) (rest := []) ⟨hx, hb, hml, hown, hts⟩ hK hP hD hS hX cwx hadx rfl hl.1 rfl rfl dL_law_584 ⟨by show _ ≤ 1078; omega, by show _ ≤ 10152; omega⟩ (fun rr u H locs hp hP hD hS => ?_)
  obtain ⟨rfl, hp⟩ := hp
  refine lv_istore (lv' := [(5, .int (nI 0)), (0, .ref bs), (1, .ref o), (2, .ref M), (3, .ref out), (4, .int (nI i))]) hx hb dL_law_587 hl (by decide) rfl (fun ls hl => ?_)
  refine lv_aload_n hx hb dL_law_589 rfl (lv_at hl 3 rfl) ?_
  refine lv_aload_n hx hb dL_law_590 rfl (lv_at hl 1 rfl) ?_
  refine lv_iload hx hb dL_law_591 (lv_at hl 5 rfl) ?_
  refine lv_iconst (v := nI 1) hx hb dL_law_593 (by decide) ?_
  refine lv_iadd hx hb dL_law_594 ?_
  refine z_top (y := nI (i + 1)) (nI_add _ _) ?_
  refine z_sld hx hb hX0 hbl hbA hS (k := i + 1) (by omega) hL dL_law_595 ?_
  refine lv_aload_n hx hb dL_law_596 rfl (lv_at hl 1 rfl) ?_
  refine lv_iload hx hb dL_law_597 (lv_at hl 5 rfl) ?_
  refine lv_iconst (v := nI 2) hx hb dL_law_599 (by decide) ?_
  refine lv_iadd hx hb dL_law_600 ?_
  refine z_top (y := nI (i + 2)) (nI_add _ _) ?_
  refine z_sld hx hb hX0 hbl hbA hS (k := i + 2) (by omega) hL dL_law_601 ?_
  refine z_callVW (b := M) (As := [.int (xs (i + 1)), .int (xs (i + 2))]) (rest := []) (wx' u) ⟨hx, hb, hml, hown, hts⟩ hK hP hD hS hM cwm (List.range' 0 wm.length) (List.range' wm.length (wx' u).length) (z_rgB _ _) (z_rgA _ _) (z_rgD2 _ _) hadm 0 5 (z_at0 hMr) rfl rfl rfl hl.1 rfl rfl dL_law_602 ⟨by show _ ≤ 1078; omega, by show _ ≤ 10152; omega⟩ (fun r v H locs hq hP hD hS => ?_)
  refine lv_istore (lv' := [(6, .int r), (5, .int (nI 0)), (0, .ref bs), (1, .ref o), (2, .ref M), (3, .ref out), (4, .int (nI i))]) hx hb dL_law_605 hl (by decide) rfl (fun ls hl => ?_)
  refine lv_aload_n hx hb dL_law_607 rfl (lv_at hl 4 rfl) ?_
  obtain ⟨fs2, hMr3⟩ := hMr2 v
  refine z_callV (b := M) (As := []) (rest := []) ⟨hx, hb, hml, hown, hts⟩ hK hP hS (hT v (wx' u)) cwt (wx' u).length 5 (z_atL hMr3) rfl rfl rfl hl.1 rfl rfl dL_law_608 ⟨by show _ ≤ 1078; omega, by show _ ≤ 10152; omega⟩ (fun H locs hP hS => ?_)
  refine lv_iload hx hb dL_law_611 (lv_at hl 1 rfl) ?_
  refine lv_icmp_eq (tgt := 618) hx hb dL_law_613 (by decide) (fun cb1 => ?_) (fun cb1 => ?_)
  · have cb1 : 0 = 0 := zn_eq_t (a := 0) (b := 0) (by omega) (by omega) cb1
    refine lv_iload hx hb dL_law_618 (lv_at hl 1 rfl) ?_
    refine lv_if_ne (tgt := 635) hx hb dL_law_620 (by decide) (fun cb2 => ?_) (fun cb2 => ?_)
    · have cb2 : ¬ (0 = 0) := zn_ne_f (a := 0) (b := 0) (by omega) (by omega) cb2
      exact absurd cb2 (by decide)
    · have cb2 : 0 = 0 := zn_ne_t (a := 0) (b := 0) (by omega) (by omega) cb2
      refine lv_aload_n hx hb dL_law_623 rfl (lv_at hl 5 rfl) ?_
      refine lv_iconst (v := nI 0) hx hb dL_law_624 (by decide) ?_
      obtain ⟨rs9, hov9⟩ := hov u
      refine z_lald (q0 := 0) (ov := ov u) hx hb hK hP (by rw [hov9]; rfl) dL_law_625 ?_
      refine lv_iload hx hb dL_law_626 (lv_at hl 0 rfl) ?_
      refine lv_i2l (v := (r).toInt64) hx hb dL_law_628 rfl ?_
      have hv9 := hval u r v hp hq
      rw [hv9]
      refine z_lcmp0 hx hb dL_law_629 ?_
      refine lv_if_eq (tgt := 635) hx hb dL_law_630 (by decide) (fun cb3 => ?_) (fun cb3 => ?_)
      · have cb3 : 0 = 0 := zn_eq_t (a := 0) (b := 0) (by omega) (by omega) cb3
        refine lv_goto (tgt := 1218) hx hb dL_law_635 (by decide) ?_
        refine W.widen (k := cells + 1) (n := slots + 6) (by omega) (by omega) ?_
        exact kk u r v _ _ _ hp hq (z_swapP hP) (z_swapD hD) hS (lv_sub hl [2, 3, 4, 5, 6] rfl)
      · have cb3 : ¬ (0 = 0) := zn_eq_f (a := 0) (b := 0) (by omega) (by omega) cb3
        exact absurd cb3 (by decide)
  · have cb1 : ¬ (0 = 0) := zn_eq_f (a := 0) (b := 0) (by omega) (by omega) cb1
    exact absurd cb1 (by decide)
set_option maxHeartbeats 4000000 in
set_option maxRecDepth 100000 in
theorem z_case_node_bad {p : Program} {l : Launch} {e : Env} {s : State} {m : MethodId} {args : Array Value} {below : List Frame} {meth : Method} {c : Code} {H : Heap} {locs : List Loc} {ls : Array Slot} {cells slots : Nat} {Q : State → Prop} {D : va_G} {cy : zCy} {Ts : List Cond} {SX SM : Type} {o M out bs L i : Nat} {xs : Nat → Int32} {wx wm : va_W} {px : SX → Prop} {pm : Int32 → SM → Prop} {wx' : SX → va_W} {wm' : SM → va_W}
    (hx : p.tables.exec = Jvm.exec) (hb : c.code = cL_law) (hml : c.maxLocals = 7) (hown : s.vm.findClass RL = some m.cls) (hts : ∀ w ∈ Ts, w.before args s = true) (hK : zK D cy s) (hX0 : va_X bs L xs s s.heap) (hbl : bs < s.heap.size) (hL : L ≤ 2560) (hi : i + 5 ≤ L) (hrc : cells + 1 ≤ 1078) (hrs : slots + 6 ≤ 10152)
    (hP : va_P D vwCl (wm ++ wx) H) (hD : va_D (zNew s) (wm ++ wx)) (hS : va_S (zNew s) s.heap H locs) (hl : lv_has ls 7 [(0, .ref bs), (1, .ref o), (2, .ref M), (3, .ref out), (4, .int (nI i))])
    {k9 : Nat} (hk1 : 0 < k9) (hk2 : k9 < 4) (hTs : zTs s) (hTh : zTh (zNew s) s s.heap) (hX : zB SX l yL_node wsL_node rmL_node D cy wx [.ref o, .int (xs (i + 1)), .int (xs (i + 2)), .ref out] (fun r u => r = nI k9 ∧ px u) wx') (hadx : ∀ u, (wx' u).map Prod.fst = wx.map Prod.fst) (cwx : vx_CSW room_1 s args RL 103 yL_node cL_node 5 (some .int) [(0, 10, 13, 21), (0, 10, 17, 15)] wsL_node rmL_node 1 6 4)
    (hM : zW SM l yX5_node wsX5_node rmX5_node D cy wm [.ref M, .int (xs (i + 1)), .int (xs (i + 2))] pm wm') (hadm : ∀ u, (wm' u).map Prod.fst = wm.map Prod.fst) (cwm : CallW room_1 s args RL RX5 106 yX5_node cX5_node 7 (some .int) wsX5_node rmX5_node 0 0 2)
    {mfs : List Value} (hMr : wm[0]? = some (M, .inr (5, mfs))) (hMr2 : ∀ v, ∃ fs, (wm' v)[0]? = some (M, .inr (5, fs))) (hT : ∀ v w, zR l yX5_thrown wsX5_thrown rmX5_thrown D cy (w ++ wm' v) [.ref M] (nI k9)) (cwt : CallW room_1 s args RL RX5 84 yX5_thrown cX5_thrown 1 (some .int) wsX5_thrown rmX5_thrown 0 0 0)
    (kk : ∀ (u : SX) (r : Int32) (v : SM) (H : Heap) (locs : List Loc) (ls : Array Slot), px u → pm r v → va_P D vwCl (wm' v ++ wx' u) H → va_D (zNew s) (wm' v ++ wx' u) → va_S (zNew s) s.heap H locs → lv_has ls 7 [(0, .ref bs), (1, .ref o), (2, .ref M), (3, .ref out), (4, .int (nI i))] → W p l e room_1 s m args below meth c H locs (cells + 1) (slots + 6) Q (F0 m 1218 ls [])) : W p l e room_1 s m args below meth c H locs cells slots Q (F0 m 570 ls []) := by
  have hbA : ¬ zNew s bs := Nat.not_le.mpr hbl
  refine lv_aload_n hx hb dL_law_570 rfl (lv_at hl 1 rfl) ?_
  refine lv_aload_n hx hb dL_law_571 rfl (lv_at hl 0 rfl) ?_
  refine lv_iload hx hb dL_law_572 (lv_at hl 4 rfl) ?_
  refine lv_iconst (v := nI 1) hx hb dL_law_574 (by decide) ?_
  refine lv_iadd hx hb dL_law_575 ?_
  refine z_top (y := nI (i + 1)) (nI_add _ _) ?_
  refine z_sld hx hb hX0 hbl hbA hS (k := i + 1) (by omega) hL dL_law_576 ?_
  refine lv_aload_n hx hb dL_law_577 rfl (lv_at hl 0 rfl) ?_
  refine lv_iload hx hb dL_law_578 (lv_at hl 4 rfl) ?_
  refine lv_iconst (v := nI 2) hx hb dL_law_580 (by decide) ?_
  refine lv_iadd hx hb dL_law_581 ?_
  refine z_top (y := nI (i + 2)) (nI_add _ _) ?_
  refine z_sld hx hb hX0 hbl hbA hS (k := i + 2) (by omega) hL dL_law_582 ?_
  refine lv_aload_n hx hb dL_law_583 rfl (lv_at hl 3 rfl) ?_
  refine z_lawB (As := [.ref o, .int (xs (i + 1)), .int (xs (i + 2)), .ref out]) (rest := []) ⟨hx, hb, hml, hown, hts⟩ hK hP hD hS hTs hTh hX cwx hadx rfl hl.1 rfl rfl dL_law_584 ⟨by show _ ≤ 1078; omega, by show _ ≤ 10152; omega⟩ (fun rr u H locs hp hP hD hS => ?_)
  obtain ⟨rfl, hp⟩ := hp
  refine lv_istore (lv' := [(5, .int (nI k9)), (0, .ref bs), (1, .ref o), (2, .ref M), (3, .ref out), (4, .int (nI i))]) hx hb dL_law_587 hl (by decide) rfl (fun ls hl => ?_)
  refine lv_aload_n hx hb dL_law_589 rfl (lv_at hl 3 rfl) ?_
  refine lv_aload_n hx hb dL_law_590 rfl (lv_at hl 1 rfl) ?_
  refine lv_iload hx hb dL_law_591 (lv_at hl 5 rfl) ?_
  refine lv_iconst (v := nI 1) hx hb dL_law_593 (by decide) ?_
  refine lv_iadd hx hb dL_law_594 ?_
  refine z_top (y := nI (i + 1)) (nI_add _ _) ?_
  refine z_sld hx hb hX0 hbl hbA hS (k := i + 1) (by omega) hL dL_law_595 ?_
  refine lv_aload_n hx hb dL_law_596 rfl (lv_at hl 1 rfl) ?_
  refine lv_iload hx hb dL_law_597 (lv_at hl 5 rfl) ?_
  refine lv_iconst (v := nI 2) hx hb dL_law_599 (by decide) ?_
  refine lv_iadd hx hb dL_law_600 ?_
  refine z_top (y := nI (i + 2)) (nI_add _ _) ?_
  refine z_sld hx hb hX0 hbl hbA hS (k := i + 2) (by omega) hL dL_law_601 ?_
  refine z_callVW (b := M) (As := [.int (xs (i + 1)), .int (xs (i + 2))]) (rest := []) (wx' u) ⟨hx, hb, hml, hown, hts⟩ hK hP hD hS hM cwm (List.range' 0 wm.length) (List.range' wm.length (wx' u).length) (z_rgB _ _) (z_rgA _ _) (z_rgD2 _ _) hadm 0 5 (z_at0 hMr) rfl rfl rfl hl.1 rfl rfl dL_law_602 ⟨by show _ ≤ 1078; omega, by show _ ≤ 10152; omega⟩ (fun r v H locs hq hP hD hS => ?_)
  refine lv_istore (lv' := [(6, .int r), (5, .int (nI k9)), (0, .ref bs), (1, .ref o), (2, .ref M), (3, .ref out), (4, .int (nI i))]) hx hb dL_law_605 hl (by decide) rfl (fun ls hl => ?_)
  refine lv_aload_n hx hb dL_law_607 rfl (lv_at hl 4 rfl) ?_
  obtain ⟨fs2, hMr3⟩ := hMr2 v
  refine z_callV (b := M) (As := []) (rest := []) ⟨hx, hb, hml, hown, hts⟩ hK hP hS (hT v (wx' u)) cwt (wx' u).length 5 (z_atL hMr3) rfl rfl rfl hl.1 rfl rfl dL_law_608 ⟨by show _ ≤ 1078; omega, by show _ ≤ 10152; omega⟩ (fun H locs hP hS => ?_)
  refine lv_iload hx hb dL_law_611 (lv_at hl 1 rfl) ?_
  refine lv_icmp_eq (tgt := 618) hx hb dL_law_613 (by decide) (fun cb1 => ?_) (fun cb1 => ?_)
  · have cb1 : k9 = k9 := zn_eq_t (a := k9) (b := k9) (by omega) (by omega) cb1
    refine lv_iload hx hb dL_law_618 (lv_at hl 1 rfl) ?_
    refine lv_if_ne (tgt := 635) hx hb dL_law_620 (by decide) (fun cb2 => ?_) (fun cb2 => ?_)
    · have cb2 : ¬ (k9 = 0) := zn_ne_f (a := k9) (b := 0) (by omega) (by omega) cb2
      refine lv_goto (tgt := 1218) hx hb dL_law_635 (by decide) ?_
      exact kk u r v _ _ _ hp hq (z_swapP hP) (z_swapD hD) hS (lv_sub hl [2, 3, 4, 5, 6] rfl)
    · have cb2 : k9 = 0 := zn_ne_t (a := k9) (b := 0) (by omega) (by omega) cb2
      exact absurd cb2 (by omega)
  · have cb1 : ¬ (k9 = k9) := zn_eq_f (a := k9) (b := k9) (by omega) (by omega) cb1
    exact absurd rfl cb1
set_option maxHeartbeats 4000000 in
set_option maxRecDepth 100000 in
theorem z_case_typeOf_ok {p : Program} {l : Launch} {e : Env} {s : State} {m : MethodId} {args : Array Value} {below : List Frame} {meth : Method} {c : Code} {H : Heap} {locs : List Loc} {ls : Array Slot} {cells slots : Nat} {Q : State → Prop} {D : va_G} {cy : zCy} {Ts : List Cond} {SX SM : Type} {o M out bs L i : Nat} {xs : Nat → Int32} {wx wm : va_W} {px : SX → Prop} {pm : Int32 → SM → Prop} {wx' : SX → va_W} {wm' : SM → va_W}
    (hx : p.tables.exec = Jvm.exec) (hb : c.code = cL_law) (hml : c.maxLocals = 7) (hown : s.vm.findClass RL = some m.cls) (hts : ∀ w ∈ Ts, w.before args s = true) (hK : zK D cy s) (hX0 : va_X bs L xs s s.heap) (hbl : bs < s.heap.size) (hL : L ≤ 2560) (hi : i + 5 ≤ L) (hrc : cells + 1 ≤ 1078) (hrs : slots + 6 ≤ 10152)
    (hP : va_P D vwCl (wm ++ wx) H) (hD : va_D (zNew s) (wm ++ wx)) (hS : va_S (zNew s) s.heap H locs) (hl : lv_has ls 7 [(0, .ref bs), (1, .ref o), (2, .ref M), (3, .ref out), (4, .int (nI i))])
    (hX : zW SX l yL_typeOf wsL_typeOf rmL_typeOf_k D cy wx [.ref o, .int (xs (i + 1)), .ref out] (fun r u => r = nI 0 ∧ px u) wx') (hadx : ∀ u, (wx' u).map Prod.fst = wx.map Prod.fst) (cwx : vx_CSW room_1 s args RL 111 yL_typeOf cL_typeOf 4 (some .int) [(0, 9, 12, 21)] wsL_typeOf rmL_typeOf_k 0 0 3)
    (hM : zW SM l yX5_typeOf wsX5_typeOf rmX5_typeOf D cy wm [.ref M, .int (xs (i + 1))] pm wm') (hadm : ∀ u, (wm' u).map Prod.fst = wm.map Prod.fst) (cwm : CallW room_1 s args RL RX5 113 yX5_typeOf cX5_typeOf 2 (some .int) wsX5_typeOf rmX5_typeOf 0 0 1)
    {mfs : List Value} (hMr : wm[0]? = some (M, .inr (5, mfs))) (hMr2 : ∀ v, ∃ fs, (wm' v)[0]? = some (M, .inr (5, fs))) (hT : ∀ v w, zR l yX5_thrown wsX5_thrown rmX5_thrown D cy (w ++ wm' v) [.ref M] (nI 0)) (cwt : CallW room_1 s args RL RX5 84 yX5_thrown cX5_thrown 1 (some .int) wsX5_thrown rmX5_thrown 0 0 0) {ov : SX → Int64} (hov : ∀ u, ∃ rs, wx' u = (out, .inl (cy.2.2, 1, .inr (.inl (fun _ => ov u)))) :: rs) (hval : ∀ u r v, px u → pm r v → ov u = r.toInt64)
    (kk : ∀ (u : SX) (r : Int32) (v : SM) (H : Heap) (locs : List Loc) (ls : Array Slot), px u → pm r v → va_P D vwCl (wm' v ++ wx' u) H → va_D (zNew s) (wm' v ++ wx' u) → va_S (zNew s) s.heap H locs → lv_has ls 7 [(0, .ref bs), (1, .ref o), (2, .ref M), (3, .ref out), (4, .int (nI i))] → W p l e room_1 s m args below meth c H locs (cells + 1) (slots + 6) Q (F0 m 1218 ls [])) : W p l e room_1 s m args below meth c H locs cells slots Q (F0 m 651 ls []) := by
  have hbA : ¬ zNew s bs := Nat.not_le.mpr hbl
  refine lv_aload_n hx hb dL_law_651 rfl (lv_at hl 1 rfl) ?_
  refine lv_aload_n hx hb dL_law_652 rfl (lv_at hl 0 rfl) ?_
  refine lv_iload hx hb dL_law_653 (lv_at hl 4 rfl) ?_
  refine lv_iconst (v := nI 1) hx hb dL_law_655 (by decide) ?_
  refine lv_iadd hx hb dL_law_656 ?_
  refine z_top (y := nI (i + 1)) (nI_add _ _) ?_
  refine z_sld hx hb hX0 hbl hbA hS (k := i + 1) (by omega) hL dL_law_657 ?_
  refine lv_aload_n hx hb dL_law_658 rfl (lv_at hl 3 rfl) ?_
  refine z_lawW (As := [.ref o, .int (xs (i + 1)), .ref out]) (rest := []) ⟨hx, hb, hml, hown, hts⟩ hK hP hD hS hX cwx hadx rfl hl.1 rfl rfl dL_law_659 ⟨by show _ ≤ 1078; omega, by show _ ≤ 10152; omega⟩ (fun rr u H locs hp hP hD hS => ?_)
  obtain ⟨rfl, hp⟩ := hp
  refine lv_istore (lv' := [(5, .int (nI 0)), (0, .ref bs), (1, .ref o), (2, .ref M), (3, .ref out), (4, .int (nI i))]) hx hb dL_law_662 hl (by decide) rfl (fun ls hl => ?_)
  refine lv_aload_n hx hb dL_law_664 rfl (lv_at hl 3 rfl) ?_
  refine lv_aload_n hx hb dL_law_665 rfl (lv_at hl 1 rfl) ?_
  refine lv_iload hx hb dL_law_666 (lv_at hl 5 rfl) ?_
  refine lv_iconst (v := nI 1) hx hb dL_law_668 (by decide) ?_
  refine lv_iadd hx hb dL_law_669 ?_
  refine z_top (y := nI (i + 1)) (nI_add _ _) ?_
  refine z_sld hx hb hX0 hbl hbA hS (k := i + 1) (by omega) hL dL_law_670 ?_
  refine z_callVW (b := M) (As := [.int (xs (i + 1))]) (rest := []) (wx' u) ⟨hx, hb, hml, hown, hts⟩ hK hP hD hS hM cwm (List.range' 0 wm.length) (List.range' wm.length (wx' u).length) (z_rgB _ _) (z_rgA _ _) (z_rgD2 _ _) hadm 0 5 (z_at0 hMr) rfl rfl rfl hl.1 rfl rfl dL_law_671 ⟨by show _ ≤ 1078; omega, by show _ ≤ 10152; omega⟩ (fun r v H locs hq hP hD hS => ?_)
  refine lv_istore (lv' := [(6, .int r), (5, .int (nI 0)), (0, .ref bs), (1, .ref o), (2, .ref M), (3, .ref out), (4, .int (nI i))]) hx hb dL_law_674 hl (by decide) rfl (fun ls hl => ?_)
  refine lv_aload_n hx hb dL_law_676 rfl (lv_at hl 4 rfl) ?_
  obtain ⟨fs2, hMr3⟩ := hMr2 v
  refine z_callV (b := M) (As := []) (rest := []) ⟨hx, hb, hml, hown, hts⟩ hK hP hS (hT v (wx' u)) cwt (wx' u).length 5 (z_atL hMr3) rfl rfl rfl hl.1 rfl rfl dL_law_677 ⟨by show _ ≤ 1078; omega, by show _ ≤ 10152; omega⟩ (fun H locs hP hS => ?_)
  refine lv_iload hx hb dL_law_680 (lv_at hl 1 rfl) ?_
  refine lv_icmp_eq (tgt := 687) hx hb dL_law_682 (by decide) (fun cb1 => ?_) (fun cb1 => ?_)
  · have cb1 : 0 = 0 := zn_eq_t (a := 0) (b := 0) (by omega) (by omega) cb1
    refine lv_iload hx hb dL_law_687 (lv_at hl 1 rfl) ?_
    refine lv_if_ne (tgt := 704) hx hb dL_law_689 (by decide) (fun cb2 => ?_) (fun cb2 => ?_)
    · have cb2 : ¬ (0 = 0) := zn_ne_f (a := 0) (b := 0) (by omega) (by omega) cb2
      exact absurd cb2 (by decide)
    · have cb2 : 0 = 0 := zn_ne_t (a := 0) (b := 0) (by omega) (by omega) cb2
      refine lv_aload_n hx hb dL_law_692 rfl (lv_at hl 5 rfl) ?_
      refine lv_iconst (v := nI 0) hx hb dL_law_693 (by decide) ?_
      obtain ⟨rs9, hov9⟩ := hov u
      refine z_lald (q0 := 0) (ov := ov u) hx hb hK hP (by rw [hov9]; rfl) dL_law_694 ?_
      refine lv_iload hx hb dL_law_695 (lv_at hl 0 rfl) ?_
      refine lv_i2l (v := (r).toInt64) hx hb dL_law_697 rfl ?_
      have hv9 := hval u r v hp hq
      rw [hv9]
      refine z_lcmp0 hx hb dL_law_698 ?_
      refine lv_if_eq (tgt := 704) hx hb dL_law_699 (by decide) (fun cb3 => ?_) (fun cb3 => ?_)
      · have cb3 : 0 = 0 := zn_eq_t (a := 0) (b := 0) (by omega) (by omega) cb3
        refine lv_goto (tgt := 1218) hx hb dL_law_704 (by decide) ?_
        refine W.widen (k := cells + 1) (n := slots + 6) (by omega) (by omega) ?_
        exact kk u r v _ _ _ hp hq (z_swapP hP) (z_swapD hD) hS (lv_sub hl [2, 3, 4, 5, 6] rfl)
      · have cb3 : ¬ (0 = 0) := zn_eq_f (a := 0) (b := 0) (by omega) (by omega) cb3
        exact absurd cb3 (by decide)
  · have cb1 : ¬ (0 = 0) := zn_eq_f (a := 0) (b := 0) (by omega) (by omega) cb1
    exact absurd cb1 (by decide)
set_option maxHeartbeats 4000000 in
set_option maxRecDepth 100000 in
theorem z_case_typeOf_bad {p : Program} {l : Launch} {e : Env} {s : State} {m : MethodId} {args : Array Value} {below : List Frame} {meth : Method} {c : Code} {H : Heap} {locs : List Loc} {ls : Array Slot} {cells slots : Nat} {Q : State → Prop} {D : va_G} {cy : zCy} {Ts : List Cond} {SX SM : Type} {o M out bs L i : Nat} {xs : Nat → Int32} {wx wm : va_W} {px : SX → Prop} {pm : Int32 → SM → Prop} {wx' : SX → va_W} {wm' : SM → va_W}
    (hx : p.tables.exec = Jvm.exec) (hb : c.code = cL_law) (hml : c.maxLocals = 7) (hown : s.vm.findClass RL = some m.cls) (hts : ∀ w ∈ Ts, w.before args s = true) (hK : zK D cy s) (hX0 : va_X bs L xs s s.heap) (hbl : bs < s.heap.size) (hL : L ≤ 2560) (hi : i + 5 ≤ L) (hrc : cells + 1 ≤ 1078) (hrs : slots + 6 ≤ 10152)
    (hP : va_P D vwCl (wm ++ wx) H) (hD : va_D (zNew s) (wm ++ wx)) (hS : va_S (zNew s) s.heap H locs) (hl : lv_has ls 7 [(0, .ref bs), (1, .ref o), (2, .ref M), (3, .ref out), (4, .int (nI i))])
    {k9 : Nat} (hk1 : 0 < k9) (hk2 : k9 < 4) (hTs : zTs s) (hTh : zTh (zNew s) s s.heap) (hX : zB SX l yL_typeOf wsL_typeOf rmL_typeOf D cy wx [.ref o, .int (xs (i + 1)), .ref out] (fun r u => r = nI k9 ∧ px u) wx') (hadx : ∀ u, (wx' u).map Prod.fst = wx.map Prod.fst) (cwx : vx_CSW room_1 s args RL 111 yL_typeOf cL_typeOf 4 (some .int) [(0, 9, 12, 21)] wsL_typeOf rmL_typeOf 1 6 3)
    (hM : zW SM l yX5_typeOf wsX5_typeOf rmX5_typeOf D cy wm [.ref M, .int (xs (i + 1))] pm wm') (hadm : ∀ u, (wm' u).map Prod.fst = wm.map Prod.fst) (cwm : CallW room_1 s args RL RX5 113 yX5_typeOf cX5_typeOf 2 (some .int) wsX5_typeOf rmX5_typeOf 0 0 1)
    {mfs : List Value} (hMr : wm[0]? = some (M, .inr (5, mfs))) (hMr2 : ∀ v, ∃ fs, (wm' v)[0]? = some (M, .inr (5, fs))) (hT : ∀ v w, zR l yX5_thrown wsX5_thrown rmX5_thrown D cy (w ++ wm' v) [.ref M] (nI k9)) (cwt : CallW room_1 s args RL RX5 84 yX5_thrown cX5_thrown 1 (some .int) wsX5_thrown rmX5_thrown 0 0 0)
    (kk : ∀ (u : SX) (r : Int32) (v : SM) (H : Heap) (locs : List Loc) (ls : Array Slot), px u → pm r v → va_P D vwCl (wm' v ++ wx' u) H → va_D (zNew s) (wm' v ++ wx' u) → va_S (zNew s) s.heap H locs → lv_has ls 7 [(0, .ref bs), (1, .ref o), (2, .ref M), (3, .ref out), (4, .int (nI i))] → W p l e room_1 s m args below meth c H locs (cells + 1) (slots + 6) Q (F0 m 1218 ls [])) : W p l e room_1 s m args below meth c H locs cells slots Q (F0 m 651 ls []) := by
  have hbA : ¬ zNew s bs := Nat.not_le.mpr hbl
  refine lv_aload_n hx hb dL_law_651 rfl (lv_at hl 1 rfl) ?_
  refine lv_aload_n hx hb dL_law_652 rfl (lv_at hl 0 rfl) ?_
  refine lv_iload hx hb dL_law_653 (lv_at hl 4 rfl) ?_
  refine lv_iconst (v := nI 1) hx hb dL_law_655 (by decide) ?_
  refine lv_iadd hx hb dL_law_656 ?_
  refine z_top (y := nI (i + 1)) (nI_add _ _) ?_
  refine z_sld hx hb hX0 hbl hbA hS (k := i + 1) (by omega) hL dL_law_657 ?_
  refine lv_aload_n hx hb dL_law_658 rfl (lv_at hl 3 rfl) ?_
  refine z_lawB (As := [.ref o, .int (xs (i + 1)), .ref out]) (rest := []) ⟨hx, hb, hml, hown, hts⟩ hK hP hD hS hTs hTh hX cwx hadx rfl hl.1 rfl rfl dL_law_659 ⟨by show _ ≤ 1078; omega, by show _ ≤ 10152; omega⟩ (fun rr u H locs hp hP hD hS => ?_)
  obtain ⟨rfl, hp⟩ := hp
  refine lv_istore (lv' := [(5, .int (nI k9)), (0, .ref bs), (1, .ref o), (2, .ref M), (3, .ref out), (4, .int (nI i))]) hx hb dL_law_662 hl (by decide) rfl (fun ls hl => ?_)
  refine lv_aload_n hx hb dL_law_664 rfl (lv_at hl 3 rfl) ?_
  refine lv_aload_n hx hb dL_law_665 rfl (lv_at hl 1 rfl) ?_
  refine lv_iload hx hb dL_law_666 (lv_at hl 5 rfl) ?_
  refine lv_iconst (v := nI 1) hx hb dL_law_668 (by decide) ?_
  refine lv_iadd hx hb dL_law_669 ?_
  refine z_top (y := nI (i + 1)) (nI_add _ _) ?_
  refine z_sld hx hb hX0 hbl hbA hS (k := i + 1) (by omega) hL dL_law_670 ?_
  refine z_callVW (b := M) (As := [.int (xs (i + 1))]) (rest := []) (wx' u) ⟨hx, hb, hml, hown, hts⟩ hK hP hD hS hM cwm (List.range' 0 wm.length) (List.range' wm.length (wx' u).length) (z_rgB _ _) (z_rgA _ _) (z_rgD2 _ _) hadm 0 5 (z_at0 hMr) rfl rfl rfl hl.1 rfl rfl dL_law_671 ⟨by show _ ≤ 1078; omega, by show _ ≤ 10152; omega⟩ (fun r v H locs hq hP hD hS => ?_)
  refine lv_istore (lv' := [(6, .int r), (5, .int (nI k9)), (0, .ref bs), (1, .ref o), (2, .ref M), (3, .ref out), (4, .int (nI i))]) hx hb dL_law_674 hl (by decide) rfl (fun ls hl => ?_)
  refine lv_aload_n hx hb dL_law_676 rfl (lv_at hl 4 rfl) ?_
  obtain ⟨fs2, hMr3⟩ := hMr2 v
  refine z_callV (b := M) (As := []) (rest := []) ⟨hx, hb, hml, hown, hts⟩ hK hP hS (hT v (wx' u)) cwt (wx' u).length 5 (z_atL hMr3) rfl rfl rfl hl.1 rfl rfl dL_law_677 ⟨by show _ ≤ 1078; omega, by show _ ≤ 10152; omega⟩ (fun H locs hP hS => ?_)
  refine lv_iload hx hb dL_law_680 (lv_at hl 1 rfl) ?_
  refine lv_icmp_eq (tgt := 687) hx hb dL_law_682 (by decide) (fun cb1 => ?_) (fun cb1 => ?_)
  · have cb1 : k9 = k9 := zn_eq_t (a := k9) (b := k9) (by omega) (by omega) cb1
    refine lv_iload hx hb dL_law_687 (lv_at hl 1 rfl) ?_
    refine lv_if_ne (tgt := 704) hx hb dL_law_689 (by decide) (fun cb2 => ?_) (fun cb2 => ?_)
    · have cb2 : ¬ (k9 = 0) := zn_ne_f (a := k9) (b := 0) (by omega) (by omega) cb2
      refine lv_goto (tgt := 1218) hx hb dL_law_704 (by decide) ?_
      exact kk u r v _ _ _ hp hq (z_swapP hP) (z_swapD hD) hS (lv_sub hl [2, 3, 4, 5, 6] rfl)
    · have cb2 : k9 = 0 := zn_ne_t (a := k9) (b := 0) (by omega) (by omega) cb2
      exact absurd cb2 (by omega)
  · have cb1 : ¬ (k9 = k9) := zn_eq_f (a := k9) (b := k9) (by omega) (by omega) cb1
    exact absurd rfl cb1
set_option maxHeartbeats 4000000 in
set_option maxRecDepth 100000 in
theorem z_case_hops_ok {p : Program} {l : Launch} {e : Env} {s : State} {m : MethodId} {args : Array Value} {below : List Frame} {meth : Method} {c : Code} {H : Heap} {locs : List Loc} {ls : Array Slot} {cells slots : Nat} {Q : State → Prop} {D : va_G} {cy : zCy} {Ts : List Cond} {SX SM : Type} {o M out bs L i : Nat} {xs : Nat → Int32} {wx wm : va_W} {px : SX → Prop} {pm : Int32 → SM → Prop} {wx' : SX → va_W} {wm' : SM → va_W}
    (hx : p.tables.exec = Jvm.exec) (hb : c.code = cL_law) (hml : c.maxLocals = 7) (hown : s.vm.findClass RL = some m.cls) (hts : ∀ w ∈ Ts, w.before args s = true) (hK : zK D cy s) (hX0 : va_X bs L xs s s.heap) (hbl : bs < s.heap.size) (hL : L ≤ 2560) (hi : i + 5 ≤ L) (hrc : cells + 1 ≤ 1078) (hrs : slots + 6 ≤ 10152)
    (hP : va_P D vwCl (wm ++ wx) H) (hD : va_D (zNew s) (wm ++ wx)) (hS : va_S (zNew s) s.heap H locs) (hl : lv_has ls 7 [(0, .ref bs), (1, .ref o), (2, .ref M), (3, .ref out), (4, .int (nI i))])
    (hX : zW SX l yL_hops wsL_hops rmL_hops_k D cy wx [.ref o, .ref out] (fun r u => r = nI 0 ∧ px u) wx') (hadx : ∀ u, (wx' u).map Prod.fst = wx.map Prod.fst) (cwx : vx_CSW room_1 s args RL 114 yL_hops cL_hops 3 (some .int) [(0, 8, 11, 15)] wsL_hops rmL_hops_k 0 0 2)
    (hM : zW SM l yX5_hops wsX5_hops rmX5_hops D cy wm [.ref M] pm wm') (hadm : ∀ u, (wm' u).map Prod.fst = wm.map Prod.fst) (cwm : CallW room_1 s args RL RX5 117 yX5_hops cX5_hops 1 (some .int) wsX5_hops rmX5_hops 0 0 0)
    {mfs : List Value} (hMr : wm[0]? = some (M, .inr (5, mfs))) (hMr2 : ∀ v, ∃ fs, (wm' v)[0]? = some (M, .inr (5, fs))) (hT : ∀ v w, zR l yX5_thrown wsX5_thrown rmX5_thrown D cy (w ++ wm' v) [.ref M] (nI 0)) (cwt : CallW room_1 s args RL RX5 84 yX5_thrown cX5_thrown 1 (some .int) wsX5_thrown rmX5_thrown 0 0 0) {ov : SX → Int64} (hov : ∀ u, ∃ rs, wx' u = (out, .inl (cy.2.2, 1, .inr (.inl (fun _ => ov u)))) :: rs) (hval : ∀ u r v, px u → pm r v → ov u = r.toInt64)
    (kk : ∀ (u : SX) (r : Int32) (v : SM) (H : Heap) (locs : List Loc) (ls : Array Slot), px u → pm r v → va_P D vwCl (wm' v ++ wx' u) H → va_D (zNew s) (wm' v ++ wx' u) → va_S (zNew s) s.heap H locs → lv_has ls 7 [(0, .ref bs), (1, .ref o), (2, .ref M), (3, .ref out), (4, .int (nI i))] → W p l e room_1 s m args below meth c H locs (cells + 1) (slots + 6) Q (F0 m 1218 ls [])) : W p l e room_1 s m args below meth c H locs cells slots Q (F0 m 707 ls []) := by
  have hbA : ¬ zNew s bs := Nat.not_le.mpr hbl
  refine lv_aload_n hx hb dL_law_707 rfl (lv_at hl 1 rfl) ?_
  refine lv_aload_n hx hb dL_law_708 rfl (lv_at hl 3 rfl) ?_
  refine z_lawW (As := [.ref o, .ref out]) (rest := []) ⟨hx, hb, hml, hown, hts⟩ hK hP hD hS hX cwx hadx rfl hl.1 rfl rfl dL_law_709 ⟨by show _ ≤ 1078; omega, by show _ ≤ 10152; omega⟩ (fun rr u H locs hp hP hD hS => ?_)
  obtain ⟨rfl, hp⟩ := hp
  refine lv_istore (lv' := [(5, .int (nI 0)), (0, .ref bs), (1, .ref o), (2, .ref M), (3, .ref out), (4, .int (nI i))]) hx hb dL_law_712 hl (by decide) rfl (fun ls hl => ?_)
  refine lv_aload_n hx hb dL_law_714 rfl (lv_at hl 3 rfl) ?_
  refine z_callVW (b := M) (As := []) (rest := []) (wx' u) ⟨hx, hb, hml, hown, hts⟩ hK hP hD hS hM cwm (List.range' 0 wm.length) (List.range' wm.length (wx' u).length) (z_rgB _ _) (z_rgA _ _) (z_rgD2 _ _) hadm 0 5 (z_at0 hMr) rfl rfl rfl hl.1 rfl rfl dL_law_715 ⟨by show _ ≤ 1078; omega, by show _ ≤ 10152; omega⟩ (fun r v H locs hq hP hD hS => ?_)
  refine lv_istore (lv' := [(6, .int r), (5, .int (nI 0)), (0, .ref bs), (1, .ref o), (2, .ref M), (3, .ref out), (4, .int (nI i))]) hx hb dL_law_718 hl (by decide) rfl (fun ls hl => ?_)
  refine lv_aload_n hx hb dL_law_720 rfl (lv_at hl 4 rfl) ?_
  obtain ⟨fs2, hMr3⟩ := hMr2 v
  refine z_callV (b := M) (As := []) (rest := []) ⟨hx, hb, hml, hown, hts⟩ hK hP hS (hT v (wx' u)) cwt (wx' u).length 5 (z_atL hMr3) rfl rfl rfl hl.1 rfl rfl dL_law_721 ⟨by show _ ≤ 1078; omega, by show _ ≤ 10152; omega⟩ (fun H locs hP hS => ?_)
  refine lv_iload hx hb dL_law_724 (lv_at hl 1 rfl) ?_
  refine lv_icmp_eq (tgt := 731) hx hb dL_law_726 (by decide) (fun cb1 => ?_) (fun cb1 => ?_)
  · have cb1 : 0 = 0 := zn_eq_t (a := 0) (b := 0) (by omega) (by omega) cb1
    refine lv_iload hx hb dL_law_731 (lv_at hl 1 rfl) ?_
    refine lv_if_ne (tgt := 748) hx hb dL_law_733 (by decide) (fun cb2 => ?_) (fun cb2 => ?_)
    · have cb2 : ¬ (0 = 0) := zn_ne_f (a := 0) (b := 0) (by omega) (by omega) cb2
      exact absurd cb2 (by decide)
    · have cb2 : 0 = 0 := zn_ne_t (a := 0) (b := 0) (by omega) (by omega) cb2
      refine lv_aload_n hx hb dL_law_736 rfl (lv_at hl 5 rfl) ?_
      refine lv_iconst (v := nI 0) hx hb dL_law_737 (by decide) ?_
      obtain ⟨rs9, hov9⟩ := hov u
      refine z_lald (q0 := 0) (ov := ov u) hx hb hK hP (by rw [hov9]; rfl) dL_law_738 ?_
      refine lv_iload hx hb dL_law_739 (lv_at hl 0 rfl) ?_
      refine lv_i2l (v := (r).toInt64) hx hb dL_law_741 rfl ?_
      have hv9 := hval u r v hp hq
      rw [hv9]
      refine z_lcmp0 hx hb dL_law_742 ?_
      refine lv_if_eq (tgt := 748) hx hb dL_law_743 (by decide) (fun cb3 => ?_) (fun cb3 => ?_)
      · have cb3 : 0 = 0 := zn_eq_t (a := 0) (b := 0) (by omega) (by omega) cb3
        refine lv_goto (tgt := 1218) hx hb dL_law_748 (by decide) ?_
        refine W.widen (k := cells + 1) (n := slots + 6) (by omega) (by omega) ?_
        exact kk u r v _ _ _ hp hq (z_swapP hP) (z_swapD hD) hS (lv_sub hl [2, 3, 4, 5, 6] rfl)
      · have cb3 : ¬ (0 = 0) := zn_eq_f (a := 0) (b := 0) (by omega) (by omega) cb3
        exact absurd cb3 (by decide)
  · have cb1 : ¬ (0 = 0) := zn_eq_f (a := 0) (b := 0) (by omega) (by omega) cb1
    exact absurd cb1 (by decide)
set_option maxHeartbeats 4000000 in
set_option maxRecDepth 100000 in
theorem z_case_hops_bad {p : Program} {l : Launch} {e : Env} {s : State} {m : MethodId} {args : Array Value} {below : List Frame} {meth : Method} {c : Code} {H : Heap} {locs : List Loc} {ls : Array Slot} {cells slots : Nat} {Q : State → Prop} {D : va_G} {cy : zCy} {Ts : List Cond} {SX SM : Type} {o M out bs L i : Nat} {xs : Nat → Int32} {wx wm : va_W} {px : SX → Prop} {pm : Int32 → SM → Prop} {wx' : SX → va_W} {wm' : SM → va_W}
    (hx : p.tables.exec = Jvm.exec) (hb : c.code = cL_law) (hml : c.maxLocals = 7) (hown : s.vm.findClass RL = some m.cls) (hts : ∀ w ∈ Ts, w.before args s = true) (hK : zK D cy s) (hX0 : va_X bs L xs s s.heap) (hbl : bs < s.heap.size) (hL : L ≤ 2560) (hi : i + 5 ≤ L) (hrc : cells + 1 ≤ 1078) (hrs : slots + 6 ≤ 10152)
    (hP : va_P D vwCl (wm ++ wx) H) (hD : va_D (zNew s) (wm ++ wx)) (hS : va_S (zNew s) s.heap H locs) (hl : lv_has ls 7 [(0, .ref bs), (1, .ref o), (2, .ref M), (3, .ref out), (4, .int (nI i))])
    {k9 : Nat} (hk1 : 0 < k9) (hk2 : k9 < 4) (hTs : zTs s) (hTh : zTh (zNew s) s s.heap) (hX : zB SX l yL_hops wsL_hops rmL_hops D cy wx [.ref o, .ref out] (fun r u => r = nI k9 ∧ px u) wx') (hadx : ∀ u, (wx' u).map Prod.fst = wx.map Prod.fst) (cwx : vx_CSW room_1 s args RL 114 yL_hops cL_hops 3 (some .int) [(0, 8, 11, 15)] wsL_hops rmL_hops 1 6 2)
    (hM : zW SM l yX5_hops wsX5_hops rmX5_hops D cy wm [.ref M] pm wm') (hadm : ∀ u, (wm' u).map Prod.fst = wm.map Prod.fst) (cwm : CallW room_1 s args RL RX5 117 yX5_hops cX5_hops 1 (some .int) wsX5_hops rmX5_hops 0 0 0)
    {mfs : List Value} (hMr : wm[0]? = some (M, .inr (5, mfs))) (hMr2 : ∀ v, ∃ fs, (wm' v)[0]? = some (M, .inr (5, fs))) (hT : ∀ v w, zR l yX5_thrown wsX5_thrown rmX5_thrown D cy (w ++ wm' v) [.ref M] (nI k9)) (cwt : CallW room_1 s args RL RX5 84 yX5_thrown cX5_thrown 1 (some .int) wsX5_thrown rmX5_thrown 0 0 0)
    (kk : ∀ (u : SX) (r : Int32) (v : SM) (H : Heap) (locs : List Loc) (ls : Array Slot), px u → pm r v → va_P D vwCl (wm' v ++ wx' u) H → va_D (zNew s) (wm' v ++ wx' u) → va_S (zNew s) s.heap H locs → lv_has ls 7 [(0, .ref bs), (1, .ref o), (2, .ref M), (3, .ref out), (4, .int (nI i))] → W p l e room_1 s m args below meth c H locs (cells + 1) (slots + 6) Q (F0 m 1218 ls [])) : W p l e room_1 s m args below meth c H locs cells slots Q (F0 m 707 ls []) := by
  have hbA : ¬ zNew s bs := Nat.not_le.mpr hbl
  refine lv_aload_n hx hb dL_law_707 rfl (lv_at hl 1 rfl) ?_
  refine lv_aload_n hx hb dL_law_708 rfl (lv_at hl 3 rfl) ?_
  refine z_lawB (As := [.ref o, .ref out]) (rest := []) ⟨hx, hb, hml, hown, hts⟩ hK hP hD hS hTs hTh hX cwx hadx rfl hl.1 rfl rfl dL_law_709 ⟨by show _ ≤ 1078; omega, by show _ ≤ 10152; omega⟩ (fun rr u H locs hp hP hD hS => ?_)
  obtain ⟨rfl, hp⟩ := hp
  refine lv_istore (lv' := [(5, .int (nI k9)), (0, .ref bs), (1, .ref o), (2, .ref M), (3, .ref out), (4, .int (nI i))]) hx hb dL_law_712 hl (by decide) rfl (fun ls hl => ?_)
  refine lv_aload_n hx hb dL_law_714 rfl (lv_at hl 3 rfl) ?_
  refine z_callVW (b := M) (As := []) (rest := []) (wx' u) ⟨hx, hb, hml, hown, hts⟩ hK hP hD hS hM cwm (List.range' 0 wm.length) (List.range' wm.length (wx' u).length) (z_rgB _ _) (z_rgA _ _) (z_rgD2 _ _) hadm 0 5 (z_at0 hMr) rfl rfl rfl hl.1 rfl rfl dL_law_715 ⟨by show _ ≤ 1078; omega, by show _ ≤ 10152; omega⟩ (fun r v H locs hq hP hD hS => ?_)
  refine lv_istore (lv' := [(6, .int r), (5, .int (nI k9)), (0, .ref bs), (1, .ref o), (2, .ref M), (3, .ref out), (4, .int (nI i))]) hx hb dL_law_718 hl (by decide) rfl (fun ls hl => ?_)
  refine lv_aload_n hx hb dL_law_720 rfl (lv_at hl 4 rfl) ?_
  obtain ⟨fs2, hMr3⟩ := hMr2 v
  refine z_callV (b := M) (As := []) (rest := []) ⟨hx, hb, hml, hown, hts⟩ hK hP hS (hT v (wx' u)) cwt (wx' u).length 5 (z_atL hMr3) rfl rfl rfl hl.1 rfl rfl dL_law_721 ⟨by show _ ≤ 1078; omega, by show _ ≤ 10152; omega⟩ (fun H locs hP hS => ?_)
  refine lv_iload hx hb dL_law_724 (lv_at hl 1 rfl) ?_
  refine lv_icmp_eq (tgt := 731) hx hb dL_law_726 (by decide) (fun cb1 => ?_) (fun cb1 => ?_)
  · have cb1 : k9 = k9 := zn_eq_t (a := k9) (b := k9) (by omega) (by omega) cb1
    refine lv_iload hx hb dL_law_731 (lv_at hl 1 rfl) ?_
    refine lv_if_ne (tgt := 748) hx hb dL_law_733 (by decide) (fun cb2 => ?_) (fun cb2 => ?_)
    · have cb2 : ¬ (k9 = 0) := zn_ne_f (a := k9) (b := 0) (by omega) (by omega) cb2
      refine lv_goto (tgt := 1218) hx hb dL_law_748 (by decide) ?_
      exact kk u r v _ _ _ hp hq (z_swapP hP) (z_swapD hD) hS (lv_sub hl [2, 3, 4, 5, 6] rfl)
    · have cb2 : k9 = 0 := zn_ne_t (a := k9) (b := 0) (by omega) (by omega) cb2
      exact absurd cb2 (by omega)
  · have cb1 : ¬ (k9 = k9) := zn_eq_f (a := k9) (b := k9) (by omega) (by omega) cb1
    exact absurd rfl cb1
set_option maxHeartbeats 4000000 in
set_option maxRecDepth 100000 in
theorem z_case_takenFrom_ok {p : Program} {l : Launch} {e : Env} {s : State} {m : MethodId} {args : Array Value} {below : List Frame} {meth : Method} {c : Code} {H : Heap} {locs : List Loc} {ls : Array Slot} {cells slots : Nat} {Q : State → Prop} {D : va_G} {cy : zCy} {Ts : List Cond} {SX SM : Type} {o M out bs L i : Nat} {xs : Nat → Int32} {wx wm : va_W} {px : SX → Prop} {pm : Int32 → SM → Prop} {wx' : SX → va_W} {wm' : SM → va_W}
    (hx : p.tables.exec = Jvm.exec) (hb : c.code = cL_law) (hml : c.maxLocals = 7) (hown : s.vm.findClass RL = some m.cls) (hts : ∀ w ∈ Ts, w.before args s = true) (hK : zK D cy s) (hX0 : va_X bs L xs s s.heap) (hbl : bs < s.heap.size) (hL : L ≤ 2560) (hi : i + 5 ≤ L) (hrc : cells + 1 ≤ 1078) (hrs : slots + 6 ≤ 10152)
    (hP : va_P D vwCl (wm ++ wx) H) (hD : va_D (zNew s) (wm ++ wx)) (hS : va_S (zNew s) s.heap H locs) (hl : lv_has ls 7 [(0, .ref bs), (1, .ref o), (2, .ref M), (3, .ref out), (4, .int (nI i))])
    (hX : zW SX l yL_takenFrom wsL_takenFrom rmL_takenFrom_k D cy wx [.ref o, .int (xs (i + 1)), .ref out] (fun r u => r = nI 0 ∧ px u) wx') (hadx : ∀ u, (wx' u).map Prod.fst = wx.map Prod.fst) (cwx : vx_CSW room_1 s args RL 118 yL_takenFrom cL_takenFrom 4 (some .int) [(0, 9, 12, 21), (0, 9, 15, 15)] wsL_takenFrom rmL_takenFrom_k 0 0 3)
    (hM : zW SM l yX5_takenFrom wsX5_takenFrom rmX5_takenFrom D cy wm [.ref M, .int (xs (i + 1))] pm wm') (hadm : ∀ u, (wm' u).map Prod.fst = wm.map Prod.fst) (cwm : CallW room_1 s args RL RX5 120 yX5_takenFrom cX5_takenFrom 2 (some .int) wsX5_takenFrom rmX5_takenFrom 0 0 1)
    {mfs : List Value} (hMr : wm[0]? = some (M, .inr (5, mfs))) (hMr2 : ∀ v, ∃ fs, (wm' v)[0]? = some (M, .inr (5, fs))) (hT : ∀ v w, zR l yX5_thrown wsX5_thrown rmX5_thrown D cy (w ++ wm' v) [.ref M] (nI 0)) (cwt : CallW room_1 s args RL RX5 84 yX5_thrown cX5_thrown 1 (some .int) wsX5_thrown rmX5_thrown 0 0 0) {ov : SX → Int64} (hov : ∀ u, ∃ rs, wx' u = (out, .inl (cy.2.2, 1, .inr (.inl (fun _ => ov u)))) :: rs) (hval : ∀ u r v, px u → pm r v → ov u = r.toInt64)
    (kk : ∀ (u : SX) (r : Int32) (v : SM) (H : Heap) (locs : List Loc) (ls : Array Slot), px u → pm r v → va_P D vwCl (wm' v ++ wx' u) H → va_D (zNew s) (wm' v ++ wx' u) → va_S (zNew s) s.heap H locs → lv_has ls 7 [(0, .ref bs), (1, .ref o), (2, .ref M), (3, .ref out), (4, .int (nI i))] → W p l e room_1 s m args below meth c H locs (cells + 1) (slots + 6) Q (F0 m 1218 ls [])) : W p l e room_1 s m args below meth c H locs cells slots Q (F0 m 751 ls []) := by
  have hbA : ¬ zNew s bs := Nat.not_le.mpr hbl
  refine lv_aload_n hx hb dL_law_751 rfl (lv_at hl 1 rfl) ?_
  refine lv_aload_n hx hb dL_law_752 rfl (lv_at hl 0 rfl) ?_
  refine lv_iload hx hb dL_law_753 (lv_at hl 4 rfl) ?_
  refine lv_iconst (v := nI 1) hx hb dL_law_755 (by decide) ?_
  refine lv_iadd hx hb dL_law_756 ?_
  refine z_top (y := nI (i + 1)) (nI_add _ _) ?_
  refine z_sld hx hb hX0 hbl hbA hS (k := i + 1) (by omega) hL dL_law_757 ?_
  refine lv_aload_n hx hb dL_law_758 rfl (lv_at hl 3 rfl) ?_
  refine z_lawW (As := [.ref o, .int (xs (i + 1)), .ref out]) (rest := []) ⟨hx, hb, hml, hown, hts⟩ hK hP hD hS hX cwx hadx rfl hl.1 rfl rfl dL_law_759 ⟨by show _ ≤ 1078; omega, by show _ ≤ 10152; omega⟩ (fun rr u H locs hp hP hD hS => ?_)
  obtain ⟨rfl, hp⟩ := hp
  refine lv_istore (lv' := [(5, .int (nI 0)), (0, .ref bs), (1, .ref o), (2, .ref M), (3, .ref out), (4, .int (nI i))]) hx hb dL_law_762 hl (by decide) rfl (fun ls hl => ?_)
  refine lv_aload_n hx hb dL_law_764 rfl (lv_at hl 3 rfl) ?_
  refine lv_aload_n hx hb dL_law_765 rfl (lv_at hl 1 rfl) ?_
  refine lv_iload hx hb dL_law_766 (lv_at hl 5 rfl) ?_
  refine lv_iconst (v := nI 1) hx hb dL_law_768 (by decide) ?_
  refine lv_iadd hx hb dL_law_769 ?_
  refine z_top (y := nI (i + 1)) (nI_add _ _) ?_
  refine z_sld hx hb hX0 hbl hbA hS (k := i + 1) (by omega) hL dL_law_770 ?_
  refine z_callVW (b := M) (As := [.int (xs (i + 1))]) (rest := []) (wx' u) ⟨hx, hb, hml, hown, hts⟩ hK hP hD hS hM cwm (List.range' 0 wm.length) (List.range' wm.length (wx' u).length) (z_rgB _ _) (z_rgA _ _) (z_rgD2 _ _) hadm 0 5 (z_at0 hMr) rfl rfl rfl hl.1 rfl rfl dL_law_771 ⟨by show _ ≤ 1078; omega, by show _ ≤ 10152; omega⟩ (fun r v H locs hq hP hD hS => ?_)
  refine lv_istore (lv' := [(6, .int r), (5, .int (nI 0)), (0, .ref bs), (1, .ref o), (2, .ref M), (3, .ref out), (4, .int (nI i))]) hx hb dL_law_774 hl (by decide) rfl (fun ls hl => ?_)
  refine lv_aload_n hx hb dL_law_776 rfl (lv_at hl 4 rfl) ?_
  obtain ⟨fs2, hMr3⟩ := hMr2 v
  refine z_callV (b := M) (As := []) (rest := []) ⟨hx, hb, hml, hown, hts⟩ hK hP hS (hT v (wx' u)) cwt (wx' u).length 5 (z_atL hMr3) rfl rfl rfl hl.1 rfl rfl dL_law_777 ⟨by show _ ≤ 1078; omega, by show _ ≤ 10152; omega⟩ (fun H locs hP hS => ?_)
  refine lv_iload hx hb dL_law_780 (lv_at hl 1 rfl) ?_
  refine lv_icmp_eq (tgt := 787) hx hb dL_law_782 (by decide) (fun cb1 => ?_) (fun cb1 => ?_)
  · have cb1 : 0 = 0 := zn_eq_t (a := 0) (b := 0) (by omega) (by omega) cb1
    refine lv_iload hx hb dL_law_787 (lv_at hl 1 rfl) ?_
    refine lv_if_ne (tgt := 804) hx hb dL_law_789 (by decide) (fun cb2 => ?_) (fun cb2 => ?_)
    · have cb2 : ¬ (0 = 0) := zn_ne_f (a := 0) (b := 0) (by omega) (by omega) cb2
      exact absurd cb2 (by decide)
    · have cb2 : 0 = 0 := zn_ne_t (a := 0) (b := 0) (by omega) (by omega) cb2
      refine lv_aload_n hx hb dL_law_792 rfl (lv_at hl 5 rfl) ?_
      refine lv_iconst (v := nI 0) hx hb dL_law_793 (by decide) ?_
      obtain ⟨rs9, hov9⟩ := hov u
      refine z_lald (q0 := 0) (ov := ov u) hx hb hK hP (by rw [hov9]; rfl) dL_law_794 ?_
      refine lv_iload hx hb dL_law_795 (lv_at hl 0 rfl) ?_
      refine lv_i2l (v := (r).toInt64) hx hb dL_law_797 rfl ?_
      have hv9 := hval u r v hp hq
      rw [hv9]
      refine z_lcmp0 hx hb dL_law_798 ?_
      refine lv_if_eq (tgt := 804) hx hb dL_law_799 (by decide) (fun cb3 => ?_) (fun cb3 => ?_)
      · have cb3 : 0 = 0 := zn_eq_t (a := 0) (b := 0) (by omega) (by omega) cb3
        refine lv_goto (tgt := 1218) hx hb dL_law_804 (by decide) ?_
        refine W.widen (k := cells + 1) (n := slots + 6) (by omega) (by omega) ?_
        exact kk u r v _ _ _ hp hq (z_swapP hP) (z_swapD hD) hS (lv_sub hl [2, 3, 4, 5, 6] rfl)
      · have cb3 : ¬ (0 = 0) := zn_eq_f (a := 0) (b := 0) (by omega) (by omega) cb3
        exact absurd cb3 (by decide)
  · have cb1 : ¬ (0 = 0) := zn_eq_f (a := 0) (b := 0) (by omega) (by omega) cb1
    exact absurd cb1 (by decide)
set_option maxHeartbeats 4000000 in
set_option maxRecDepth 100000 in
theorem z_case_takenFrom_bad {p : Program} {l : Launch} {e : Env} {s : State} {m : MethodId} {args : Array Value} {below : List Frame} {meth : Method} {c : Code} {H : Heap} {locs : List Loc} {ls : Array Slot} {cells slots : Nat} {Q : State → Prop} {D : va_G} {cy : zCy} {Ts : List Cond} {SX SM : Type} {o M out bs L i : Nat} {xs : Nat → Int32} {wx wm : va_W} {px : SX → Prop} {pm : Int32 → SM → Prop} {wx' : SX → va_W} {wm' : SM → va_W}
    (hx : p.tables.exec = Jvm.exec) (hb : c.code = cL_law) (hml : c.maxLocals = 7) (hown : s.vm.findClass RL = some m.cls) (hts : ∀ w ∈ Ts, w.before args s = true) (hK : zK D cy s) (hX0 : va_X bs L xs s s.heap) (hbl : bs < s.heap.size) (hL : L ≤ 2560) (hi : i + 5 ≤ L) (hrc : cells + 1 ≤ 1078) (hrs : slots + 6 ≤ 10152)
    (hP : va_P D vwCl (wm ++ wx) H) (hD : va_D (zNew s) (wm ++ wx)) (hS : va_S (zNew s) s.heap H locs) (hl : lv_has ls 7 [(0, .ref bs), (1, .ref o), (2, .ref M), (3, .ref out), (4, .int (nI i))])
    {k9 : Nat} (hk1 : 0 < k9) (hk2 : k9 < 4) (hTs : zTs s) (hTh : zTh (zNew s) s s.heap) (hX : zB SX l yL_takenFrom wsL_takenFrom rmL_takenFrom D cy wx [.ref o, .int (xs (i + 1)), .ref out] (fun r u => r = nI k9 ∧ px u) wx') (hadx : ∀ u, (wx' u).map Prod.fst = wx.map Prod.fst) (cwx : vx_CSW room_1 s args RL 118 yL_takenFrom cL_takenFrom 4 (some .int) [(0, 9, 12, 21), (0, 9, 15, 15)] wsL_takenFrom rmL_takenFrom 1 6 3)
    (hM : zW SM l yX5_takenFrom wsX5_takenFrom rmX5_takenFrom D cy wm [.ref M, .int (xs (i + 1))] pm wm') (hadm : ∀ u, (wm' u).map Prod.fst = wm.map Prod.fst) (cwm : CallW room_1 s args RL RX5 120 yX5_takenFrom cX5_takenFrom 2 (some .int) wsX5_takenFrom rmX5_takenFrom 0 0 1)
    {mfs : List Value} (hMr : wm[0]? = some (M, .inr (5, mfs))) (hMr2 : ∀ v, ∃ fs, (wm' v)[0]? = some (M, .inr (5, fs))) (hT : ∀ v w, zR l yX5_thrown wsX5_thrown rmX5_thrown D cy (w ++ wm' v) [.ref M] (nI k9)) (cwt : CallW room_1 s args RL RX5 84 yX5_thrown cX5_thrown 1 (some .int) wsX5_thrown rmX5_thrown 0 0 0)
    (kk : ∀ (u : SX) (r : Int32) (v : SM) (H : Heap) (locs : List Loc) (ls : Array Slot), px u → pm r v → va_P D vwCl (wm' v ++ wx' u) H → va_D (zNew s) (wm' v ++ wx' u) → va_S (zNew s) s.heap H locs → lv_has ls 7 [(0, .ref bs), (1, .ref o), (2, .ref M), (3, .ref out), (4, .int (nI i))] → W p l e room_1 s m args below meth c H locs (cells + 1) (slots + 6) Q (F0 m 1218 ls [])) : W p l e room_1 s m args below meth c H locs cells slots Q (F0 m 751 ls []) := by
  have hbA : ¬ zNew s bs := Nat.not_le.mpr hbl
  refine lv_aload_n hx hb dL_law_751 rfl (lv_at hl 1 rfl) ?_
  refine lv_aload_n hx hb dL_law_752 rfl (lv_at hl 0 rfl) ?_
  refine lv_iload hx hb dL_law_753 (lv_at hl 4 rfl) ?_
  refine lv_iconst (v := nI 1) hx hb dL_law_755 (by decide) ?_
  refine lv_iadd hx hb dL_law_756 ?_
  refine z_top (y := nI (i + 1)) (nI_add _ _) ?_
  refine z_sld hx hb hX0 hbl hbA hS (k := i + 1) (by omega) hL dL_law_757 ?_
  refine lv_aload_n hx hb dL_law_758 rfl (lv_at hl 3 rfl) ?_
  refine z_lawB (As := [.ref o, .int (xs (i + 1)), .ref out]) (rest := []) ⟨hx, hb, hml, hown, hts⟩ hK hP hD hS hTs hTh hX cwx hadx rfl hl.1 rfl rfl dL_law_759 ⟨by show _ ≤ 1078; omega, by show _ ≤ 10152; omega⟩ (fun rr u H locs hp hP hD hS => ?_)
  obtain ⟨rfl, hp⟩ := hp
  refine lv_istore (lv' := [(5, .int (nI k9)), (0, .ref bs), (1, .ref o), (2, .ref M), (3, .ref out), (4, .int (nI i))]) hx hb dL_law_762 hl (by decide) rfl (fun ls hl => ?_)
  refine lv_aload_n hx hb dL_law_764 rfl (lv_at hl 3 rfl) ?_
  refine lv_aload_n hx hb dL_law_765 rfl (lv_at hl 1 rfl) ?_
  refine lv_iload hx hb dL_law_766 (lv_at hl 5 rfl) ?_
  refine lv_iconst (v := nI 1) hx hb dL_law_768 (by decide) ?_
  refine lv_iadd hx hb dL_law_769 ?_
  refine z_top (y := nI (i + 1)) (nI_add _ _) ?_
  refine z_sld hx hb hX0 hbl hbA hS (k := i + 1) (by omega) hL dL_law_770 ?_
  refine z_callVW (b := M) (As := [.int (xs (i + 1))]) (rest := []) (wx' u) ⟨hx, hb, hml, hown, hts⟩ hK hP hD hS hM cwm (List.range' 0 wm.length) (List.range' wm.length (wx' u).length) (z_rgB _ _) (z_rgA _ _) (z_rgD2 _ _) hadm 0 5 (z_at0 hMr) rfl rfl rfl hl.1 rfl rfl dL_law_771 ⟨by show _ ≤ 1078; omega, by show _ ≤ 10152; omega⟩ (fun r v H locs hq hP hD hS => ?_)
  refine lv_istore (lv' := [(6, .int r), (5, .int (nI k9)), (0, .ref bs), (1, .ref o), (2, .ref M), (3, .ref out), (4, .int (nI i))]) hx hb dL_law_774 hl (by decide) rfl (fun ls hl => ?_)
  refine lv_aload_n hx hb dL_law_776 rfl (lv_at hl 4 rfl) ?_
  obtain ⟨fs2, hMr3⟩ := hMr2 v
  refine z_callV (b := M) (As := []) (rest := []) ⟨hx, hb, hml, hown, hts⟩ hK hP hS (hT v (wx' u)) cwt (wx' u).length 5 (z_atL hMr3) rfl rfl rfl hl.1 rfl rfl dL_law_777 ⟨by show _ ≤ 1078; omega, by show _ ≤ 10152; omega⟩ (fun H locs hP hS => ?_)
  refine lv_iload hx hb dL_law_780 (lv_at hl 1 rfl) ?_
  refine lv_icmp_eq (tgt := 787) hx hb dL_law_782 (by decide) (fun cb1 => ?_) (fun cb1 => ?_)
  · have cb1 : k9 = k9 := zn_eq_t (a := k9) (b := k9) (by omega) (by omega) cb1
    refine lv_iload hx hb dL_law_787 (lv_at hl 1 rfl) ?_
    refine lv_if_ne (tgt := 804) hx hb dL_law_789 (by decide) (fun cb2 => ?_) (fun cb2 => ?_)
    · have cb2 : ¬ (k9 = 0) := zn_ne_f (a := k9) (b := 0) (by omega) (by omega) cb2
      refine lv_goto (tgt := 1218) hx hb dL_law_804 (by decide) ?_
      exact kk u r v _ _ _ hp hq (z_swapP hP) (z_swapD hD) hS (lv_sub hl [2, 3, 4, 5, 6] rfl)
    · have cb2 : k9 = 0 := zn_ne_t (a := k9) (b := 0) (by omega) (by omega) cb2
      exact absurd cb2 (by omega)
  · have cb1 : ¬ (k9 = k9) := zn_eq_f (a := k9) (b := k9) (by omega) (by omega) cb1
    exact absurd rfl cb1
set_option maxHeartbeats 4000000 in
set_option maxRecDepth 100000 in
theorem z_case_used_ok {p : Program} {l : Launch} {e : Env} {s : State} {m : MethodId} {args : Array Value} {below : List Frame} {meth : Method} {c : Code} {H : Heap} {locs : List Loc} {ls : Array Slot} {cells slots : Nat} {Q : State → Prop} {D : va_G} {cy : zCy} {Ts : List Cond} {SX SM : Type} {o M out bs L i : Nat} {xs : Nat → Int32} {wx wm : va_W} {px : SX → Prop} {pm : Int32 → SM → Prop} {wx' : SX → va_W} {wm' : SM → va_W}
    (hx : p.tables.exec = Jvm.exec) (hb : c.code = cL_law) (hml : c.maxLocals = 7) (hown : s.vm.findClass RL = some m.cls) (hts : ∀ w ∈ Ts, w.before args s = true) (hK : zK D cy s) (hX0 : va_X bs L xs s s.heap) (hbl : bs < s.heap.size) (hL : L ≤ 2560) (hi : i + 5 ≤ L) (hrc : cells + 1 ≤ 1078) (hrs : slots + 6 ≤ 10152)
    (hP : va_P D vwCl (wm ++ wx) H) (hD : va_D (zNew s) (wm ++ wx)) (hS : va_S (zNew s) s.heap H locs) (hl : lv_has ls 7 [(0, .ref bs), (1, .ref o), (2, .ref M), (3, .ref out), (4, .int (nI i))])
    (hX : zW SX l yL_used wsL_used rmL_used_k D cy wx [.ref o, .ref out] (fun r u => r = nI 0 ∧ px u) wx') (hadx : ∀ u, (wx' u).map Prod.fst = wx.map Prod.fst) (cwx : vx_CSW room_1 s args RL 121 yL_used cL_used 3 (some .int) [(0, 8, 11, 15)] wsL_used rmL_used_k 0 0 2)
    (hM : zW SM l yX5_used wsX5_used rmX5_used D cy wm [.ref M] pm wm') (hadm : ∀ u, (wm' u).map Prod.fst = wm.map Prod.fst) (cwm : CallW room_1 s args RL RX5 123 yX5_used cX5_used 3 (some .int) wsX5_used rmX5_used 0 0 0)
    {mfs : List Value} (hMr : wm[0]? = some (M, .inr (5, mfs))) (hMr2 : ∀ v, ∃ fs, (wm' v)[0]? = some (M, .inr (5, fs))) (hT : ∀ v w, zR l yX5_thrown wsX5_thrown rmX5_thrown D cy (w ++ wm' v) [.ref M] (nI 0)) (cwt : CallW room_1 s args RL RX5 84 yX5_thrown cX5_thrown 1 (some .int) wsX5_thrown rmX5_thrown 0 0 0) {ov : SX → Int64} (hov : ∀ u, ∃ rs, wx' u = (out, .inl (cy.2.2, 1, .inr (.inl (fun _ => ov u)))) :: rs) (hval : ∀ u r v, px u → pm r v → ov u = r.toInt64)
    (kk : ∀ (u : SX) (r : Int32) (v : SM) (H : Heap) (locs : List Loc) (ls : Array Slot), px u → pm r v → va_P D vwCl (wm' v ++ wx' u) H → va_D (zNew s) (wm' v ++ wx' u) → va_S (zNew s) s.heap H locs → lv_has ls 7 [(0, .ref bs), (1, .ref o), (2, .ref M), (3, .ref out), (4, .int (nI i))] → W p l e room_1 s m args below meth c H locs (cells + 1) (slots + 6) Q (F0 m 1218 ls [])) : W p l e room_1 s m args below meth c H locs cells slots Q (F0 m 807 ls []) := by
  have hbA : ¬ zNew s bs := Nat.not_le.mpr hbl
  refine lv_aload_n hx hb dL_law_807 rfl (lv_at hl 1 rfl) ?_
  refine lv_aload_n hx hb dL_law_808 rfl (lv_at hl 3 rfl) ?_
  refine z_lawW (As := [.ref o, .ref out]) (rest := []) ⟨hx, hb, hml, hown, hts⟩ hK hP hD hS hX cwx hadx rfl hl.1 rfl rfl dL_law_809 ⟨by show _ ≤ 1078; omega, by show _ ≤ 10152; omega⟩ (fun rr u H locs hp hP hD hS => ?_)
  obtain ⟨rfl, hp⟩ := hp
  refine lv_istore (lv' := [(5, .int (nI 0)), (0, .ref bs), (1, .ref o), (2, .ref M), (3, .ref out), (4, .int (nI i))]) hx hb dL_law_812 hl (by decide) rfl (fun ls hl => ?_)
  refine lv_aload_n hx hb dL_law_814 rfl (lv_at hl 3 rfl) ?_
  refine z_callVW (b := M) (As := []) (rest := []) (wx' u) ⟨hx, hb, hml, hown, hts⟩ hK hP hD hS hM cwm (List.range' 0 wm.length) (List.range' wm.length (wx' u).length) (z_rgB _ _) (z_rgA _ _) (z_rgD2 _ _) hadm 0 5 (z_at0 hMr) rfl rfl rfl hl.1 rfl rfl dL_law_815 ⟨by show _ ≤ 1078; omega, by show _ ≤ 10152; omega⟩ (fun r v H locs hq hP hD hS => ?_)
  refine lv_istore (lv' := [(6, .int r), (5, .int (nI 0)), (0, .ref bs), (1, .ref o), (2, .ref M), (3, .ref out), (4, .int (nI i))]) hx hb dL_law_818 hl (by decide) rfl (fun ls hl => ?_)
  refine lv_aload_n hx hb dL_law_820 rfl (lv_at hl 4 rfl) ?_
  obtain ⟨fs2, hMr3⟩ := hMr2 v
  refine z_callV (b := M) (As := []) (rest := []) ⟨hx, hb, hml, hown, hts⟩ hK hP hS (hT v (wx' u)) cwt (wx' u).length 5 (z_atL hMr3) rfl rfl rfl hl.1 rfl rfl dL_law_821 ⟨by show _ ≤ 1078; omega, by show _ ≤ 10152; omega⟩ (fun H locs hP hS => ?_)
  refine lv_iload hx hb dL_law_824 (lv_at hl 1 rfl) ?_
  refine lv_icmp_eq (tgt := 831) hx hb dL_law_826 (by decide) (fun cb1 => ?_) (fun cb1 => ?_)
  · have cb1 : 0 = 0 := zn_eq_t (a := 0) (b := 0) (by omega) (by omega) cb1
    refine lv_iload hx hb dL_law_831 (lv_at hl 1 rfl) ?_
    refine lv_if_ne (tgt := 848) hx hb dL_law_833 (by decide) (fun cb2 => ?_) (fun cb2 => ?_)
    · have cb2 : ¬ (0 = 0) := zn_ne_f (a := 0) (b := 0) (by omega) (by omega) cb2
      exact absurd cb2 (by decide)
    · have cb2 : 0 = 0 := zn_ne_t (a := 0) (b := 0) (by omega) (by omega) cb2
      refine lv_aload_n hx hb dL_law_836 rfl (lv_at hl 5 rfl) ?_
      refine lv_iconst (v := nI 0) hx hb dL_law_837 (by decide) ?_
      obtain ⟨rs9, hov9⟩ := hov u
      refine z_lald (q0 := 0) (ov := ov u) hx hb hK hP (by rw [hov9]; rfl) dL_law_838 ?_
      refine lv_iload hx hb dL_law_839 (lv_at hl 0 rfl) ?_
      refine lv_i2l (v := (r).toInt64) hx hb dL_law_841 rfl ?_
      have hv9 := hval u r v hp hq
      rw [hv9]
      refine z_lcmp0 hx hb dL_law_842 ?_
      refine lv_if_eq (tgt := 848) hx hb dL_law_843 (by decide) (fun cb3 => ?_) (fun cb3 => ?_)
      · have cb3 : 0 = 0 := zn_eq_t (a := 0) (b := 0) (by omega) (by omega) cb3
        refine lv_goto (tgt := 1218) hx hb dL_law_848 (by decide) ?_
        refine W.widen (k := cells + 1) (n := slots + 6) (by omega) (by omega) ?_
        exact kk u r v _ _ _ hp hq (z_swapP hP) (z_swapD hD) hS (lv_sub hl [2, 3, 4, 5, 6] rfl)
      · have cb3 : ¬ (0 = 0) := zn_eq_f (a := 0) (b := 0) (by omega) (by omega) cb3
        exact absurd cb3 (by decide)
  · have cb1 : ¬ (0 = 0) := zn_eq_f (a := 0) (b := 0) (by omega) (by omega) cb1
    exact absurd cb1 (by decide)
set_option maxHeartbeats 4000000 in
set_option maxRecDepth 100000 in
theorem z_case_used_bad {p : Program} {l : Launch} {e : Env} {s : State} {m : MethodId} {args : Array Value} {below : List Frame} {meth : Method} {c : Code} {H : Heap} {locs : List Loc} {ls : Array Slot} {cells slots : Nat} {Q : State → Prop} {D : va_G} {cy : zCy} {Ts : List Cond} {SX SM : Type} {o M out bs L i : Nat} {xs : Nat → Int32} {wx wm : va_W} {px : SX → Prop} {pm : Int32 → SM → Prop} {wx' : SX → va_W} {wm' : SM → va_W}
    (hx : p.tables.exec = Jvm.exec) (hb : c.code = cL_law) (hml : c.maxLocals = 7) (hown : s.vm.findClass RL = some m.cls) (hts : ∀ w ∈ Ts, w.before args s = true) (hK : zK D cy s) (hX0 : va_X bs L xs s s.heap) (hbl : bs < s.heap.size) (hL : L ≤ 2560) (hi : i + 5 ≤ L) (hrc : cells + 1 ≤ 1078) (hrs : slots + 6 ≤ 10152)
    (hP : va_P D vwCl (wm ++ wx) H) (hD : va_D (zNew s) (wm ++ wx)) (hS : va_S (zNew s) s.heap H locs) (hl : lv_has ls 7 [(0, .ref bs), (1, .ref o), (2, .ref M), (3, .ref out), (4, .int (nI i))])
    {k9 : Nat} (hk1 : 0 < k9) (hk2 : k9 < 4) (hTs : zTs s) (hTh : zTh (zNew s) s s.heap) (hX : zB SX l yL_used wsL_used rmL_used D cy wx [.ref o, .ref out] (fun r u => r = nI k9 ∧ px u) wx') (hadx : ∀ u, (wx' u).map Prod.fst = wx.map Prod.fst) (cwx : vx_CSW room_1 s args RL 121 yL_used cL_used 3 (some .int) [(0, 8, 11, 15)] wsL_used rmL_used 1 6 2)
    (hM : zW SM l yX5_used wsX5_used rmX5_used D cy wm [.ref M] pm wm') (hadm : ∀ u, (wm' u).map Prod.fst = wm.map Prod.fst) (cwm : CallW room_1 s args RL RX5 123 yX5_used cX5_used 3 (some .int) wsX5_used rmX5_used 0 0 0)
    {mfs : List Value} (hMr : wm[0]? = some (M, .inr (5, mfs))) (hMr2 : ∀ v, ∃ fs, (wm' v)[0]? = some (M, .inr (5, fs))) (hT : ∀ v w, zR l yX5_thrown wsX5_thrown rmX5_thrown D cy (w ++ wm' v) [.ref M] (nI k9)) (cwt : CallW room_1 s args RL RX5 84 yX5_thrown cX5_thrown 1 (some .int) wsX5_thrown rmX5_thrown 0 0 0)
    (kk : ∀ (u : SX) (r : Int32) (v : SM) (H : Heap) (locs : List Loc) (ls : Array Slot), px u → pm r v → va_P D vwCl (wm' v ++ wx' u) H → va_D (zNew s) (wm' v ++ wx' u) → va_S (zNew s) s.heap H locs → lv_has ls 7 [(0, .ref bs), (1, .ref o), (2, .ref M), (3, .ref out), (4, .int (nI i))] → W p l e room_1 s m args below meth c H locs (cells + 1) (slots + 6) Q (F0 m 1218 ls [])) : W p l e room_1 s m args below meth c H locs cells slots Q (F0 m 807 ls []) := by
  have hbA : ¬ zNew s bs := Nat.not_le.mpr hbl
  refine lv_aload_n hx hb dL_law_807 rfl (lv_at hl 1 rfl) ?_
  refine lv_aload_n hx hb dL_law_808 rfl (lv_at hl 3 rfl) ?_
  refine z_lawB (As := [.ref o, .ref out]) (rest := []) ⟨hx, hb, hml, hown, hts⟩ hK hP hD hS hTs hTh hX cwx hadx rfl hl.1 rfl rfl dL_law_809 ⟨by show _ ≤ 1078; omega, by show _ ≤ 10152; omega⟩ (fun rr u H locs hp hP hD hS => ?_)
  obtain ⟨rfl, hp⟩ := hp
  refine lv_istore (lv' := [(5, .int (nI k9)), (0, .ref bs), (1, .ref o), (2, .ref M), (3, .ref out), (4, .int (nI i))]) hx hb dL_law_812 hl (by decide) rfl (fun ls hl => ?_)
  refine lv_aload_n hx hb dL_law_814 rfl (lv_at hl 3 rfl) ?_
  refine z_callVW (b := M) (As := []) (rest := []) (wx' u) ⟨hx, hb, hml, hown, hts⟩ hK hP hD hS hM cwm (List.range' 0 wm.length) (List.range' wm.length (wx' u).length) (z_rgB _ _) (z_rgA _ _) (z_rgD2 _ _) hadm 0 5 (z_at0 hMr) rfl rfl rfl hl.1 rfl rfl dL_law_815 ⟨by show _ ≤ 1078; omega, by show _ ≤ 10152; omega⟩ (fun r v H locs hq hP hD hS => ?_)
  refine lv_istore (lv' := [(6, .int r), (5, .int (nI k9)), (0, .ref bs), (1, .ref o), (2, .ref M), (3, .ref out), (4, .int (nI i))]) hx hb dL_law_818 hl (by decide) rfl (fun ls hl => ?_)
  refine lv_aload_n hx hb dL_law_820 rfl (lv_at hl 4 rfl) ?_
  obtain ⟨fs2, hMr3⟩ := hMr2 v
  refine z_callV (b := M) (As := []) (rest := []) ⟨hx, hb, hml, hown, hts⟩ hK hP hS (hT v (wx' u)) cwt (wx' u).length 5 (z_atL hMr3) rfl rfl rfl hl.1 rfl rfl dL_law_821 ⟨by show _ ≤ 1078; omega, by show _ ≤ 10152; omega⟩ (fun H locs hP hS => ?_)
  refine lv_iload hx hb dL_law_824 (lv_at hl 1 rfl) ?_
  refine lv_icmp_eq (tgt := 831) hx hb dL_law_826 (by decide) (fun cb1 => ?_) (fun cb1 => ?_)
  · have cb1 : k9 = k9 := zn_eq_t (a := k9) (b := k9) (by omega) (by omega) cb1
    refine lv_iload hx hb dL_law_831 (lv_at hl 1 rfl) ?_
    refine lv_if_ne (tgt := 848) hx hb dL_law_833 (by decide) (fun cb2 => ?_) (fun cb2 => ?_)
    · have cb2 : ¬ (k9 = 0) := zn_ne_f (a := k9) (b := 0) (by omega) (by omega) cb2
      refine lv_goto (tgt := 1218) hx hb dL_law_848 (by decide) ?_
      exact kk u r v _ _ _ hp hq (z_swapP hP) (z_swapD hD) hS (lv_sub hl [2, 3, 4, 5, 6] rfl)
    · have cb2 : k9 = 0 := zn_ne_t (a := k9) (b := 0) (by omega) (by omega) cb2
      exact absurd cb2 (by omega)
  · have cb1 : ¬ (k9 = k9) := zn_eq_f (a := k9) (b := k9) (by omega) (by omega) cb1
    exact absurd rfl cb1
set_option maxHeartbeats 4000000 in
set_option maxRecDepth 100000 in
theorem z_case_value_ok {p : Program} {l : Launch} {e : Env} {s : State} {m : MethodId} {args : Array Value} {below : List Frame} {meth : Method} {c : Code} {H : Heap} {locs : List Loc} {ls : Array Slot} {cells slots : Nat} {Q : State → Prop} {D : va_G} {cy : zCy} {Ts : List Cond} {SX SM : Type} {o M out bs L i : Nat} {xs : Nat → Int32} {wx wm : va_W} {px : SX → Prop} {pm : Int32 → SM → Prop} {wx' : SX → va_W} {wm' : SM → va_W}
    (hx : p.tables.exec = Jvm.exec) (hb : c.code = cL_law) (hml : c.maxLocals = 7) (hown : s.vm.findClass RL = some m.cls) (hts : ∀ w ∈ Ts, w.before args s = true) (hK : zK D cy s) (hX0 : va_X bs L xs s s.heap) (hbl : bs < s.heap.size) (hL : L ≤ 2560) (hi : i + 5 ≤ L) (hrc : cells + 1 ≤ 1078) (hrs : slots + 6 ≤ 10152)
    (hP : va_P D vwCl (wm ++ wx) H) (hD : va_D (zNew s) (wm ++ wx)) (hS : va_S (zNew s) s.heap H locs) (hl : lv_has ls 7 [(0, .ref bs), (1, .ref o), (2, .ref M), (3, .ref out), (4, .int (nI i))])
    (hX : zW SX l yL_value wsL_value rmL_value_k D cy wx [.ref o, .int (xs (i + 1)), .int (xs (i + 2)), .ref out] (fun r u => r = nI 0 ∧ px u) wx') (hadx : ∀ u, (wx' u).map Prod.fst = wx.map Prod.fst) (cwx : vx_CSW room_1 s args RL 124 yL_value cL_value 5 (some .int) [(0, 10, 13, 13), (0, 10, 17, 21), (0, 10, 21, 15)] wsL_value rmL_value_k 0 0 4)
    (hM : zW SM l yX5_value wsX5_value rmX5_value D cy wm [.ref M, .int (xs (i + 1)), .int (xs (i + 2))] pm wm') (hadm : ∀ u, (wm' u).map Prod.fst = wm.map Prod.fst) (cwm : CallW room_1 s args RL RX5 126 yX5_value cX5_value 3 (some .int) wsX5_value rmX5_value 0 0 2)
    {mfs : List Value} (hMr : wm[0]? = some (M, .inr (5, mfs))) (hMr2 : ∀ v, ∃ fs, (wm' v)[0]? = some (M, .inr (5, fs))) (hT : ∀ v w, zR l yX5_thrown wsX5_thrown rmX5_thrown D cy (w ++ wm' v) [.ref M] (nI 0)) (cwt : CallW room_1 s args RL RX5 84 yX5_thrown cX5_thrown 1 (some .int) wsX5_thrown rmX5_thrown 0 0 0) {ov : SX → Int64} (hov : ∀ u, ∃ rs, wx' u = (out, .inl (cy.2.2, 1, .inr (.inl (fun _ => ov u)))) :: rs) (hval : ∀ u r v, px u → pm r v → ov u = r.toInt64)
    (kk : ∀ (u : SX) (r : Int32) (v : SM) (H : Heap) (locs : List Loc) (ls : Array Slot), px u → pm r v → va_P D vwCl (wm' v ++ wx' u) H → va_D (zNew s) (wm' v ++ wx' u) → va_S (zNew s) s.heap H locs → lv_has ls 7 [(0, .ref bs), (1, .ref o), (2, .ref M), (3, .ref out), (4, .int (nI i))] → W p l e room_1 s m args below meth c H locs (cells + 1) (slots + 6) Q (F0 m 1218 ls [])) : W p l e room_1 s m args below meth c H locs cells slots Q (F0 m 851 ls []) := by
  have hbA : ¬ zNew s bs := Nat.not_le.mpr hbl
  refine lv_aload_n hx hb dL_law_851 rfl (lv_at hl 1 rfl) ?_
  refine lv_aload_n hx hb dL_law_852 rfl (lv_at hl 0 rfl) ?_
  refine lv_iload hx hb dL_law_853 (lv_at hl 4 rfl) ?_
  refine lv_iconst (v := nI 1) hx hb dL_law_855 (by decide) ?_
  refine lv_iadd hx hb dL_law_856 ?_
  refine z_top (y := nI (i + 1)) (nI_add _ _) ?_
  refine z_sld hx hb hX0 hbl hbA hS (k := i + 1) (by omega) hL dL_law_857 ?_
  refine lv_aload_n hx hb dL_law_858 rfl (lv_at hl 0 rfl) ?_
  refine lv_iload hx hb dL_law_859 (lv_at hl 4 rfl) ?_
  refine lv_iconst (v := nI 2) hx hb dL_law_861 (by decide) ?_
  refine lv_iadd hx hb dL_law_862 ?_
  refine z_top (y := nI (i + 2)) (nI_add _ _) ?_
  refine z_sld hx hb hX0 hbl hbA hS (k := i + 2) (by omega) hL dL_law_863 ?_
  refine lv_aload_n hx hb dL_law_864 rfl (lv_at hl 3 rfl) ?_
  refine z_lawW (As := [.ref o, .int (xs (i + 1)), .int (xs (i + 2)), .ref out]) (rest := []) ⟨hx, hb, hml, hown, hts⟩ hK hP hD hS hX cwx hadx rfl hl.1 rfl rfl dL_law_865 ⟨by show _ ≤ 1078; omega, by show _ ≤ 10152; omega⟩ (fun rr u H locs hp hP hD hS => ?_)
  obtain ⟨rfl, hp⟩ := hp
  refine lv_istore (lv' := [(5, .int (nI 0)), (0, .ref bs), (1, .ref o), (2, .ref M), (3, .ref out), (4, .int (nI i))]) hx hb dL_law_868 hl (by decide) rfl (fun ls hl => ?_)
  refine lv_aload_n hx hb dL_law_870 rfl (lv_at hl 3 rfl) ?_
  refine lv_aload_n hx hb dL_law_871 rfl (lv_at hl 1 rfl) ?_
  refine lv_iload hx hb dL_law_872 (lv_at hl 5 rfl) ?_
  refine lv_iconst (v := nI 1) hx hb dL_law_874 (by decide) ?_
  refine lv_iadd hx hb dL_law_875 ?_
  refine z_top (y := nI (i + 1)) (nI_add _ _) ?_
  refine z_sld hx hb hX0 hbl hbA hS (k := i + 1) (by omega) hL dL_law_876 ?_
  refine lv_aload_n hx hb dL_law_877 rfl (lv_at hl 1 rfl) ?_
  refine lv_iload hx hb dL_law_878 (lv_at hl 5 rfl) ?_
  refine lv_iconst (v := nI 2) hx hb dL_law_880 (by decide) ?_
  refine lv_iadd hx hb dL_law_881 ?_
  refine z_top (y := nI (i + 2)) (nI_add _ _) ?_
  refine z_sld hx hb hX0 hbl hbA hS (k := i + 2) (by omega) hL dL_law_882 ?_
  refine z_callVW (b := M) (As := [.int (xs (i + 1)), .int (xs (i + 2))]) (rest := []) (wx' u) ⟨hx, hb, hml, hown, hts⟩ hK hP hD hS hM cwm (List.range' 0 wm.length) (List.range' wm.length (wx' u).length) (z_rgB _ _) (z_rgA _ _) (z_rgD2 _ _) hadm 0 5 (z_at0 hMr) rfl rfl rfl hl.1 rfl rfl dL_law_883 ⟨by show _ ≤ 1078; omega, by show _ ≤ 10152; omega⟩ (fun r v H locs hq hP hD hS => ?_)
  refine lv_istore (lv' := [(6, .int r), (5, .int (nI 0)), (0, .ref bs), (1, .ref o), (2, .ref M), (3, .ref out), (4, .int (nI i))]) hx hb dL_law_886 hl (by decide) rfl (fun ls hl => ?_)
  refine lv_aload_n hx hb dL_law_888 rfl (lv_at hl 4 rfl) ?_
  obtain ⟨fs2, hMr3⟩ := hMr2 v
  refine z_callV (b := M) (As := []) (rest := []) ⟨hx, hb, hml, hown, hts⟩ hK hP hS (hT v (wx' u)) cwt (wx' u).length 5 (z_atL hMr3) rfl rfl rfl hl.1 rfl rfl dL_law_889 ⟨by show _ ≤ 1078; omega, by show _ ≤ 10152; omega⟩ (fun H locs hP hS => ?_)
  refine lv_iload hx hb dL_law_892 (lv_at hl 1 rfl) ?_
  refine lv_icmp_eq (tgt := 899) hx hb dL_law_894 (by decide) (fun cb1 => ?_) (fun cb1 => ?_)
  · have cb1 : 0 = 0 := zn_eq_t (a := 0) (b := 0) (by omega) (by omega) cb1
    refine lv_iload hx hb dL_law_899 (lv_at hl 1 rfl) ?_
    refine lv_if_ne (tgt := 916) hx hb dL_law_901 (by decide) (fun cb2 => ?_) (fun cb2 => ?_)
    · have cb2 : ¬ (0 = 0) := zn_ne_f (a := 0) (b := 0) (by omega) (by omega) cb2
      exact absurd cb2 (by decide)
    · have cb2 : 0 = 0 := zn_ne_t (a := 0) (b := 0) (by omega) (by omega) cb2
      refine lv_aload_n hx hb dL_law_904 rfl (lv_at hl 5 rfl) ?_
      refine lv_iconst (v := nI 0) hx hb dL_law_905 (by decide) ?_
      obtain ⟨rs9, hov9⟩ := hov u
      refine z_lald (q0 := 0) (ov := ov u) hx hb hK hP (by rw [hov9]; rfl) dL_law_906 ?_
      refine lv_iload hx hb dL_law_907 (lv_at hl 0 rfl) ?_
      refine lv_i2l (v := (r).toInt64) hx hb dL_law_909 rfl ?_
      have hv9 := hval u r v hp hq
      rw [hv9]
      refine z_lcmp0 hx hb dL_law_910 ?_
      refine lv_if_eq (tgt := 916) hx hb dL_law_911 (by decide) (fun cb3 => ?_) (fun cb3 => ?_)
      · have cb3 : 0 = 0 := zn_eq_t (a := 0) (b := 0) (by omega) (by omega) cb3
        refine lv_goto (tgt := 1218) hx hb dL_law_916 (by decide) ?_
        refine W.widen (k := cells + 1) (n := slots + 6) (by omega) (by omega) ?_
        exact kk u r v _ _ _ hp hq (z_swapP hP) (z_swapD hD) hS (lv_sub hl [2, 3, 4, 5, 6] rfl)
      · have cb3 : ¬ (0 = 0) := zn_eq_f (a := 0) (b := 0) (by omega) (by omega) cb3
        exact absurd cb3 (by decide)
  · have cb1 : ¬ (0 = 0) := zn_eq_f (a := 0) (b := 0) (by omega) (by omega) cb1
    exact absurd cb1 (by decide)
set_option maxHeartbeats 4000000 in
set_option maxRecDepth 100000 in
theorem z_case_value_bad {p : Program} {l : Launch} {e : Env} {s : State} {m : MethodId} {args : Array Value} {below : List Frame} {meth : Method} {c : Code} {H : Heap} {locs : List Loc} {ls : Array Slot} {cells slots : Nat} {Q : State → Prop} {D : va_G} {cy : zCy} {Ts : List Cond} {SX SM : Type} {o M out bs L i : Nat} {xs : Nat → Int32} {wx wm : va_W} {px : SX → Prop} {pm : Int32 → SM → Prop} {wx' : SX → va_W} {wm' : SM → va_W}
    (hx : p.tables.exec = Jvm.exec) (hb : c.code = cL_law) (hml : c.maxLocals = 7) (hown : s.vm.findClass RL = some m.cls) (hts : ∀ w ∈ Ts, w.before args s = true) (hK : zK D cy s) (hX0 : va_X bs L xs s s.heap) (hbl : bs < s.heap.size) (hL : L ≤ 2560) (hi : i + 5 ≤ L) (hrc : cells + 1 ≤ 1078) (hrs : slots + 6 ≤ 10152)
    (hP : va_P D vwCl (wm ++ wx) H) (hD : va_D (zNew s) (wm ++ wx)) (hS : va_S (zNew s) s.heap H locs) (hl : lv_has ls 7 [(0, .ref bs), (1, .ref o), (2, .ref M), (3, .ref out), (4, .int (nI i))])
    {k9 : Nat} (hk1 : 0 < k9) (hk2 : k9 < 4) (hTs : zTs s) (hTh : zTh (zNew s) s s.heap) (hX : zB SX l yL_value wsL_value rmL_value D cy wx [.ref o, .int (xs (i + 1)), .int (xs (i + 2)), .ref out] (fun r u => r = nI k9 ∧ px u) wx') (hadx : ∀ u, (wx' u).map Prod.fst = wx.map Prod.fst) (cwx : vx_CSW room_1 s args RL 124 yL_value cL_value 5 (some .int) [(0, 10, 13, 13), (0, 10, 17, 21), (0, 10, 21, 15)] wsL_value rmL_value 1 6 4)
    (hM : zW SM l yX5_value wsX5_value rmX5_value D cy wm [.ref M, .int (xs (i + 1)), .int (xs (i + 2))] pm wm') (hadm : ∀ u, (wm' u).map Prod.fst = wm.map Prod.fst) (cwm : CallW room_1 s args RL RX5 126 yX5_value cX5_value 3 (some .int) wsX5_value rmX5_value 0 0 2)
    {mfs : List Value} (hMr : wm[0]? = some (M, .inr (5, mfs))) (hMr2 : ∀ v, ∃ fs, (wm' v)[0]? = some (M, .inr (5, fs))) (hT : ∀ v w, zR l yX5_thrown wsX5_thrown rmX5_thrown D cy (w ++ wm' v) [.ref M] (nI k9)) (cwt : CallW room_1 s args RL RX5 84 yX5_thrown cX5_thrown 1 (some .int) wsX5_thrown rmX5_thrown 0 0 0)
    (kk : ∀ (u : SX) (r : Int32) (v : SM) (H : Heap) (locs : List Loc) (ls : Array Slot), px u → pm r v → va_P D vwCl (wm' v ++ wx' u) H → va_D (zNew s) (wm' v ++ wx' u) → va_S (zNew s) s.heap H locs → lv_has ls 7 [(0, .ref bs), (1, .ref o), (2, .ref M), (3, .ref out), (4, .int (nI i))] → W p l e room_1 s m args below meth c H locs (cells + 1) (slots + 6) Q (F0 m 1218 ls [])) : W p l e room_1 s m args below meth c H locs cells slots Q (F0 m 851 ls []) := by
  have hbA : ¬ zNew s bs := Nat.not_le.mpr hbl
  refine lv_aload_n hx hb dL_law_851 rfl (lv_at hl 1 rfl) ?_
  refine lv_aload_n hx hb dL_law_852 rfl (lv_at hl 0 rfl) ?_
  refine lv_iload hx hb dL_law_853 (lv_at hl 4 rfl) ?_
  refine lv_iconst (v := nI 1) hx hb dL_law_855 (by decide) ?_
  refine lv_iadd hx hb dL_law_856 ?_
  refine z_top (y := nI (i + 1)) (nI_add _ _) ?_
  refine z_sld hx hb hX0 hbl hbA hS (k := i + 1) (by omega) hL dL_law_857 ?_
  refine lv_aload_n hx hb dL_law_858 rfl (lv_at hl 0 rfl) ?_
  refine lv_iload hx hb dL_law_859 (lv_at hl 4 rfl) ?_
  refine lv_iconst (v := nI 2) hx hb dL_law_861 (by decide) ?_
  refine lv_iadd hx hb dL_law_862 ?_
  refine z_top (y := nI (i + 2)) (nI_add _ _) ?_
  refine z_sld hx hb hX0 hbl hbA hS (k := i + 2) (by omega) hL dL_law_863 ?_
  refine lv_aload_n hx hb dL_law_864 rfl (lv_at hl 3 rfl) ?_
  refine z_lawB (As := [.ref o, .int (xs (i + 1)), .int (xs (i + 2)), .ref out]) (rest := []) ⟨hx, hb, hml, hown, hts⟩ hK hP hD hS hTs hTh hX cwx hadx rfl hl.1 rfl rfl dL_law_865 ⟨by show _ ≤ 1078; omega, by show _ ≤ 10152; omega⟩ (fun rr u H locs hp hP hD hS => ?_)
  obtain ⟨rfl, hp⟩ := hp
  refine lv_istore (lv' := [(5, .int (nI k9)), (0, .ref bs), (1, .ref o), (2, .ref M), (3, .ref out), (4, .int (nI i))]) hx hb dL_law_868 hl (by decide) rfl (fun ls hl => ?_)
  refine lv_aload_n hx hb dL_law_870 rfl (lv_at hl 3 rfl) ?_
  refine lv_aload_n hx hb dL_law_871 rfl (lv_at hl 1 rfl) ?_
  refine lv_iload hx hb dL_law_872 (lv_at hl 5 rfl) ?_
  refine lv_iconst (v := nI 1) hx hb dL_law_874 (by decide) ?_
  refine lv_iadd hx hb dL_law_875 ?_
  refine z_top (y := nI (i + 1)) (nI_add _ _) ?_
  refine z_sld hx hb hX0 hbl hbA hS (k := i + 1) (by omega) hL dL_law_876 ?_
  refine lv_aload_n hx hb dL_law_877 rfl (lv_at hl 1 rfl) ?_
  refine lv_iload hx hb dL_law_878 (lv_at hl 5 rfl) ?_
  refine lv_iconst (v := nI 2) hx hb dL_law_880 (by decide) ?_
  refine lv_iadd hx hb dL_law_881 ?_
  refine z_top (y := nI (i + 2)) (nI_add _ _) ?_
  refine z_sld hx hb hX0 hbl hbA hS (k := i + 2) (by omega) hL dL_law_882 ?_
  refine z_callVW (b := M) (As := [.int (xs (i + 1)), .int (xs (i + 2))]) (rest := []) (wx' u) ⟨hx, hb, hml, hown, hts⟩ hK hP hD hS hM cwm (List.range' 0 wm.length) (List.range' wm.length (wx' u).length) (z_rgB _ _) (z_rgA _ _) (z_rgD2 _ _) hadm 0 5 (z_at0 hMr) rfl rfl rfl hl.1 rfl rfl dL_law_883 ⟨by show _ ≤ 1078; omega, by show _ ≤ 10152; omega⟩ (fun r v H locs hq hP hD hS => ?_)
  refine lv_istore (lv' := [(6, .int r), (5, .int (nI k9)), (0, .ref bs), (1, .ref o), (2, .ref M), (3, .ref out), (4, .int (nI i))]) hx hb dL_law_886 hl (by decide) rfl (fun ls hl => ?_)
  refine lv_aload_n hx hb dL_law_888 rfl (lv_at hl 4 rfl) ?_
  obtain ⟨fs2, hMr3⟩ := hMr2 v
  refine z_callV (b := M) (As := []) (rest := []) ⟨hx, hb, hml, hown, hts⟩ hK hP hS (hT v (wx' u)) cwt (wx' u).length 5 (z_atL hMr3) rfl rfl rfl hl.1 rfl rfl dL_law_889 ⟨by show _ ≤ 1078; omega, by show _ ≤ 10152; omega⟩ (fun H locs hP hS => ?_)
  refine lv_iload hx hb dL_law_892 (lv_at hl 1 rfl) ?_
  refine lv_icmp_eq (tgt := 899) hx hb dL_law_894 (by decide) (fun cb1 => ?_) (fun cb1 => ?_)
  · have cb1 : k9 = k9 := zn_eq_t (a := k9) (b := k9) (by omega) (by omega) cb1
    refine lv_iload hx hb dL_law_899 (lv_at hl 1 rfl) ?_
    refine lv_if_ne (tgt := 916) hx hb dL_law_901 (by decide) (fun cb2 => ?_) (fun cb2 => ?_)
    · have cb2 : ¬ (k9 = 0) := zn_ne_f (a := k9) (b := 0) (by omega) (by omega) cb2
      refine lv_goto (tgt := 1218) hx hb dL_law_916 (by decide) ?_
      exact kk u r v _ _ _ hp hq (z_swapP hP) (z_swapD hD) hS (lv_sub hl [2, 3, 4, 5, 6] rfl)
    · have cb2 : k9 = 0 := zn_ne_t (a := k9) (b := 0) (by omega) (by omega) cb2
      exact absurd cb2 (by omega)
  · have cb1 : ¬ (k9 = k9) := zn_eq_f (a := k9) (b := k9) (by omega) (by omega) cb1
    exact absurd rfl cb1
set_option maxHeartbeats 4000000 in
set_option maxRecDepth 100000 in
theorem z_case_isMissing_ok {p : Program} {l : Launch} {e : Env} {s : State} {m : MethodId} {args : Array Value} {below : List Frame} {meth : Method} {c : Code} {H : Heap} {locs : List Loc} {ls : Array Slot} {cells slots : Nat} {Q : State → Prop} {D : va_G} {cy : zCy} {Ts : List Cond} {SX SM : Type} {o M out bs L i : Nat} {xs : Nat → Int32} {wx wm : va_W} {px : SX → Prop} {pm : Int32 → SM → Prop} {wx' : SX → va_W} {wm' : SM → va_W}
    (hx : p.tables.exec = Jvm.exec) (hb : c.code = cL_law) (hml : c.maxLocals = 7) (hown : s.vm.findClass RL = some m.cls) (hts : ∀ w ∈ Ts, w.before args s = true) (hK : zK D cy s) (hX0 : va_X bs L xs s s.heap) (hbl : bs < s.heap.size) (hL : L ≤ 2560) (hi : i + 5 ≤ L) (hrc : cells + 1 ≤ 1078) (hrs : slots + 6 ≤ 10152)
    (hP : va_P D vwCl (wm ++ wx) H) (hD : va_D (zNew s) (wm ++ wx)) (hS : va_S (zNew s) s.heap H locs) (hl : lv_has ls 7 [(0, .ref bs), (1, .ref o), (2, .ref M), (3, .ref out), (4, .int (nI i))])
    (hX : zW SX l yL_isMissing wsL_isMissing rmL_isMissing_k D cy wx [.ref o, .int (xs (i + 1)), .ref out] (fun r u => r = nI 0 ∧ px u) wx') (hadx : ∀ u, (wx' u).map Prod.fst = wx.map Prod.fst) (cwx : vx_CSW room_1 s args RL 127 yL_isMissing cL_isMissing 4 (some .int) [(0, 16, 19, 13), (0, 16, 22, 15)] wsL_isMissing rmL_isMissing_k 0 0 3)
    (hM : zW SM l yX5_isMissing wsX5_isMissing rmX5_isMissing D cy wm [.ref M, .int (xs (i + 1))] pm wm') (hadm : ∀ u, (wm' u).map Prod.fst = wm.map Prod.fst) (cwm : CallW room_1 s args RL RX5 129 yX5_isMissing cX5_isMissing 2 (some .boolean) wsX5_isMissing rmX5_isMissing 0 0 1)
    {mfs : List Value} (hMr : wm[0]? = some (M, .inr (5, mfs))) (hMr2 : ∀ v, ∃ fs, (wm' v)[0]? = some (M, .inr (5, fs))) (hT : ∀ v w, zR l yX5_thrown wsX5_thrown rmX5_thrown D cy (w ++ wm' v) [.ref M] (nI 0)) (cwt : CallW room_1 s args RL RX5 84 yX5_thrown cX5_thrown 1 (some .int) wsX5_thrown rmX5_thrown 0 0 0) {ov : SX → Int64} (hov : ∀ u, ∃ rs, wx' u = (out, .inl (cy.2.2, 1, .inr (.inl (fun _ => ov u)))) :: rs) (hval : ∀ u r v, px u → pm r v → ov u = (if r = 0 then 0 else 1))
    (kk : ∀ (u : SX) (r : Int32) (v : SM) (H : Heap) (locs : List Loc) (ls : Array Slot), px u → pm r v → va_P D vwCl (wm' v ++ wx' u) H → va_D (zNew s) (wm' v ++ wx' u) → va_S (zNew s) s.heap H locs → lv_has ls 7 [(0, .ref bs), (1, .ref o), (2, .ref M), (3, .ref out), (4, .int (nI i))] → W p l e room_1 s m args below meth c H locs (cells + 1) (slots + 6) Q (F0 m 1218 ls [])) : W p l e room_1 s m args below meth c H locs cells slots Q (F0 m 919 ls []) := by
  have hbA : ¬ zNew s bs := Nat.not_le.mpr hbl
  refine lv_aload_n hx hb dL_law_919 rfl (lv_at hl 1 rfl) ?_
  refine lv_aload_n hx hb dL_law_920 rfl (lv_at hl 0 rfl) ?_
  refine lv_iload hx hb dL_law_921 (lv_at hl 4 rfl) ?_
  refine lv_iconst (v := nI 1) hx hb dL_law_923 (by decide) ?_
  refine lv_iadd hx hb dL_law_924 ?_
  refine z_top (y := nI (i + 1)) (nI_add _ _) ?_
  refine z_sld hx hb hX0 hbl hbA hS (k := i + 1) (by omega) hL dL_law_925 ?_
  refine lv_aload_n hx hb dL_law_926 rfl (lv_at hl 3 rfl) ?_
  refine z_lawW (As := [.ref o, .int (xs (i + 1)), .ref out]) (rest := []) ⟨hx, hb, hml, hown, hts⟩ hK hP hD hS hX cwx hadx rfl hl.1 rfl rfl dL_law_927 ⟨by show _ ≤ 1078; omega, by show _ ≤ 10152; omega⟩ (fun rr u H locs hp hP hD hS => ?_)
  obtain ⟨rfl, hp⟩ := hp
  refine lv_istore (lv' := [(5, .int (nI 0)), (0, .ref bs), (1, .ref o), (2, .ref M), (3, .ref out), (4, .int (nI i))]) hx hb dL_law_930 hl (by decide) rfl (fun ls hl => ?_)
  refine lv_aload_n hx hb dL_law_932 rfl (lv_at hl 3 rfl) ?_
  refine lv_aload_n hx hb dL_law_933 rfl (lv_at hl 1 rfl) ?_
  refine lv_iload hx hb dL_law_934 (lv_at hl 5 rfl) ?_
  refine lv_iconst (v := nI 1) hx hb dL_law_936 (by decide) ?_
  refine lv_iadd hx hb dL_law_937 ?_
  refine z_top (y := nI (i + 1)) (nI_add _ _) ?_
  refine z_sld hx hb hX0 hbl hbA hS (k := i + 1) (by omega) hL dL_law_938 ?_
  refine z_callVW (b := M) (As := [.int (xs (i + 1))]) (rest := []) (wx' u) ⟨hx, hb, hml, hown, hts⟩ hK hP hD hS hM cwm (List.range' 0 wm.length) (List.range' wm.length (wx' u).length) (z_rgB _ _) (z_rgA _ _) (z_rgD2 _ _) hadm 0 5 (z_at0 hMr) rfl rfl rfl hl.1 rfl rfl dL_law_939 ⟨by show _ ≤ 1078; omega, by show _ ≤ 10152; omega⟩ (fun r v H locs hq hP hD hS => ?_)
  refine lv_istore (lv' := [(6, .int r), (5, .int (nI 0)), (0, .ref bs), (1, .ref o), (2, .ref M), (3, .ref out), (4, .int (nI i))]) hx hb dL_law_942 hl (by decide) rfl (fun ls hl => ?_)
  refine lv_aload_n hx hb dL_law_944 rfl (lv_at hl 4 rfl) ?_
  obtain ⟨fs2, hMr3⟩ := hMr2 v
  refine z_callV (b := M) (As := []) (rest := []) ⟨hx, hb, hml, hown, hts⟩ hK hP hS (hT v (wx' u)) cwt (wx' u).length 5 (z_atL hMr3) rfl rfl rfl hl.1 rfl rfl dL_law_945 ⟨by show _ ≤ 1078; omega, by show _ ≤ 10152; omega⟩ (fun H locs hP hS => ?_)
  refine lv_iload hx hb dL_law_948 (lv_at hl 1 rfl) ?_
  refine lv_icmp_eq (tgt := 955) hx hb dL_law_950 (by decide) (fun cb1 => ?_) (fun cb1 => ?_)
  · have cb1 : 0 = 0 := zn_eq_t (a := 0) (b := 0) (by omega) (by omega) cb1
    refine lv_iload hx hb dL_law_955 (lv_at hl 1 rfl) ?_
    refine lv_if_ne (tgt := 979) hx hb dL_law_957 (by decide) (fun cb2 => ?_) (fun cb2 => ?_)
    · have cb2 : ¬ (0 = 0) := zn_ne_f (a := 0) (b := 0) (by omega) (by omega) cb2
      exact absurd cb2 (by decide)
    · have cb2 : 0 = 0 := zn_ne_t (a := 0) (b := 0) (by omega) (by omega) cb2
      refine lv_aload_n hx hb dL_law_960 rfl (lv_at hl 5 rfl) ?_
      refine lv_iconst (v := nI 0) hx hb dL_law_961 (by decide) ?_
      obtain ⟨rs9, hov9⟩ := hov u
      refine z_lald (q0 := 0) (ov := ov u) hx hb hK hP (by rw [hov9]; rfl) dL_law_962 ?_
      refine lv_iload hx hb dL_law_963 (lv_at hl 0 rfl) ?_
      refine lv_if_eq (tgt := 972) hx hb dL_law_965 (by decide) (fun cb3 => ?_) (fun cb3 => ?_)
      · skip
        refine lv_lconst (v := 0) hx hb dL_law_972 (by decide) ?_
        have hv9 := (hval u r v hp hq).trans (if_pos cb3)
        rw [hv9]
        refine z_lcmp0 hx hb dL_law_973 ?_
        refine lv_if_eq (tgt := 979) hx hb dL_law_974 (by decide) (fun cb4 => ?_) (fun cb4 => ?_)
        · have cb4 : 0 = 0 := zn_eq_t (a := 0) (b := 0) (by omega) (by omega) cb4
          refine lv_goto (tgt := 1218) hx hb dL_law_979 (by decide) ?_
          refine W.widen (k := cells + 1) (n := slots + 6) (by omega) (by omega) ?_
          exact kk u r v _ _ _ hp hq (z_swapP hP) (z_swapD hD) hS (lv_sub hl [2, 3, 4, 5, 6] rfl)
        · have cb4 : ¬ (0 = 0) := zn_eq_f (a := 0) (b := 0) (by omega) (by omega) cb4
          exact absurd cb4 (by decide)
      · skip
        refine lv_lconst (v := 1) hx hb dL_law_968 (by decide) ?_
        refine lv_goto (tgt := 973) hx hb dL_law_969 (by decide) ?_
        have hv9 := (hval u r v hp hq).trans (if_neg cb3)
        rw [hv9]
        refine z_lcmp0 hx hb dL_law_973 ?_
        refine lv_if_eq (tgt := 979) hx hb dL_law_974 (by decide) (fun cb5 => ?_) (fun cb5 => ?_)
        · have cb5 : 0 = 0 := zn_eq_t (a := 0) (b := 0) (by omega) (by omega) cb5
          refine lv_goto (tgt := 1218) hx hb dL_law_979 (by decide) ?_
          refine W.widen (k := cells + 1) (n := slots + 6) (by omega) (by omega) ?_
          exact kk u r v _ _ _ hp hq (z_swapP hP) (z_swapD hD) hS (lv_sub hl [2, 3, 4, 5, 6] rfl)
        · have cb5 : ¬ (0 = 0) := zn_eq_f (a := 0) (b := 0) (by omega) (by omega) cb5
          exact absurd cb5 (by decide)
  · have cb1 : ¬ (0 = 0) := zn_eq_f (a := 0) (b := 0) (by omega) (by omega) cb1
    exact absurd cb1 (by decide)
set_option maxHeartbeats 4000000 in
set_option maxRecDepth 100000 in
theorem z_case_isMissing_bad {p : Program} {l : Launch} {e : Env} {s : State} {m : MethodId} {args : Array Value} {below : List Frame} {meth : Method} {c : Code} {H : Heap} {locs : List Loc} {ls : Array Slot} {cells slots : Nat} {Q : State → Prop} {D : va_G} {cy : zCy} {Ts : List Cond} {SX SM : Type} {o M out bs L i : Nat} {xs : Nat → Int32} {wx wm : va_W} {px : SX → Prop} {pm : Int32 → SM → Prop} {wx' : SX → va_W} {wm' : SM → va_W}
    (hx : p.tables.exec = Jvm.exec) (hb : c.code = cL_law) (hml : c.maxLocals = 7) (hown : s.vm.findClass RL = some m.cls) (hts : ∀ w ∈ Ts, w.before args s = true) (hK : zK D cy s) (hX0 : va_X bs L xs s s.heap) (hbl : bs < s.heap.size) (hL : L ≤ 2560) (hi : i + 5 ≤ L) (hrc : cells + 1 ≤ 1078) (hrs : slots + 6 ≤ 10152)
    (hP : va_P D vwCl (wm ++ wx) H) (hD : va_D (zNew s) (wm ++ wx)) (hS : va_S (zNew s) s.heap H locs) (hl : lv_has ls 7 [(0, .ref bs), (1, .ref o), (2, .ref M), (3, .ref out), (4, .int (nI i))])
    {k9 : Nat} (hk1 : 0 < k9) (hk2 : k9 < 4) (hTs : zTs s) (hTh : zTh (zNew s) s s.heap) (hX : zB SX l yL_isMissing wsL_isMissing rmL_isMissing D cy wx [.ref o, .int (xs (i + 1)), .ref out] (fun r u => r = nI k9 ∧ px u) wx') (hadx : ∀ u, (wx' u).map Prod.fst = wx.map Prod.fst) (cwx : vx_CSW room_1 s args RL 127 yL_isMissing cL_isMissing 4 (some .int) [(0, 16, 19, 13), (0, 16, 22, 15)] wsL_isMissing rmL_isMissing 1 6 3)
    (hM : zW SM l yX5_isMissing wsX5_isMissing rmX5_isMissing D cy wm [.ref M, .int (xs (i + 1))] pm wm') (hadm : ∀ u, (wm' u).map Prod.fst = wm.map Prod.fst) (cwm : CallW room_1 s args RL RX5 129 yX5_isMissing cX5_isMissing 2 (some .boolean) wsX5_isMissing rmX5_isMissing 0 0 1)
    {mfs : List Value} (hMr : wm[0]? = some (M, .inr (5, mfs))) (hMr2 : ∀ v, ∃ fs, (wm' v)[0]? = some (M, .inr (5, fs))) (hT : ∀ v w, zR l yX5_thrown wsX5_thrown rmX5_thrown D cy (w ++ wm' v) [.ref M] (nI k9)) (cwt : CallW room_1 s args RL RX5 84 yX5_thrown cX5_thrown 1 (some .int) wsX5_thrown rmX5_thrown 0 0 0)
    (kk : ∀ (u : SX) (r : Int32) (v : SM) (H : Heap) (locs : List Loc) (ls : Array Slot), px u → pm r v → va_P D vwCl (wm' v ++ wx' u) H → va_D (zNew s) (wm' v ++ wx' u) → va_S (zNew s) s.heap H locs → lv_has ls 7 [(0, .ref bs), (1, .ref o), (2, .ref M), (3, .ref out), (4, .int (nI i))] → W p l e room_1 s m args below meth c H locs (cells + 1) (slots + 6) Q (F0 m 1218 ls [])) : W p l e room_1 s m args below meth c H locs cells slots Q (F0 m 919 ls []) := by
  have hbA : ¬ zNew s bs := Nat.not_le.mpr hbl
  refine lv_aload_n hx hb dL_law_919 rfl (lv_at hl 1 rfl) ?_
  refine lv_aload_n hx hb dL_law_920 rfl (lv_at hl 0 rfl) ?_
  refine lv_iload hx hb dL_law_921 (lv_at hl 4 rfl) ?_
  refine lv_iconst (v := nI 1) hx hb dL_law_923 (by decide) ?_
  refine lv_iadd hx hb dL_law_924 ?_
  refine z_top (y := nI (i + 1)) (nI_add _ _) ?_
  refine z_sld hx hb hX0 hbl hbA hS (k := i + 1) (by omega) hL dL_law_925 ?_
  refine lv_aload_n hx hb dL_law_926 rfl (lv_at hl 3 rfl) ?_
  refine z_lawB (As := [.ref o, .int (xs (i + 1)), .ref out]) (rest := []) ⟨hx, hb, hml, hown, hts⟩ hK hP hD hS hTs hTh hX cwx hadx rfl hl.1 rfl rfl dL_law_927 ⟨by show _ ≤ 1078; omega, by show _ ≤ 10152; omega⟩ (fun rr u H locs hp hP hD hS => ?_)
  obtain ⟨rfl, hp⟩ := hp
  refine lv_istore (lv' := [(5, .int (nI k9)), (0, .ref bs), (1, .ref o), (2, .ref M), (3, .ref out), (4, .int (nI i))]) hx hb dL_law_930 hl (by decide) rfl (fun ls hl => ?_)
  refine lv_aload_n hx hb dL_law_932 rfl (lv_at hl 3 rfl) ?_
  refine lv_aload_n hx hb dL_law_933 rfl (lv_at hl 1 rfl) ?_
  refine lv_iload hx hb dL_law_934 (lv_at hl 5 rfl) ?_
  refine lv_iconst (v := nI 1) hx hb dL_law_936 (by decide) ?_
  refine lv_iadd hx hb dL_law_937 ?_
  refine z_top (y := nI (i + 1)) (nI_add _ _) ?_
  refine z_sld hx hb hX0 hbl hbA hS (k := i + 1) (by omega) hL dL_law_938 ?_
  refine z_callVW (b := M) (As := [.int (xs (i + 1))]) (rest := []) (wx' u) ⟨hx, hb, hml, hown, hts⟩ hK hP hD hS hM cwm (List.range' 0 wm.length) (List.range' wm.length (wx' u).length) (z_rgB _ _) (z_rgA _ _) (z_rgD2 _ _) hadm 0 5 (z_at0 hMr) rfl rfl rfl hl.1 rfl rfl dL_law_939 ⟨by show _ ≤ 1078; omega, by show _ ≤ 10152; omega⟩ (fun r v H locs hq hP hD hS => ?_)
  refine lv_istore (lv' := [(6, .int r), (5, .int (nI k9)), (0, .ref bs), (1, .ref o), (2, .ref M), (3, .ref out), (4, .int (nI i))]) hx hb dL_law_942 hl (by decide) rfl (fun ls hl => ?_)
  refine lv_aload_n hx hb dL_law_944 rfl (lv_at hl 4 rfl) ?_
  obtain ⟨fs2, hMr3⟩ := hMr2 v
  refine z_callV (b := M) (As := []) (rest := []) ⟨hx, hb, hml, hown, hts⟩ hK hP hS (hT v (wx' u)) cwt (wx' u).length 5 (z_atL hMr3) rfl rfl rfl hl.1 rfl rfl dL_law_945 ⟨by show _ ≤ 1078; omega, by show _ ≤ 10152; omega⟩ (fun H locs hP hS => ?_)
  refine lv_iload hx hb dL_law_948 (lv_at hl 1 rfl) ?_
  refine lv_icmp_eq (tgt := 955) hx hb dL_law_950 (by decide) (fun cb1 => ?_) (fun cb1 => ?_)
  · have cb1 : k9 = k9 := zn_eq_t (a := k9) (b := k9) (by omega) (by omega) cb1
    refine lv_iload hx hb dL_law_955 (lv_at hl 1 rfl) ?_
    refine lv_if_ne (tgt := 979) hx hb dL_law_957 (by decide) (fun cb2 => ?_) (fun cb2 => ?_)
    · have cb2 : ¬ (k9 = 0) := zn_ne_f (a := k9) (b := 0) (by omega) (by omega) cb2
      refine lv_goto (tgt := 1218) hx hb dL_law_979 (by decide) ?_
      exact kk u r v _ _ _ hp hq (z_swapP hP) (z_swapD hD) hS (lv_sub hl [2, 3, 4, 5, 6] rfl)
    · have cb2 : k9 = 0 := zn_ne_t (a := k9) (b := 0) (by omega) (by omega) cb2
      exact absurd cb2 (by omega)
  · have cb1 : ¬ (k9 = k9) := zn_eq_f (a := k9) (b := k9) (by omega) (by omega) cb1
    exact absurd rfl cb1
set_option maxHeartbeats 4000000 in
set_option maxRecDepth 100000 in
theorem z_case_faults_ok {p : Program} {l : Launch} {e : Env} {s : State} {m : MethodId} {args : Array Value} {below : List Frame} {meth : Method} {c : Code} {H : Heap} {locs : List Loc} {ls : Array Slot} {cells slots : Nat} {Q : State → Prop} {D : va_G} {cy : zCy} {Ts : List Cond} {SX SM : Type} {o M out bs L i : Nat} {xs : Nat → Int32} {wx wm : va_W} {px : SX → Prop} {pm : Int32 → SM → Prop} {wx' : SX → va_W} {wm' : SM → va_W}
    (hx : p.tables.exec = Jvm.exec) (hb : c.code = cL_law) (hml : c.maxLocals = 7) (hown : s.vm.findClass RL = some m.cls) (hts : ∀ w ∈ Ts, w.before args s = true) (hK : zK D cy s) (hX0 : va_X bs L xs s s.heap) (hbl : bs < s.heap.size) (hL : L ≤ 2560) (hi : i + 5 ≤ L) (hrc : cells + 1 ≤ 1078) (hrs : slots + 6 ≤ 10152)
    (hP : va_P D vwCl (wm ++ wx) H) (hD : va_D (zNew s) (wm ++ wx)) (hS : va_S (zNew s) s.heap H locs) (hl : lv_has ls 7 [(0, .ref bs), (1, .ref o), (2, .ref M), (3, .ref out), (4, .int (nI i))])
    (hX : zW SX l yL_faults wsL_faults rmL_faults_k D cy wx [.ref o, .int (xs (i + 1)), .ref out] (fun r u => r = nI 0 ∧ px u) wx') (hadx : ∀ u, (wx' u).map Prod.fst = wx.map Prod.fst) (cwx : vx_CSW room_1 s args RL 130 yL_faults cL_faults 4 (some .int) [(0, 9, 12, 13), (0, 9, 15, 15)] wsL_faults rmL_faults_k 0 0 3)
    (hM : zW SM l yX5_faults wsX5_faults rmX5_faults D cy wm [.ref M, .int (xs (i + 1))] pm wm') (hadm : ∀ u, (wm' u).map Prod.fst = wm.map Prod.fst) (cwm : CallW room_1 s args RL RX5 132 yX5_faults cX5_faults 4 (some .int) wsX5_faults rmX5_faults 0 0 1)
    {mfs : List Value} (hMr : wm[0]? = some (M, .inr (5, mfs))) (hMr2 : ∀ v, ∃ fs, (wm' v)[0]? = some (M, .inr (5, fs))) (hT : ∀ v w, zR l yX5_thrown wsX5_thrown rmX5_thrown D cy (w ++ wm' v) [.ref M] (nI 0)) (cwt : CallW room_1 s args RL RX5 84 yX5_thrown cX5_thrown 1 (some .int) wsX5_thrown rmX5_thrown 0 0 0) {ov : SX → Int64} (hov : ∀ u, ∃ rs, wx' u = (out, .inl (cy.2.2, 1, .inr (.inl (fun _ => ov u)))) :: rs) (hval : ∀ u r v, px u → pm r v → ov u = r.toInt64)
    (kk : ∀ (u : SX) (r : Int32) (v : SM) (H : Heap) (locs : List Loc) (ls : Array Slot), px u → pm r v → va_P D vwCl (wm' v ++ wx' u) H → va_D (zNew s) (wm' v ++ wx' u) → va_S (zNew s) s.heap H locs → lv_has ls 7 [(0, .ref bs), (1, .ref o), (2, .ref M), (3, .ref out), (4, .int (nI i))] → W p l e room_1 s m args below meth c H locs (cells + 1) (slots + 6) Q (F0 m 1218 ls [])) : W p l e room_1 s m args below meth c H locs cells slots Q (F0 m 982 ls []) := by
  have hbA : ¬ zNew s bs := Nat.not_le.mpr hbl
  refine lv_aload_n hx hb dL_law_982 rfl (lv_at hl 1 rfl) ?_
  refine lv_aload_n hx hb dL_law_983 rfl (lv_at hl 0 rfl) ?_
  refine lv_iload hx hb dL_law_984 (lv_at hl 4 rfl) ?_
  refine lv_iconst (v := nI 1) hx hb dL_law_986 (by decide) ?_
  refine lv_iadd hx hb dL_law_987 ?_
  refine z_top (y := nI (i + 1)) (nI_add _ _) ?_
  refine z_sld hx hb hX0 hbl hbA hS (k := i + 1) (by omega) hL dL_law_988 ?_
  refine lv_aload_n hx hb dL_law_989 rfl (lv_at hl 3 rfl) ?_
  refine z_lawW (As := [.ref o, .int (xs (i + 1)), .ref out]) (rest := []) ⟨hx, hb, hml, hown, hts⟩ hK hP hD hS hX cwx hadx rfl hl.1 rfl rfl dL_law_990 ⟨by show _ ≤ 1078; omega, by show _ ≤ 10152; omega⟩ (fun rr u H locs hp hP hD hS => ?_)
  obtain ⟨rfl, hp⟩ := hp
  refine lv_istore (lv' := [(5, .int (nI 0)), (0, .ref bs), (1, .ref o), (2, .ref M), (3, .ref out), (4, .int (nI i))]) hx hb dL_law_993 hl (by decide) rfl (fun ls hl => ?_)
  refine lv_aload_n hx hb dL_law_995 rfl (lv_at hl 3 rfl) ?_
  refine lv_aload_n hx hb dL_law_996 rfl (lv_at hl 1 rfl) ?_
  refine lv_iload hx hb dL_law_997 (lv_at hl 5 rfl) ?_
  refine lv_iconst (v := nI 1) hx hb dL_law_999 (by decide) ?_
  refine lv_iadd hx hb dL_law_1000 ?_
  refine z_top (y := nI (i + 1)) (nI_add _ _) ?_
  refine z_sld hx hb hX0 hbl hbA hS (k := i + 1) (by omega) hL dL_law_1001 ?_
  refine z_callVW (b := M) (As := [.int (xs (i + 1))]) (rest := []) (wx' u) ⟨hx, hb, hml, hown, hts⟩ hK hP hD hS hM cwm (List.range' 0 wm.length) (List.range' wm.length (wx' u).length) (z_rgB _ _) (z_rgA _ _) (z_rgD2 _ _) hadm 0 5 (z_at0 hMr) rfl rfl rfl hl.1 rfl rfl dL_law_1002 ⟨by show _ ≤ 1078; omega, by show _ ≤ 10152; omega⟩ (fun r v H locs hq hP hD hS => ?_)
  refine lv_istore (lv' := [(6, .int r), (5, .int (nI 0)), (0, .ref bs), (1, .ref o), (2, .ref M), (3, .ref out), (4, .int (nI i))]) hx hb dL_law_1005 hl (by decide) rfl (fun ls hl => ?_)
  refine lv_aload_n hx hb dL_law_1007 rfl (lv_at hl 4 rfl) ?_
  obtain ⟨fs2, hMr3⟩ := hMr2 v
  refine z_callV (b := M) (As := []) (rest := []) ⟨hx, hb, hml, hown, hts⟩ hK hP hS (hT v (wx' u)) cwt (wx' u).length 5 (z_atL hMr3) rfl rfl rfl hl.1 rfl rfl dL_law_1008 ⟨by show _ ≤ 1078; omega, by show _ ≤ 10152; omega⟩ (fun H locs hP hS => ?_)
  refine lv_iload hx hb dL_law_1011 (lv_at hl 1 rfl) ?_
  refine lv_icmp_eq (tgt := 1018) hx hb dL_law_1013 (by decide) (fun cb1 => ?_) (fun cb1 => ?_)
  · have cb1 : 0 = 0 := zn_eq_t (a := 0) (b := 0) (by omega) (by omega) cb1
    refine lv_iload hx hb dL_law_1018 (lv_at hl 1 rfl) ?_
    refine lv_if_ne (tgt := 1035) hx hb dL_law_1020 (by decide) (fun cb2 => ?_) (fun cb2 => ?_)
    · have cb2 : ¬ (0 = 0) := zn_ne_f (a := 0) (b := 0) (by omega) (by omega) cb2
      exact absurd cb2 (by decide)
    · have cb2 : 0 = 0 := zn_ne_t (a := 0) (b := 0) (by omega) (by omega) cb2
      refine lv_aload_n hx hb dL_law_1023 rfl (lv_at hl 5 rfl) ?_
      refine lv_iconst (v := nI 0) hx hb dL_law_1024 (by decide) ?_
      obtain ⟨rs9, hov9⟩ := hov u
      refine z_lald (q0 := 0) (ov := ov u) hx hb hK hP (by rw [hov9]; rfl) dL_law_1025 ?_
      refine lv_iload hx hb dL_law_1026 (lv_at hl 0 rfl) ?_
      refine lv_i2l (v := (r).toInt64) hx hb dL_law_1028 rfl ?_
      have hv9 := hval u r v hp hq
      rw [hv9]
      refine z_lcmp0 hx hb dL_law_1029 ?_
      refine lv_if_eq (tgt := 1035) hx hb dL_law_1030 (by decide) (fun cb3 => ?_) (fun cb3 => ?_)
      · have cb3 : 0 = 0 := zn_eq_t (a := 0) (b := 0) (by omega) (by omega) cb3
        refine lv_goto (tgt := 1218) hx hb dL_law_1035 (by decide) ?_
        refine W.widen (k := cells + 1) (n := slots + 6) (by omega) (by omega) ?_
        exact kk u r v _ _ _ hp hq (z_swapP hP) (z_swapD hD) hS (lv_sub hl [2, 3, 4, 5, 6] rfl)
      · have cb3 : ¬ (0 = 0) := zn_eq_f (a := 0) (b := 0) (by omega) (by omega) cb3
        exact absurd cb3 (by decide)
  · have cb1 : ¬ (0 = 0) := zn_eq_f (a := 0) (b := 0) (by omega) (by omega) cb1
    exact absurd cb1 (by decide)
set_option maxHeartbeats 4000000 in
set_option maxRecDepth 100000 in
theorem z_case_faults_bad {p : Program} {l : Launch} {e : Env} {s : State} {m : MethodId} {args : Array Value} {below : List Frame} {meth : Method} {c : Code} {H : Heap} {locs : List Loc} {ls : Array Slot} {cells slots : Nat} {Q : State → Prop} {D : va_G} {cy : zCy} {Ts : List Cond} {SX SM : Type} {o M out bs L i : Nat} {xs : Nat → Int32} {wx wm : va_W} {px : SX → Prop} {pm : Int32 → SM → Prop} {wx' : SX → va_W} {wm' : SM → va_W}
    (hx : p.tables.exec = Jvm.exec) (hb : c.code = cL_law) (hml : c.maxLocals = 7) (hown : s.vm.findClass RL = some m.cls) (hts : ∀ w ∈ Ts, w.before args s = true) (hK : zK D cy s) (hX0 : va_X bs L xs s s.heap) (hbl : bs < s.heap.size) (hL : L ≤ 2560) (hi : i + 5 ≤ L) (hrc : cells + 1 ≤ 1078) (hrs : slots + 6 ≤ 10152)
    (hP : va_P D vwCl (wm ++ wx) H) (hD : va_D (zNew s) (wm ++ wx)) (hS : va_S (zNew s) s.heap H locs) (hl : lv_has ls 7 [(0, .ref bs), (1, .ref o), (2, .ref M), (3, .ref out), (4, .int (nI i))])
    {k9 : Nat} (hk1 : 0 < k9) (hk2 : k9 < 4) (hTs : zTs s) (hTh : zTh (zNew s) s s.heap) (hX : zB SX l yL_faults wsL_faults rmL_faults D cy wx [.ref o, .int (xs (i + 1)), .ref out] (fun r u => r = nI k9 ∧ px u) wx') (hadx : ∀ u, (wx' u).map Prod.fst = wx.map Prod.fst) (cwx : vx_CSW room_1 s args RL 130 yL_faults cL_faults 4 (some .int) [(0, 9, 12, 13), (0, 9, 15, 15)] wsL_faults rmL_faults 1 6 3)
    (hM : zW SM l yX5_faults wsX5_faults rmX5_faults D cy wm [.ref M, .int (xs (i + 1))] pm wm') (hadm : ∀ u, (wm' u).map Prod.fst = wm.map Prod.fst) (cwm : CallW room_1 s args RL RX5 132 yX5_faults cX5_faults 4 (some .int) wsX5_faults rmX5_faults 0 0 1)
    {mfs : List Value} (hMr : wm[0]? = some (M, .inr (5, mfs))) (hMr2 : ∀ v, ∃ fs, (wm' v)[0]? = some (M, .inr (5, fs))) (hT : ∀ v w, zR l yX5_thrown wsX5_thrown rmX5_thrown D cy (w ++ wm' v) [.ref M] (nI k9)) (cwt : CallW room_1 s args RL RX5 84 yX5_thrown cX5_thrown 1 (some .int) wsX5_thrown rmX5_thrown 0 0 0)
    (kk : ∀ (u : SX) (r : Int32) (v : SM) (H : Heap) (locs : List Loc) (ls : Array Slot), px u → pm r v → va_P D vwCl (wm' v ++ wx' u) H → va_D (zNew s) (wm' v ++ wx' u) → va_S (zNew s) s.heap H locs → lv_has ls 7 [(0, .ref bs), (1, .ref o), (2, .ref M), (3, .ref out), (4, .int (nI i))] → W p l e room_1 s m args below meth c H locs (cells + 1) (slots + 6) Q (F0 m 1218 ls [])) : W p l e room_1 s m args below meth c H locs cells slots Q (F0 m 982 ls []) := by
  have hbA : ¬ zNew s bs := Nat.not_le.mpr hbl
  refine lv_aload_n hx hb dL_law_982 rfl (lv_at hl 1 rfl) ?_
  refine lv_aload_n hx hb dL_law_983 rfl (lv_at hl 0 rfl) ?_
  refine lv_iload hx hb dL_law_984 (lv_at hl 4 rfl) ?_
  refine lv_iconst (v := nI 1) hx hb dL_law_986 (by decide) ?_
  refine lv_iadd hx hb dL_law_987 ?_
  refine z_top (y := nI (i + 1)) (nI_add _ _) ?_
  refine z_sld hx hb hX0 hbl hbA hS (k := i + 1) (by omega) hL dL_law_988 ?_
  refine lv_aload_n hx hb dL_law_989 rfl (lv_at hl 3 rfl) ?_
  refine z_lawB (As := [.ref o, .int (xs (i + 1)), .ref out]) (rest := []) ⟨hx, hb, hml, hown, hts⟩ hK hP hD hS hTs hTh hX cwx hadx rfl hl.1 rfl rfl dL_law_990 ⟨by show _ ≤ 1078; omega, by show _ ≤ 10152; omega⟩ (fun rr u H locs hp hP hD hS => ?_)
  obtain ⟨rfl, hp⟩ := hp
  refine lv_istore (lv' := [(5, .int (nI k9)), (0, .ref bs), (1, .ref o), (2, .ref M), (3, .ref out), (4, .int (nI i))]) hx hb dL_law_993 hl (by decide) rfl (fun ls hl => ?_)
  refine lv_aload_n hx hb dL_law_995 rfl (lv_at hl 3 rfl) ?_
  refine lv_aload_n hx hb dL_law_996 rfl (lv_at hl 1 rfl) ?_
  refine lv_iload hx hb dL_law_997 (lv_at hl 5 rfl) ?_
  refine lv_iconst (v := nI 1) hx hb dL_law_999 (by decide) ?_
  refine lv_iadd hx hb dL_law_1000 ?_
  refine z_top (y := nI (i + 1)) (nI_add _ _) ?_
  refine z_sld hx hb hX0 hbl hbA hS (k := i + 1) (by omega) hL dL_law_1001 ?_
  refine z_callVW (b := M) (As := [.int (xs (i + 1))]) (rest := []) (wx' u) ⟨hx, hb, hml, hown, hts⟩ hK hP hD hS hM cwm (List.range' 0 wm.length) (List.range' wm.length (wx' u).length) (z_rgB _ _) (z_rgA _ _) (z_rgD2 _ _) hadm 0 5 (z_at0 hMr) rfl rfl rfl hl.1 rfl rfl dL_law_1002 ⟨by show _ ≤ 1078; omega, by show _ ≤ 10152; omega⟩ (fun r v H locs hq hP hD hS => ?_)
  refine lv_istore (lv' := [(6, .int r), (5, .int (nI k9)), (0, .ref bs), (1, .ref o), (2, .ref M), (3, .ref out), (4, .int (nI i))]) hx hb dL_law_1005 hl (by decide) rfl (fun ls hl => ?_)
  refine lv_aload_n hx hb dL_law_1007 rfl (lv_at hl 4 rfl) ?_
  obtain ⟨fs2, hMr3⟩ := hMr2 v
  refine z_callV (b := M) (As := []) (rest := []) ⟨hx, hb, hml, hown, hts⟩ hK hP hS (hT v (wx' u)) cwt (wx' u).length 5 (z_atL hMr3) rfl rfl rfl hl.1 rfl rfl dL_law_1008 ⟨by show _ ≤ 1078; omega, by show _ ≤ 10152; omega⟩ (fun H locs hP hS => ?_)
  refine lv_iload hx hb dL_law_1011 (lv_at hl 1 rfl) ?_
  refine lv_icmp_eq (tgt := 1018) hx hb dL_law_1013 (by decide) (fun cb1 => ?_) (fun cb1 => ?_)
  · have cb1 : k9 = k9 := zn_eq_t (a := k9) (b := k9) (by omega) (by omega) cb1
    refine lv_iload hx hb dL_law_1018 (lv_at hl 1 rfl) ?_
    refine lv_if_ne (tgt := 1035) hx hb dL_law_1020 (by decide) (fun cb2 => ?_) (fun cb2 => ?_)
    · have cb2 : ¬ (k9 = 0) := zn_ne_f (a := k9) (b := 0) (by omega) (by omega) cb2
      refine lv_goto (tgt := 1218) hx hb dL_law_1035 (by decide) ?_
      exact kk u r v _ _ _ hp hq (z_swapP hP) (z_swapD hD) hS (lv_sub hl [2, 3, 4, 5, 6] rfl)
    · have cb2 : k9 = 0 := zn_ne_t (a := k9) (b := 0) (by omega) (by omega) cb2
      exact absurd cb2 (by omega)
  · have cb1 : ¬ (k9 = k9) := zn_eq_f (a := k9) (b := k9) (by omega) (by omega) cb1
    exact absurd rfl cb1
set_option maxHeartbeats 4000000 in
set_option maxRecDepth 100000 in
theorem z_case_loaded_ok {p : Program} {l : Launch} {e : Env} {s : State} {m : MethodId} {args : Array Value} {below : List Frame} {meth : Method} {c : Code} {H : Heap} {locs : List Loc} {ls : Array Slot} {cells slots : Nat} {Q : State → Prop} {D : va_G} {cy : zCy} {Ts : List Cond} {SX SM : Type} {o M out bs L i : Nat} {xs : Nat → Int32} {wx wm : va_W} {px : SX → Prop} {pm : Int32 → SM → Prop} {wx' : SX → va_W} {wm' : SM → va_W}
    (hx : p.tables.exec = Jvm.exec) (hb : c.code = cL_law) (hml : c.maxLocals = 7) (hown : s.vm.findClass RL = some m.cls) (hts : ∀ w ∈ Ts, w.before args s = true) (hK : zK D cy s) (hX0 : va_X bs L xs s s.heap) (hbl : bs < s.heap.size) (hL : L ≤ 2560) (hi : i + 5 ≤ L) (hrc : cells + 1 ≤ 1078) (hrs : slots + 6 ≤ 10152)
    (hP : va_P D vwCl (wm ++ wx) H) (hD : va_D (zNew s) (wm ++ wx)) (hS : va_S (zNew s) s.heap H locs) (hl : lv_has ls 7 [(0, .ref bs), (1, .ref o), (2, .ref M), (3, .ref out), (4, .int (nI i))])
    (hX : zW SX l yL_loaded wsL_loaded rmL_loaded_k D cy wx [.ref o, .int (xs (i + 1)), .int (xs (i + 2)), .int (xs (i + 3)), .ref out] (fun r u => r = nI 0 ∧ px u) wx') (hadx : ∀ u, (wx' u).map Prod.fst = wx.map Prod.fst) (cwx : vx_CSW room_1 s args RL 133 yL_loaded cL_loaded 6 (some .int) [(0, 12, 15, 13), (0, 12, 19, 21), (0, 12, 23, 15)] wsL_loaded rmL_loaded_k 0 0 5)
    (hM : zW SM l yX5_loaded wsX5_loaded rmX5_loaded D cy wm [.ref M, .int (xs (i + 1)), .int (xs (i + 2)), .int (xs (i + 3))] pm wm') (hadm : ∀ u, (wm' u).map Prod.fst = wm.map Prod.fst) (cwm : CallW room_1 s args RL RX5 136 yX5_loaded cX5_loaded 7 (some .int) wsX5_loaded rmX5_loaded 0 0 3)
    {mfs : List Value} (hMr : wm[0]? = some (M, .inr (5, mfs))) (hMr2 : ∀ v, ∃ fs, (wm' v)[0]? = some (M, .inr (5, fs))) (hT : ∀ v w, zR l yX5_thrown wsX5_thrown rmX5_thrown D cy (w ++ wm' v) [.ref M] (nI 0)) (cwt : CallW room_1 s args RL RX5 84 yX5_thrown cX5_thrown 1 (some .int) wsX5_thrown rmX5_thrown 0 0 0) {ov : SX → Int64} (hov : ∀ u, ∃ rs, wx' u = (out, .inl (cy.2.2, 1, .inr (.inl (fun _ => ov u)))) :: rs) (hval : ∀ u r v, px u → pm r v → ov u = r.toInt64)
    (kk : ∀ (u : SX) (r : Int32) (v : SM) (H : Heap) (locs : List Loc) (ls : Array Slot), px u → pm r v → va_P D vwCl (wm' v ++ wx' u) H → va_D (zNew s) (wm' v ++ wx' u) → va_S (zNew s) s.heap H locs → lv_has ls 7 [(0, .ref bs), (1, .ref o), (2, .ref M), (3, .ref out), (4, .int (nI i))] → W p l e room_1 s m args below meth c H locs (cells + 1) (slots + 6) Q (F0 m 1218 ls [])) : W p l e room_1 s m args below meth c H locs cells slots Q (F0 m 1038 ls []) := by
  have hbA : ¬ zNew s bs := Nat.not_le.mpr hbl
  refine lv_aload_n hx hb dL_law_1038 rfl (lv_at hl 1 rfl) ?_
  refine lv_aload_n hx hb dL_law_1039 rfl (lv_at hl 0 rfl) ?_
  refine lv_iload hx hb dL_law_1040 (lv_at hl 4 rfl) ?_
  refine lv_iconst (v := nI 1) hx hb dL_law_1042 (by decide) ?_
  refine lv_iadd hx hb dL_law_1043 ?_
  refine z_top (y := nI (i + 1)) (nI_add _ _) ?_
  refine z_sld hx hb hX0 hbl hbA hS (k := i + 1) (by omega) hL dL_law_1044 ?_
  refine lv_aload_n hx hb dL_law_1045 rfl (lv_at hl 0 rfl) ?_
  refine lv_iload hx hb dL_law_1046 (lv_at hl 4 rfl) ?_
  refine lv_iconst (v := nI 2) hx hb dL_law_1048 (by decide) ?_
  refine lv_iadd hx hb dL_law_1049 ?_
  refine z_top (y := nI (i + 2)) (nI_add _ _) ?_
  refine z_sld hx hb hX0 hbl hbA hS (k := i + 2) (by omega) hL dL_law_1050 ?_
  refine lv_aload_n hx hb dL_law_1051 rfl (lv_at hl 0 rfl) ?_
  refine lv_iload hx hb dL_law_1052 (lv_at hl 4 rfl) ?_
  refine lv_iconst (v := nI 3) hx hb dL_law_1054 (by decide) ?_
  refine lv_iadd hx hb dL_law_1055 ?_
  refine z_top (y := nI (i + 3)) (nI_add _ _) ?_
  refine z_sld hx hb hX0 hbl hbA hS (k := i + 3) (by omega) hL dL_law_1056 ?_
  refine lv_aload_n hx hb dL_law_1057 rfl (lv_at hl 3 rfl) ?_
  refine z_lawW (As := [.ref o, .int (xs (i + 1)), .int (xs (i + 2)), .int (xs (i + 3)), .ref out]) (rest := []) ⟨hx, hb, hml, hown, hts⟩ hK hP hD hS hX cwx hadx rfl hl.1 rfl rfl dL_law_1058 ⟨by show _ ≤ 1078; omega, by show _ ≤ 10152; omega⟩ (fun rr u H locs hp hP hD hS => ?_)
  obtain ⟨rfl, hp⟩ := hp
  refine lv_istore (lv' := [(5, .int (nI 0)), (0, .ref bs), (1, .ref o), (2, .ref M), (3, .ref out), (4, .int (nI i))]) hx hb dL_law_1061 hl (by decide) rfl (fun ls hl => ?_)
  refine lv_aload_n hx hb dL_law_1063 rfl (lv_at hl 3 rfl) ?_
  refine lv_aload_n hx hb dL_law_1064 rfl (lv_at hl 1 rfl) ?_
  refine lv_iload hx hb dL_law_1065 (lv_at hl 5 rfl) ?_
  refine lv_iconst (v := nI 1) hx hb dL_law_1067 (by decide) ?_
  refine lv_iadd hx hb dL_law_1068 ?_
  refine z_top (y := nI (i + 1)) (nI_add _ _) ?_
  refine z_sld hx hb hX0 hbl hbA hS (k := i + 1) (by omega) hL dL_law_1069 ?_
  refine lv_aload_n hx hb dL_law_1070 rfl (lv_at hl 1 rfl) ?_
  refine lv_iload hx hb dL_law_1071 (lv_at hl 5 rfl) ?_
  refine lv_iconst (v := nI 2) hx hb dL_law_1073 (by decide) ?_
  refine lv_iadd hx hb dL_law_1074 ?_
  refine z_top (y := nI (i + 2)) (nI_add _ _) ?_
  refine z_sld hx hb hX0 hbl hbA hS (k := i + 2) (by omega) hL dL_law_1075 ?_
  refine lv_aload_n hx hb dL_law_1076 rfl (lv_at hl 1 rfl) ?_
  refine lv_iload hx hb dL_law_1077 (lv_at hl 5 rfl) ?_
  refine lv_iconst (v := nI 3) hx hb dL_law_1079 (by decide) ?_
  refine lv_iadd hx hb dL_law_1080 ?_
  refine z_top (y := nI (i + 3)) (nI_add _ _) ?_
  refine z_sld hx hb hX0 hbl hbA hS (k := i + 3) (by omega) hL dL_law_1081 ?_
  refine z_callVW (b := M) (As := [.int (xs (i + 1)), .int (xs (i + 2)), .int (xs (i + 3))]) (rest := []) (wx' u) ⟨hx, hb, hml, hown, hts⟩ hK hP hD hS hM cwm (List.range' 0 wm.length) (List.range' wm.length (wx' u).length) (z_rgB _ _) (z_rgA _ _) (z_rgD2 _ _) hadm 0 5 (z_at0 hMr) rfl rfl rfl hl.1 rfl rfl dL_law_1082 ⟨by show _ ≤ 1078; omega, by show _ ≤ 10152; omega⟩ (fun r v H locs hq hP hD hS => ?_)
  refine lv_istore (lv' := [(6, .int r), (5, .int (nI 0)), (0, .ref bs), (1, .ref o), (2, .ref M), (3, .ref out), (4, .int (nI i))]) hx hb dL_law_1085 hl (by decide) rfl (fun ls hl => ?_)
  refine lv_aload_n hx hb dL_law_1087 rfl (lv_at hl 4 rfl) ?_
  obtain ⟨fs2, hMr3⟩ := hMr2 v
  refine z_callV (b := M) (As := []) (rest := []) ⟨hx, hb, hml, hown, hts⟩ hK hP hS (hT v (wx' u)) cwt (wx' u).length 5 (z_atL hMr3) rfl rfl rfl hl.1 rfl rfl dL_law_1088 ⟨by show _ ≤ 1078; omega, by show _ ≤ 10152; omega⟩ (fun H locs hP hS => ?_)
  refine lv_iload hx hb dL_law_1091 (lv_at hl 1 rfl) ?_
  refine lv_icmp_eq (tgt := 1098) hx hb dL_law_1093 (by decide) (fun cb1 => ?_) (fun cb1 => ?_)
  · have cb1 : 0 = 0 := zn_eq_t (a := 0) (b := 0) (by omega) (by omega) cb1
    refine lv_iload hx hb dL_law_1098 (lv_at hl 1 rfl) ?_
    refine lv_if_ne (tgt := 1115) hx hb dL_law_1100 (by decide) (fun cb2 => ?_) (fun cb2 => ?_)
    · have cb2 : ¬ (0 = 0) := zn_ne_f (a := 0) (b := 0) (by omega) (by omega) cb2
      exact absurd cb2 (by decide)
    · have cb2 : 0 = 0 := zn_ne_t (a := 0) (b := 0) (by omega) (by omega) cb2
      refine lv_aload_n hx hb dL_law_1103 rfl (lv_at hl 5 rfl) ?_
      refine lv_iconst (v := nI 0) hx hb dL_law_1104 (by decide) ?_
      obtain ⟨rs9, hov9⟩ := hov u
      refine z_lald (q0 := 0) (ov := ov u) hx hb hK hP (by rw [hov9]; rfl) dL_law_1105 ?_
      refine lv_iload hx hb dL_law_1106 (lv_at hl 0 rfl) ?_
      refine lv_i2l (v := (r).toInt64) hx hb dL_law_1108 rfl ?_
      have hv9 := hval u r v hp hq
      rw [hv9]
      refine z_lcmp0 hx hb dL_law_1109 ?_
      refine lv_if_eq (tgt := 1115) hx hb dL_law_1110 (by decide) (fun cb3 => ?_) (fun cb3 => ?_)
      · have cb3 : 0 = 0 := zn_eq_t (a := 0) (b := 0) (by omega) (by omega) cb3
        refine lv_goto (tgt := 1218) hx hb dL_law_1115 (by decide) ?_
        refine W.widen (k := cells + 1) (n := slots + 6) (by omega) (by omega) ?_
        exact kk u r v _ _ _ hp hq (z_swapP hP) (z_swapD hD) hS (lv_sub hl [2, 3, 4, 5, 6] rfl)
      · have cb3 : ¬ (0 = 0) := zn_eq_f (a := 0) (b := 0) (by omega) (by omega) cb3
        exact absurd cb3 (by decide)
  · have cb1 : ¬ (0 = 0) := zn_eq_f (a := 0) (b := 0) (by omega) (by omega) cb1
    exact absurd cb1 (by decide)
set_option maxHeartbeats 4000000 in
set_option maxRecDepth 100000 in
theorem z_case_loaded_bad {p : Program} {l : Launch} {e : Env} {s : State} {m : MethodId} {args : Array Value} {below : List Frame} {meth : Method} {c : Code} {H : Heap} {locs : List Loc} {ls : Array Slot} {cells slots : Nat} {Q : State → Prop} {D : va_G} {cy : zCy} {Ts : List Cond} {SX SM : Type} {o M out bs L i : Nat} {xs : Nat → Int32} {wx wm : va_W} {px : SX → Prop} {pm : Int32 → SM → Prop} {wx' : SX → va_W} {wm' : SM → va_W}
    (hx : p.tables.exec = Jvm.exec) (hb : c.code = cL_law) (hml : c.maxLocals = 7) (hown : s.vm.findClass RL = some m.cls) (hts : ∀ w ∈ Ts, w.before args s = true) (hK : zK D cy s) (hX0 : va_X bs L xs s s.heap) (hbl : bs < s.heap.size) (hL : L ≤ 2560) (hi : i + 5 ≤ L) (hrc : cells + 1 ≤ 1078) (hrs : slots + 6 ≤ 10152)
    (hP : va_P D vwCl (wm ++ wx) H) (hD : va_D (zNew s) (wm ++ wx)) (hS : va_S (zNew s) s.heap H locs) (hl : lv_has ls 7 [(0, .ref bs), (1, .ref o), (2, .ref M), (3, .ref out), (4, .int (nI i))])
    {k9 : Nat} (hk1 : 0 < k9) (hk2 : k9 < 4) (hTs : zTs s) (hTh : zTh (zNew s) s s.heap) (hX : zB SX l yL_loaded wsL_loaded rmL_loaded D cy wx [.ref o, .int (xs (i + 1)), .int (xs (i + 2)), .int (xs (i + 3)), .ref out] (fun r u => r = nI k9 ∧ px u) wx') (hadx : ∀ u, (wx' u).map Prod.fst = wx.map Prod.fst) (cwx : vx_CSW room_1 s args RL 133 yL_loaded cL_loaded 6 (some .int) [(0, 12, 15, 13), (0, 12, 19, 21), (0, 12, 23, 15)] wsL_loaded rmL_loaded 1 6 5)
    (hM : zW SM l yX5_loaded wsX5_loaded rmX5_loaded D cy wm [.ref M, .int (xs (i + 1)), .int (xs (i + 2)), .int (xs (i + 3))] pm wm') (hadm : ∀ u, (wm' u).map Prod.fst = wm.map Prod.fst) (cwm : CallW room_1 s args RL RX5 136 yX5_loaded cX5_loaded 7 (some .int) wsX5_loaded rmX5_loaded 0 0 3)
    {mfs : List Value} (hMr : wm[0]? = some (M, .inr (5, mfs))) (hMr2 : ∀ v, ∃ fs, (wm' v)[0]? = some (M, .inr (5, fs))) (hT : ∀ v w, zR l yX5_thrown wsX5_thrown rmX5_thrown D cy (w ++ wm' v) [.ref M] (nI k9)) (cwt : CallW room_1 s args RL RX5 84 yX5_thrown cX5_thrown 1 (some .int) wsX5_thrown rmX5_thrown 0 0 0)
    (kk : ∀ (u : SX) (r : Int32) (v : SM) (H : Heap) (locs : List Loc) (ls : Array Slot), px u → pm r v → va_P D vwCl (wm' v ++ wx' u) H → va_D (zNew s) (wm' v ++ wx' u) → va_S (zNew s) s.heap H locs → lv_has ls 7 [(0, .ref bs), (1, .ref o), (2, .ref M), (3, .ref out), (4, .int (nI i))] → W p l e room_1 s m args below meth c H locs (cells + 1) (slots + 6) Q (F0 m 1218 ls [])) : W p l e room_1 s m args below meth c H locs cells slots Q (F0 m 1038 ls []) := by
  have hbA : ¬ zNew s bs := Nat.not_le.mpr hbl
  refine lv_aload_n hx hb dL_law_1038 rfl (lv_at hl 1 rfl) ?_
  refine lv_aload_n hx hb dL_law_1039 rfl (lv_at hl 0 rfl) ?_
  refine lv_iload hx hb dL_law_1040 (lv_at hl 4 rfl) ?_
  refine lv_iconst (v := nI 1) hx hb dL_law_1042 (by decide) ?_
  refine lv_iadd hx hb dL_law_1043 ?_
  refine z_top (y := nI (i + 1)) (nI_add _ _) ?_
  refine z_sld hx hb hX0 hbl hbA hS (k := i + 1) (by omega) hL dL_law_1044 ?_
  refine lv_aload_n hx hb dL_law_1045 rfl (lv_at hl 0 rfl) ?_
  refine lv_iload hx hb dL_law_1046 (lv_at hl 4 rfl) ?_
  refine lv_iconst (v := nI 2) hx hb dL_law_1048 (by decide) ?_
  refine lv_iadd hx hb dL_law_1049 ?_
  refine z_top (y := nI (i + 2)) (nI_add _ _) ?_
  refine z_sld hx hb hX0 hbl hbA hS (k := i + 2) (by omega) hL dL_law_1050 ?_
  refine lv_aload_n hx hb dL_law_1051 rfl (lv_at hl 0 rfl) ?_
  refine lv_iload hx hb dL_law_1052 (lv_at hl 4 rfl) ?_
  refine lv_iconst (v := nI 3) hx hb dL_law_1054 (by decide) ?_
  refine lv_iadd hx hb dL_law_1055 ?_
  refine z_top (y := nI (i + 3)) (nI_add _ _) ?_
  refine z_sld hx hb hX0 hbl hbA hS (k := i + 3) (by omega) hL dL_law_1056 ?_
  refine lv_aload_n hx hb dL_law_1057 rfl (lv_at hl 3 rfl) ?_
  refine z_lawB (As := [.ref o, .int (xs (i + 1)), .int (xs (i + 2)), .int (xs (i + 3)), .ref out]) (rest := []) ⟨hx, hb, hml, hown, hts⟩ hK hP hD hS hTs hTh hX cwx hadx rfl hl.1 rfl rfl dL_law_1058 ⟨by show _ ≤ 1078; omega, by show _ ≤ 10152; omega⟩ (fun rr u H locs hp hP hD hS => ?_)
  obtain ⟨rfl, hp⟩ := hp
  refine lv_istore (lv' := [(5, .int (nI k9)), (0, .ref bs), (1, .ref o), (2, .ref M), (3, .ref out), (4, .int (nI i))]) hx hb dL_law_1061 hl (by decide) rfl (fun ls hl => ?_)
  refine lv_aload_n hx hb dL_law_1063 rfl (lv_at hl 3 rfl) ?_
  refine lv_aload_n hx hb dL_law_1064 rfl (lv_at hl 1 rfl) ?_
  refine lv_iload hx hb dL_law_1065 (lv_at hl 5 rfl) ?_
  refine lv_iconst (v := nI 1) hx hb dL_law_1067 (by decide) ?_
  refine lv_iadd hx hb dL_law_1068 ?_
  refine z_top (y := nI (i + 1)) (nI_add _ _) ?_
  refine z_sld hx hb hX0 hbl hbA hS (k := i + 1) (by omega) hL dL_law_1069 ?_
  refine lv_aload_n hx hb dL_law_1070 rfl (lv_at hl 1 rfl) ?_
  refine lv_iload hx hb dL_law_1071 (lv_at hl 5 rfl) ?_
  refine lv_iconst (v := nI 2) hx hb dL_law_1073 (by decide) ?_
  refine lv_iadd hx hb dL_law_1074 ?_
  refine z_top (y := nI (i + 2)) (nI_add _ _) ?_
  refine z_sld hx hb hX0 hbl hbA hS (k := i + 2) (by omega) hL dL_law_1075 ?_
  refine lv_aload_n hx hb dL_law_1076 rfl (lv_at hl 1 rfl) ?_
  refine lv_iload hx hb dL_law_1077 (lv_at hl 5 rfl) ?_
  refine lv_iconst (v := nI 3) hx hb dL_law_1079 (by decide) ?_
  refine lv_iadd hx hb dL_law_1080 ?_
  refine z_top (y := nI (i + 3)) (nI_add _ _) ?_
  refine z_sld hx hb hX0 hbl hbA hS (k := i + 3) (by omega) hL dL_law_1081 ?_
  refine z_callVW (b := M) (As := [.int (xs (i + 1)), .int (xs (i + 2)), .int (xs (i + 3))]) (rest := []) (wx' u) ⟨hx, hb, hml, hown, hts⟩ hK hP hD hS hM cwm (List.range' 0 wm.length) (List.range' wm.length (wx' u).length) (z_rgB _ _) (z_rgA _ _) (z_rgD2 _ _) hadm 0 5 (z_at0 hMr) rfl rfl rfl hl.1 rfl rfl dL_law_1082 ⟨by show _ ≤ 1078; omega, by show _ ≤ 10152; omega⟩ (fun r v H locs hq hP hD hS => ?_)
  refine lv_istore (lv' := [(6, .int r), (5, .int (nI k9)), (0, .ref bs), (1, .ref o), (2, .ref M), (3, .ref out), (4, .int (nI i))]) hx hb dL_law_1085 hl (by decide) rfl (fun ls hl => ?_)
  refine lv_aload_n hx hb dL_law_1087 rfl (lv_at hl 4 rfl) ?_
  obtain ⟨fs2, hMr3⟩ := hMr2 v
  refine z_callV (b := M) (As := []) (rest := []) ⟨hx, hb, hml, hown, hts⟩ hK hP hS (hT v (wx' u)) cwt (wx' u).length 5 (z_atL hMr3) rfl rfl rfl hl.1 rfl rfl dL_law_1088 ⟨by show _ ≤ 1078; omega, by show _ ≤ 10152; omega⟩ (fun H locs hP hS => ?_)
  refine lv_iload hx hb dL_law_1091 (lv_at hl 1 rfl) ?_
  refine lv_icmp_eq (tgt := 1098) hx hb dL_law_1093 (by decide) (fun cb1 => ?_) (fun cb1 => ?_)
  · have cb1 : k9 = k9 := zn_eq_t (a := k9) (b := k9) (by omega) (by omega) cb1
    refine lv_iload hx hb dL_law_1098 (lv_at hl 1 rfl) ?_
    refine lv_if_ne (tgt := 1115) hx hb dL_law_1100 (by decide) (fun cb2 => ?_) (fun cb2 => ?_)
    · have cb2 : ¬ (k9 = 0) := zn_ne_f (a := k9) (b := 0) (by omega) (by omega) cb2
      refine lv_goto (tgt := 1218) hx hb dL_law_1115 (by decide) ?_
      exact kk u r v _ _ _ hp hq (z_swapP hP) (z_swapD hD) hS (lv_sub hl [2, 3, 4, 5, 6] rfl)
    · have cb2 : k9 = 0 := zn_ne_t (a := k9) (b := 0) (by omega) (by omega) cb2
      exact absurd cb2 (by omega)
  · have cb1 : ¬ (k9 = k9) := zn_eq_f (a := k9) (b := k9) (by omega) (by omega) cb1
    exact absurd rfl cb1
set_option maxHeartbeats 4000000 in
set_option maxRecDepth 100000 in
theorem z_case_harmed_ok {p : Program} {l : Launch} {e : Env} {s : State} {m : MethodId} {args : Array Value} {below : List Frame} {meth : Method} {c : Code} {H : Heap} {locs : List Loc} {ls : Array Slot} {cells slots : Nat} {Q : State → Prop} {D : va_G} {cy : zCy} {Ts : List Cond} {SX SM : Type} {o M out bs L i : Nat} {xs : Nat → Int32} {wx wm : va_W} {px : SX → Prop} {pm : Int32 → SM → Prop} {wx' : SX → va_W} {wm' : SM → va_W}
    (hx : p.tables.exec = Jvm.exec) (hb : c.code = cL_law) (hml : c.maxLocals = 7) (hown : s.vm.findClass RL = some m.cls) (hts : ∀ w ∈ Ts, w.before args s = true) (hK : zK D cy s) (hX0 : va_X bs L xs s s.heap) (hbl : bs < s.heap.size) (hL : L ≤ 2560) (hi : i + 5 ≤ L) (hrc : cells + 1 ≤ 1078) (hrs : slots + 6 ≤ 10152)
    (hP : va_P D vwCl (wm ++ wx) H) (hD : va_D (zNew s) (wm ++ wx)) (hS : va_S (zNew s) s.heap H locs) (hl : lv_has ls 7 [(0, .ref bs), (1, .ref o), (2, .ref M), (3, .ref out), (4, .int (nI i))])
    (hX : zW SX l yL_harmed wsL_harmed rmL_harmed_k D cy wx [.ref o, .ref out] (fun r u => r = nI 0 ∧ px u) wx') (hadx : ∀ u, (wx' u).map Prod.fst = wx.map Prod.fst) (cwx : vx_CSW room_1 s args RL 137 yL_harmed cL_harmed 3 (some .int) [(0, 8, 11, 15)] wsL_harmed rmL_harmed_k 0 0 2)
    (hM : zW SM l yX5_harmed wsX5_harmed rmX5_harmed D cy wm [.ref M] pm wm') (hadm : ∀ u, (wm' u).map Prod.fst = wm.map Prod.fst) (cwm : CallW room_1 s args RL RX5 139 yX5_harmed cX5_harmed 6 (some .int) wsX5_harmed rmX5_harmed 0 0 0)
    {mfs : List Value} (hMr : wm[0]? = some (M, .inr (5, mfs))) (hMr2 : ∀ v, ∃ fs, (wm' v)[0]? = some (M, .inr (5, fs))) (hT : ∀ v w, zR l yX5_thrown wsX5_thrown rmX5_thrown D cy (w ++ wm' v) [.ref M] (nI 0)) (cwt : CallW room_1 s args RL RX5 84 yX5_thrown cX5_thrown 1 (some .int) wsX5_thrown rmX5_thrown 0 0 0) {ov : SX → Int64} (hov : ∀ u, ∃ rs, wx' u = (out, .inl (cy.2.2, 1, .inr (.inl (fun _ => ov u)))) :: rs) (hval : ∀ u r v, px u → pm r v → ov u = r.toInt64)
    (kk : ∀ (u : SX) (r : Int32) (v : SM) (H : Heap) (locs : List Loc) (ls : Array Slot), px u → pm r v → va_P D vwCl (wm' v ++ wx' u) H → va_D (zNew s) (wm' v ++ wx' u) → va_S (zNew s) s.heap H locs → lv_has ls 7 [(0, .ref bs), (1, .ref o), (2, .ref M), (3, .ref out), (4, .int (nI i))] → W p l e room_1 s m args below meth c H locs (cells + 1) (slots + 6) Q (F0 m 1218 ls [])) : W p l e room_1 s m args below meth c H locs cells slots Q (F0 m 1118 ls []) := by
  have hbA : ¬ zNew s bs := Nat.not_le.mpr hbl
  refine lv_aload_n hx hb dL_law_1118 rfl (lv_at hl 1 rfl) ?_
  refine lv_aload_n hx hb dL_law_1119 rfl (lv_at hl 3 rfl) ?_
  refine z_lawW (As := [.ref o, .ref out]) (rest := []) ⟨hx, hb, hml, hown, hts⟩ hK hP hD hS hX cwx hadx rfl hl.1 rfl rfl dL_law_1120 ⟨by show _ ≤ 1078; omega, by show _ ≤ 10152; omega⟩ (fun rr u H locs hp hP hD hS => ?_)
  obtain ⟨rfl, hp⟩ := hp
  refine lv_istore (lv' := [(5, .int (nI 0)), (0, .ref bs), (1, .ref o), (2, .ref M), (3, .ref out), (4, .int (nI i))]) hx hb dL_law_1123 hl (by decide) rfl (fun ls hl => ?_)
  refine lv_aload_n hx hb dL_law_1125 rfl (lv_at hl 3 rfl) ?_
  refine z_callVW (b := M) (As := []) (rest := []) (wx' u) ⟨hx, hb, hml, hown, hts⟩ hK hP hD hS hM cwm (List.range' 0 wm.length) (List.range' wm.length (wx' u).length) (z_rgB _ _) (z_rgA _ _) (z_rgD2 _ _) hadm 0 5 (z_at0 hMr) rfl rfl rfl hl.1 rfl rfl dL_law_1126 ⟨by show _ ≤ 1078; omega, by show _ ≤ 10152; omega⟩ (fun r v H locs hq hP hD hS => ?_)
  refine lv_istore (lv' := [(6, .int r), (5, .int (nI 0)), (0, .ref bs), (1, .ref o), (2, .ref M), (3, .ref out), (4, .int (nI i))]) hx hb dL_law_1129 hl (by decide) rfl (fun ls hl => ?_)
  refine lv_aload_n hx hb dL_law_1131 rfl (lv_at hl 4 rfl) ?_
  obtain ⟨fs2, hMr3⟩ := hMr2 v
  refine z_callV (b := M) (As := []) (rest := []) ⟨hx, hb, hml, hown, hts⟩ hK hP hS (hT v (wx' u)) cwt (wx' u).length 5 (z_atL hMr3) rfl rfl rfl hl.1 rfl rfl dL_law_1132 ⟨by show _ ≤ 1078; omega, by show _ ≤ 10152; omega⟩ (fun H locs hP hS => ?_)
  refine lv_iload hx hb dL_law_1135 (lv_at hl 1 rfl) ?_
  refine lv_icmp_eq (tgt := 1142) hx hb dL_law_1137 (by decide) (fun cb1 => ?_) (fun cb1 => ?_)
  · have cb1 : 0 = 0 := zn_eq_t (a := 0) (b := 0) (by omega) (by omega) cb1
    refine lv_iload hx hb dL_law_1142 (lv_at hl 1 rfl) ?_
    refine lv_if_ne (tgt := 1159) hx hb dL_law_1144 (by decide) (fun cb2 => ?_) (fun cb2 => ?_)
    · have cb2 : ¬ (0 = 0) := zn_ne_f (a := 0) (b := 0) (by omega) (by omega) cb2
      exact absurd cb2 (by decide)
    · have cb2 : 0 = 0 := zn_ne_t (a := 0) (b := 0) (by omega) (by omega) cb2
      refine lv_aload_n hx hb dL_law_1147 rfl (lv_at hl 5 rfl) ?_
      refine lv_iconst (v := nI 0) hx hb dL_law_1148 (by decide) ?_
      obtain ⟨rs9, hov9⟩ := hov u
      refine z_lald (q0 := 0) (ov := ov u) hx hb hK hP (by rw [hov9]; rfl) dL_law_1149 ?_
      refine lv_iload hx hb dL_law_1150 (lv_at hl 0 rfl) ?_
      refine lv_i2l (v := (r).toInt64) hx hb dL_law_1152 rfl ?_
      have hv9 := hval u r v hp hq
      rw [hv9]
      refine z_lcmp0 hx hb dL_law_1153 ?_
      refine lv_if_eq (tgt := 1159) hx hb dL_law_1154 (by decide) (fun cb3 => ?_) (fun cb3 => ?_)
      · have cb3 : 0 = 0 := zn_eq_t (a := 0) (b := 0) (by omega) (by omega) cb3
        refine lv_goto (tgt := 1218) hx hb dL_law_1159 (by decide) ?_
        refine W.widen (k := cells + 1) (n := slots + 6) (by omega) (by omega) ?_
        exact kk u r v _ _ _ hp hq (z_swapP hP) (z_swapD hD) hS (lv_sub hl [2, 3, 4, 5, 6] rfl)
      · have cb3 : ¬ (0 = 0) := zn_eq_f (a := 0) (b := 0) (by omega) (by omega) cb3
        exact absurd cb3 (by decide)
  · have cb1 : ¬ (0 = 0) := zn_eq_f (a := 0) (b := 0) (by omega) (by omega) cb1
    exact absurd cb1 (by decide)
set_option maxHeartbeats 4000000 in
set_option maxRecDepth 100000 in
theorem z_case_harmed_bad {p : Program} {l : Launch} {e : Env} {s : State} {m : MethodId} {args : Array Value} {below : List Frame} {meth : Method} {c : Code} {H : Heap} {locs : List Loc} {ls : Array Slot} {cells slots : Nat} {Q : State → Prop} {D : va_G} {cy : zCy} {Ts : List Cond} {SX SM : Type} {o M out bs L i : Nat} {xs : Nat → Int32} {wx wm : va_W} {px : SX → Prop} {pm : Int32 → SM → Prop} {wx' : SX → va_W} {wm' : SM → va_W}
    (hx : p.tables.exec = Jvm.exec) (hb : c.code = cL_law) (hml : c.maxLocals = 7) (hown : s.vm.findClass RL = some m.cls) (hts : ∀ w ∈ Ts, w.before args s = true) (hK : zK D cy s) (hX0 : va_X bs L xs s s.heap) (hbl : bs < s.heap.size) (hL : L ≤ 2560) (hi : i + 5 ≤ L) (hrc : cells + 1 ≤ 1078) (hrs : slots + 6 ≤ 10152)
    (hP : va_P D vwCl (wm ++ wx) H) (hD : va_D (zNew s) (wm ++ wx)) (hS : va_S (zNew s) s.heap H locs) (hl : lv_has ls 7 [(0, .ref bs), (1, .ref o), (2, .ref M), (3, .ref out), (4, .int (nI i))])
    {k9 : Nat} (hk1 : 0 < k9) (hk2 : k9 < 4) (hTs : zTs s) (hTh : zTh (zNew s) s s.heap) (hX : zB SX l yL_harmed wsL_harmed rmL_harmed D cy wx [.ref o, .ref out] (fun r u => r = nI k9 ∧ px u) wx') (hadx : ∀ u, (wx' u).map Prod.fst = wx.map Prod.fst) (cwx : vx_CSW room_1 s args RL 137 yL_harmed cL_harmed 3 (some .int) [(0, 8, 11, 15)] wsL_harmed rmL_harmed 1 6 2)
    (hM : zW SM l yX5_harmed wsX5_harmed rmX5_harmed D cy wm [.ref M] pm wm') (hadm : ∀ u, (wm' u).map Prod.fst = wm.map Prod.fst) (cwm : CallW room_1 s args RL RX5 139 yX5_harmed cX5_harmed 6 (some .int) wsX5_harmed rmX5_harmed 0 0 0)
    {mfs : List Value} (hMr : wm[0]? = some (M, .inr (5, mfs))) (hMr2 : ∀ v, ∃ fs, (wm' v)[0]? = some (M, .inr (5, fs))) (hT : ∀ v w, zR l yX5_thrown wsX5_thrown rmX5_thrown D cy (w ++ wm' v) [.ref M] (nI k9)) (cwt : CallW room_1 s args RL RX5 84 yX5_thrown cX5_thrown 1 (some .int) wsX5_thrown rmX5_thrown 0 0 0)
    (kk : ∀ (u : SX) (r : Int32) (v : SM) (H : Heap) (locs : List Loc) (ls : Array Slot), px u → pm r v → va_P D vwCl (wm' v ++ wx' u) H → va_D (zNew s) (wm' v ++ wx' u) → va_S (zNew s) s.heap H locs → lv_has ls 7 [(0, .ref bs), (1, .ref o), (2, .ref M), (3, .ref out), (4, .int (nI i))] → W p l e room_1 s m args below meth c H locs (cells + 1) (slots + 6) Q (F0 m 1218 ls [])) : W p l e room_1 s m args below meth c H locs cells slots Q (F0 m 1118 ls []) := by
  have hbA : ¬ zNew s bs := Nat.not_le.mpr hbl
  refine lv_aload_n hx hb dL_law_1118 rfl (lv_at hl 1 rfl) ?_
  refine lv_aload_n hx hb dL_law_1119 rfl (lv_at hl 3 rfl) ?_
  refine z_lawB (As := [.ref o, .ref out]) (rest := []) ⟨hx, hb, hml, hown, hts⟩ hK hP hD hS hTs hTh hX cwx hadx rfl hl.1 rfl rfl dL_law_1120 ⟨by show _ ≤ 1078; omega, by show _ ≤ 10152; omega⟩ (fun rr u H locs hp hP hD hS => ?_)
  obtain ⟨rfl, hp⟩ := hp
  refine lv_istore (lv' := [(5, .int (nI k9)), (0, .ref bs), (1, .ref o), (2, .ref M), (3, .ref out), (4, .int (nI i))]) hx hb dL_law_1123 hl (by decide) rfl (fun ls hl => ?_)
  refine lv_aload_n hx hb dL_law_1125 rfl (lv_at hl 3 rfl) ?_
  refine z_callVW (b := M) (As := []) (rest := []) (wx' u) ⟨hx, hb, hml, hown, hts⟩ hK hP hD hS hM cwm (List.range' 0 wm.length) (List.range' wm.length (wx' u).length) (z_rgB _ _) (z_rgA _ _) (z_rgD2 _ _) hadm 0 5 (z_at0 hMr) rfl rfl rfl hl.1 rfl rfl dL_law_1126 ⟨by show _ ≤ 1078; omega, by show _ ≤ 10152; omega⟩ (fun r v H locs hq hP hD hS => ?_)
  refine lv_istore (lv' := [(6, .int r), (5, .int (nI k9)), (0, .ref bs), (1, .ref o), (2, .ref M), (3, .ref out), (4, .int (nI i))]) hx hb dL_law_1129 hl (by decide) rfl (fun ls hl => ?_)
  refine lv_aload_n hx hb dL_law_1131 rfl (lv_at hl 4 rfl) ?_
  obtain ⟨fs2, hMr3⟩ := hMr2 v
  refine z_callV (b := M) (As := []) (rest := []) ⟨hx, hb, hml, hown, hts⟩ hK hP hS (hT v (wx' u)) cwt (wx' u).length 5 (z_atL hMr3) rfl rfl rfl hl.1 rfl rfl dL_law_1132 ⟨by show _ ≤ 1078; omega, by show _ ≤ 10152; omega⟩ (fun H locs hP hS => ?_)
  refine lv_iload hx hb dL_law_1135 (lv_at hl 1 rfl) ?_
  refine lv_icmp_eq (tgt := 1142) hx hb dL_law_1137 (by decide) (fun cb1 => ?_) (fun cb1 => ?_)
  · have cb1 : k9 = k9 := zn_eq_t (a := k9) (b := k9) (by omega) (by omega) cb1
    refine lv_iload hx hb dL_law_1142 (lv_at hl 1 rfl) ?_
    refine lv_if_ne (tgt := 1159) hx hb dL_law_1144 (by decide) (fun cb2 => ?_) (fun cb2 => ?_)
    · have cb2 : ¬ (k9 = 0) := zn_ne_f (a := k9) (b := 0) (by omega) (by omega) cb2
      refine lv_goto (tgt := 1218) hx hb dL_law_1159 (by decide) ?_
      exact kk u r v _ _ _ hp hq (z_swapP hP) (z_swapD hD) hS (lv_sub hl [2, 3, 4, 5, 6] rfl)
    · have cb2 : k9 = 0 := zn_ne_t (a := k9) (b := 0) (by omega) (by omega) cb2
      exact absurd cb2 (by omega)
  · have cb1 : ¬ (k9 = k9) := zn_eq_f (a := k9) (b := k9) (by omega) (by omega) cb1
    exact absurd rfl cb1
set_option maxHeartbeats 4000000 in
set_option maxRecDepth 100000 in
theorem z_case_least_ok {p : Program} {l : Launch} {e : Env} {s : State} {m : MethodId} {args : Array Value} {below : List Frame} {meth : Method} {c : Code} {H : Heap} {locs : List Loc} {ls : Array Slot} {cells slots : Nat} {Q : State → Prop} {D : va_G} {cy : zCy} {Ts : List Cond} {SX SM : Type} {o M out bs L i : Nat} {xs : Nat → Int32} {wx wm : va_W} {px : SX → Prop} {pm : Int32 → SM → Prop} {wx' : SX → va_W} {wm' : SM → va_W}
    (hx : p.tables.exec = Jvm.exec) (hb : c.code = cL_law) (hml : c.maxLocals = 7) (hown : s.vm.findClass RL = some m.cls) (hts : ∀ w ∈ Ts, w.before args s = true) (hK : zK D cy s) (hX0 : va_X bs L xs s s.heap) (hbl : bs < s.heap.size) (hL : L ≤ 2560) (hi : i + 5 ≤ L) (hrc : cells + 1 ≤ 1078) (hrs : slots + 6 ≤ 10152)
    (hP : va_P D vwCl (wm ++ wx) H) (hD : va_D (zNew s) (wm ++ wx)) (hS : va_S (zNew s) s.heap H locs) (hl : lv_has ls 7 [(0, .ref bs), (1, .ref o), (2, .ref M), (3, .ref out), (4, .int (nI i))])
    (hX : zW SX l yL_least wsL_least rmL_least_k D cy wx [.ref o, .int (xs (i + 1)), .ref out] (fun r u => r = nI 0 ∧ px u) wx') (hadx : ∀ u, (wx' u).map Prod.fst = wx.map Prod.fst) (cwx : vx_CSW room_1 s args RL 140 yL_least cL_least 4 (some .int) [(0, 9, 12, 21), (0, 9, 15, 15), (0, 9, 18, 72)] wsL_least rmL_least_k 0 0 3)
    (hM : zW SM l yX5_least wsX5_least rmX5_least D cy wm [.ref M, .int (xs (i + 1))] pm wm') (hadm : ∀ u, (wm' u).map Prod.fst = wm.map Prod.fst) (cwm : CallW room_1 s args RL RX5 142 yX5_least cX5_least 5 (some .int) wsX5_least rmX5_least 0 0 1)
    {mfs : List Value} (hMr : wm[0]? = some (M, .inr (5, mfs))) (hMr2 : ∀ v, ∃ fs, (wm' v)[0]? = some (M, .inr (5, fs))) (hT : ∀ v w, zR l yX5_thrown wsX5_thrown rmX5_thrown D cy (w ++ wm' v) [.ref M] (nI 0)) (cwt : CallW room_1 s args RL RX5 84 yX5_thrown cX5_thrown 1 (some .int) wsX5_thrown rmX5_thrown 0 0 0) {ov : SX → Int64} (hov : ∀ u, ∃ rs, wx' u = (out, .inl (cy.2.2, 1, .inr (.inl (fun _ => ov u)))) :: rs) (hval : ∀ u r v, px u → pm r v → ov u = r.toInt64)
    (kk : ∀ (u : SX) (r : Int32) (v : SM) (H : Heap) (locs : List Loc) (ls : Array Slot), px u → pm r v → va_P D vwCl (wm' v ++ wx' u) H → va_D (zNew s) (wm' v ++ wx' u) → va_S (zNew s) s.heap H locs → lv_has ls 7 [(0, .ref bs), (1, .ref o), (2, .ref M), (3, .ref out), (4, .int (nI i))] → W p l e room_1 s m args below meth c H locs (cells + 1) (slots + 6) Q (F0 m 1218 ls [])) : W p l e room_1 s m args below meth c H locs cells slots Q (F0 m 1162 ls []) := by
  have hbA : ¬ zNew s bs := Nat.not_le.mpr hbl
  refine lv_aload_n hx hb dL_law_1162 rfl (lv_at hl 1 rfl) ?_
  refine lv_aload_n hx hb dL_law_1163 rfl (lv_at hl 0 rfl) ?_
  refine lv_iload hx hb dL_law_1164 (lv_at hl 4 rfl) ?_
  refine lv_iconst (v := nI 1) hx hb dL_law_1166 (by decide) ?_
  refine lv_iadd hx hb dL_law_1167 ?_
  refine z_top (y := nI (i + 1)) (nI_add _ _) ?_
  refine z_sld hx hb hX0 hbl hbA hS (k := i + 1) (by omega) hL dL_law_1168 ?_
  refine lv_aload_n hx hb dL_law_1169 rfl (lv_at hl 3 rfl) ?_
  refine z_lawW (As := [.ref o, .int (xs (i + 1)), .ref out]) (rest := []) ⟨hx, hb, hml, hown, hts⟩ hK hP hD hS hX cwx hadx rfl hl.1 rfl rfl dL_law_1170 ⟨by show _ ≤ 1078; omega, by show _ ≤ 10152; omega⟩ (fun rr u H locs hp hP hD hS => ?_)
  obtain ⟨rfl, hp⟩ := hp
  refine lv_istore (lv' := [(5, .int (nI 0)), (0, .ref bs), (1, .ref o), (2, .ref M), (3, .ref out), (4, .int (nI i))]) hx hb dL_law_1173 hl (by decide) rfl (fun ls hl => ?_)
  refine lv_aload_n hx hb dL_law_1175 rfl (lv_at hl 3 rfl) ?_
  refine lv_aload_n hx hb dL_law_1176 rfl (lv_at hl 1 rfl) ?_
  refine lv_iload hx hb dL_law_1177 (lv_at hl 5 rfl) ?_
  refine lv_iconst (v := nI 1) hx hb dL_law_1179 (by decide) ?_
  refine lv_iadd hx hb dL_law_1180 ?_
  refine z_top (y := nI (i + 1)) (nI_add _ _) ?_
  refine z_sld hx hb hX0 hbl hbA hS (k := i + 1) (by omega) hL dL_law_1181 ?_
  refine z_callVW (b := M) (As := [.int (xs (i + 1))]) (rest := []) (wx' u) ⟨hx, hb, hml, hown, hts⟩ hK hP hD hS hM cwm (List.range' 0 wm.length) (List.range' wm.length (wx' u).length) (z_rgB _ _) (z_rgA _ _) (z_rgD2 _ _) hadm 0 5 (z_at0 hMr) rfl rfl rfl hl.1 rfl rfl dL_law_1182 ⟨by show _ ≤ 1078; omega, by show _ ≤ 10152; omega⟩ (fun r v H locs hq hP hD hS => ?_)
  refine lv_istore (lv' := [(6, .int r), (5, .int (nI 0)), (0, .ref bs), (1, .ref o), (2, .ref M), (3, .ref out), (4, .int (nI i))]) hx hb dL_law_1185 hl (by decide) rfl (fun ls hl => ?_)
  refine lv_aload_n hx hb dL_law_1187 rfl (lv_at hl 4 rfl) ?_
  obtain ⟨fs2, hMr3⟩ := hMr2 v
  refine z_callV (b := M) (As := []) (rest := []) ⟨hx, hb, hml, hown, hts⟩ hK hP hS (hT v (wx' u)) cwt (wx' u).length 5 (z_atL hMr3) rfl rfl rfl hl.1 rfl rfl dL_law_1188 ⟨by show _ ≤ 1078; omega, by show _ ≤ 10152; omega⟩ (fun H locs hP hS => ?_)
  refine lv_iload hx hb dL_law_1191 (lv_at hl 1 rfl) ?_
  refine lv_icmp_eq (tgt := 1198) hx hb dL_law_1193 (by decide) (fun cb1 => ?_) (fun cb1 => ?_)
  · have cb1 : 0 = 0 := zn_eq_t (a := 0) (b := 0) (by omega) (by omega) cb1
    refine lv_iload hx hb dL_law_1198 (lv_at hl 1 rfl) ?_
    refine lv_if_ne (tgt := 1215) hx hb dL_law_1200 (by decide) (fun cb2 => ?_) (fun cb2 => ?_)
    · have cb2 : ¬ (0 = 0) := zn_ne_f (a := 0) (b := 0) (by omega) (by omega) cb2
      exact absurd cb2 (by decide)
    · have cb2 : 0 = 0 := zn_ne_t (a := 0) (b := 0) (by omega) (by omega) cb2
      refine lv_aload_n hx hb dL_law_1203 rfl (lv_at hl 5 rfl) ?_
      refine lv_iconst (v := nI 0) hx hb dL_law_1204 (by decide) ?_
      obtain ⟨rs9, hov9⟩ := hov u
      refine z_lald (q0 := 0) (ov := ov u) hx hb hK hP (by rw [hov9]; rfl) dL_law_1205 ?_
      refine lv_iload hx hb dL_law_1206 (lv_at hl 0 rfl) ?_
      refine lv_i2l (v := (r).toInt64) hx hb dL_law_1208 rfl ?_
      have hv9 := hval u r v hp hq
      rw [hv9]
      refine z_lcmp0 hx hb dL_law_1209 ?_
      refine lv_if_eq (tgt := 1215) hx hb dL_law_1210 (by decide) (fun cb3 => ?_) (fun cb3 => ?_)
      · have cb3 : 0 = 0 := zn_eq_t (a := 0) (b := 0) (by omega) (by omega) cb3
        refine lv_goto (tgt := 1218) hx hb dL_law_1215 (by decide) ?_
        refine W.widen (k := cells + 1) (n := slots + 6) (by omega) (by omega) ?_
        exact kk u r v _ _ _ hp hq (z_swapP hP) (z_swapD hD) hS (lv_sub hl [2, 3, 4, 5, 6] rfl)
      · have cb3 : ¬ (0 = 0) := zn_eq_f (a := 0) (b := 0) (by omega) (by omega) cb3
        exact absurd cb3 (by decide)
  · have cb1 : ¬ (0 = 0) := zn_eq_f (a := 0) (b := 0) (by omega) (by omega) cb1
    exact absurd cb1 (by decide)
set_option maxHeartbeats 4000000 in
set_option maxRecDepth 100000 in
theorem z_case_least_bad {p : Program} {l : Launch} {e : Env} {s : State} {m : MethodId} {args : Array Value} {below : List Frame} {meth : Method} {c : Code} {H : Heap} {locs : List Loc} {ls : Array Slot} {cells slots : Nat} {Q : State → Prop} {D : va_G} {cy : zCy} {Ts : List Cond} {SX SM : Type} {o M out bs L i : Nat} {xs : Nat → Int32} {wx wm : va_W} {px : SX → Prop} {pm : Int32 → SM → Prop} {wx' : SX → va_W} {wm' : SM → va_W}
    (hx : p.tables.exec = Jvm.exec) (hb : c.code = cL_law) (hml : c.maxLocals = 7) (hown : s.vm.findClass RL = some m.cls) (hts : ∀ w ∈ Ts, w.before args s = true) (hK : zK D cy s) (hX0 : va_X bs L xs s s.heap) (hbl : bs < s.heap.size) (hL : L ≤ 2560) (hi : i + 5 ≤ L) (hrc : cells + 1 ≤ 1078) (hrs : slots + 6 ≤ 10152)
    (hP : va_P D vwCl (wm ++ wx) H) (hD : va_D (zNew s) (wm ++ wx)) (hS : va_S (zNew s) s.heap H locs) (hl : lv_has ls 7 [(0, .ref bs), (1, .ref o), (2, .ref M), (3, .ref out), (4, .int (nI i))])
    {k9 : Nat} (hk1 : 0 < k9) (hk2 : k9 < 4) (hTs : zTs s) (hTh : zTh (zNew s) s s.heap) (hX : zB SX l yL_least wsL_least rmL_least D cy wx [.ref o, .int (xs (i + 1)), .ref out] (fun r u => r = nI k9 ∧ px u) wx') (hadx : ∀ u, (wx' u).map Prod.fst = wx.map Prod.fst) (cwx : vx_CSW room_1 s args RL 140 yL_least cL_least 4 (some .int) [(0, 9, 12, 21), (0, 9, 15, 15), (0, 9, 18, 72)] wsL_least rmL_least 1 6 3)
    (hM : zW SM l yX5_least wsX5_least rmX5_least D cy wm [.ref M, .int (xs (i + 1))] pm wm') (hadm : ∀ u, (wm' u).map Prod.fst = wm.map Prod.fst) (cwm : CallW room_1 s args RL RX5 142 yX5_least cX5_least 5 (some .int) wsX5_least rmX5_least 0 0 1)
    {mfs : List Value} (hMr : wm[0]? = some (M, .inr (5, mfs))) (hMr2 : ∀ v, ∃ fs, (wm' v)[0]? = some (M, .inr (5, fs))) (hT : ∀ v w, zR l yX5_thrown wsX5_thrown rmX5_thrown D cy (w ++ wm' v) [.ref M] (nI k9)) (cwt : CallW room_1 s args RL RX5 84 yX5_thrown cX5_thrown 1 (some .int) wsX5_thrown rmX5_thrown 0 0 0)
    (kk : ∀ (u : SX) (r : Int32) (v : SM) (H : Heap) (locs : List Loc) (ls : Array Slot), px u → pm r v → va_P D vwCl (wm' v ++ wx' u) H → va_D (zNew s) (wm' v ++ wx' u) → va_S (zNew s) s.heap H locs → lv_has ls 7 [(0, .ref bs), (1, .ref o), (2, .ref M), (3, .ref out), (4, .int (nI i))] → W p l e room_1 s m args below meth c H locs (cells + 1) (slots + 6) Q (F0 m 1218 ls [])) : W p l e room_1 s m args below meth c H locs cells slots Q (F0 m 1162 ls []) := by
  have hbA : ¬ zNew s bs := Nat.not_le.mpr hbl
  refine lv_aload_n hx hb dL_law_1162 rfl (lv_at hl 1 rfl) ?_
  refine lv_aload_n hx hb dL_law_1163 rfl (lv_at hl 0 rfl) ?_
  refine lv_iload hx hb dL_law_1164 (lv_at hl 4 rfl) ?_
  refine lv_iconst (v := nI 1) hx hb dL_law_1166 (by decide) ?_
  refine lv_iadd hx hb dL_law_1167 ?_
  refine z_top (y := nI (i + 1)) (nI_add _ _) ?_
  refine z_sld hx hb hX0 hbl hbA hS (k := i + 1) (by omega) hL dL_law_1168 ?_
  refine lv_aload_n hx hb dL_law_1169 rfl (lv_at hl 3 rfl) ?_
  refine z_lawB (As := [.ref o, .int (xs (i + 1)), .ref out]) (rest := []) ⟨hx, hb, hml, hown, hts⟩ hK hP hD hS hTs hTh hX cwx hadx rfl hl.1 rfl rfl dL_law_1170 ⟨by show _ ≤ 1078; omega, by show _ ≤ 10152; omega⟩ (fun rr u H locs hp hP hD hS => ?_)
  obtain ⟨rfl, hp⟩ := hp
  refine lv_istore (lv' := [(5, .int (nI k9)), (0, .ref bs), (1, .ref o), (2, .ref M), (3, .ref out), (4, .int (nI i))]) hx hb dL_law_1173 hl (by decide) rfl (fun ls hl => ?_)
  refine lv_aload_n hx hb dL_law_1175 rfl (lv_at hl 3 rfl) ?_
  refine lv_aload_n hx hb dL_law_1176 rfl (lv_at hl 1 rfl) ?_
  refine lv_iload hx hb dL_law_1177 (lv_at hl 5 rfl) ?_
  refine lv_iconst (v := nI 1) hx hb dL_law_1179 (by decide) ?_
  refine lv_iadd hx hb dL_law_1180 ?_
  refine z_top (y := nI (i + 1)) (nI_add _ _) ?_
  refine z_sld hx hb hX0 hbl hbA hS (k := i + 1) (by omega) hL dL_law_1181 ?_
  refine z_callVW (b := M) (As := [.int (xs (i + 1))]) (rest := []) (wx' u) ⟨hx, hb, hml, hown, hts⟩ hK hP hD hS hM cwm (List.range' 0 wm.length) (List.range' wm.length (wx' u).length) (z_rgB _ _) (z_rgA _ _) (z_rgD2 _ _) hadm 0 5 (z_at0 hMr) rfl rfl rfl hl.1 rfl rfl dL_law_1182 ⟨by show _ ≤ 1078; omega, by show _ ≤ 10152; omega⟩ (fun r v H locs hq hP hD hS => ?_)
  refine lv_istore (lv' := [(6, .int r), (5, .int (nI k9)), (0, .ref bs), (1, .ref o), (2, .ref M), (3, .ref out), (4, .int (nI i))]) hx hb dL_law_1185 hl (by decide) rfl (fun ls hl => ?_)
  refine lv_aload_n hx hb dL_law_1187 rfl (lv_at hl 4 rfl) ?_
  obtain ⟨fs2, hMr3⟩ := hMr2 v
  refine z_callV (b := M) (As := []) (rest := []) ⟨hx, hb, hml, hown, hts⟩ hK hP hS (hT v (wx' u)) cwt (wx' u).length 5 (z_atL hMr3) rfl rfl rfl hl.1 rfl rfl dL_law_1188 ⟨by show _ ≤ 1078; omega, by show _ ≤ 10152; omega⟩ (fun H locs hP hS => ?_)
  refine lv_iload hx hb dL_law_1191 (lv_at hl 1 rfl) ?_
  refine lv_icmp_eq (tgt := 1198) hx hb dL_law_1193 (by decide) (fun cb1 => ?_) (fun cb1 => ?_)
  · have cb1 : k9 = k9 := zn_eq_t (a := k9) (b := k9) (by omega) (by omega) cb1
    refine lv_iload hx hb dL_law_1198 (lv_at hl 1 rfl) ?_
    refine lv_if_ne (tgt := 1215) hx hb dL_law_1200 (by decide) (fun cb2 => ?_) (fun cb2 => ?_)
    · have cb2 : ¬ (k9 = 0) := zn_ne_f (a := k9) (b := 0) (by omega) (by omega) cb2
      refine lv_goto (tgt := 1218) hx hb dL_law_1215 (by decide) ?_
      exact kk u r v _ _ _ hp hq (z_swapP hP) (z_swapD hD) hS (lv_sub hl [2, 3, 4, 5, 6] rfl)
    · have cb2 : k9 = 0 := zn_ne_t (a := k9) (b := 0) (by omega) (by omega) cb2
      exact absurd cb2 (by omega)
  · have cb1 : ¬ (k9 = k9) := zn_eq_f (a := k9) (b := k9) (by omega) (by omega) cb1
    exact absurd rfl cb1
