/-! THE RUN AS A WHOLE, AND WHAT THE STATEMENT SAYS OF IT: the law makes more cells than the statement's 150, so the statement is false as it is printed -/
def zr_A (n : Nat) (w : State) (h : List Cell) (f : List Frame) (u : Nat) : Prop := stepsAlone start1.p0.tables start1.e0 n start1.about = zr_mk w h f u ∧ ∀ j, j < n → zr_two (stepsAlone start1.p0.tables start1.e0 j start1.about).frames = true
theorem zr_first {w' : State} {h' : List Cell} {f' : List Frame} {u' n : Nat} (hw : stepsAlone start1.p0.tables start1.e0 n start1.about = w') (hr : zr_run start1.p0.tables start1.e0 (zr_same h' f' u') n start1.about = true) : zr_A n w' h' f' u' := by
  obtain ⟨a, b⟩ := zr_run_ok n _ hr
  have c := zr_same_eq (fun i k hk => zr_stays start1.p0.tables start1.e0 n start1.about i k (by rw [← zr_V_eq]; exact hk)) b
  rw [hw] at c
  exact ⟨hw.trans c, a⟩
theorem zr_next {a n N : Nat} {w w' : State} {h h' : List Cell} {f f' : List Frame} {u u' : Nat} (hN : a + n = N) (hw : stepsAlone start1.p0.tables start1.e0 n (zr_mk w h f u) = w') (A : zr_A a w h f u) (hr : zr_run start1.p0.tables start1.e0 (zr_same h' f' u') n (zr_mk w h f u) = true) : zr_A N w' h' f' u' := by
  obtain ⟨p, q⟩ := zr_run_ok n _ hr
  have c := zr_same_eq (fun i k hk => zr_stays start1.p0.tables start1.e0 n (zr_mk w h f u) i k hk) q
  rw [hw] at c
  subst hN
  refine ⟨by rw [stepsAlone_add, A.1, hw]; exact c, fun j hj => ?_⟩
  rcases Nat.lt_or_ge j a with g | g
  · exact A.2 j g
  · obtain ⟨i, rfl⟩ := Nat.exists_eq_add_of_le g
    rw [stepsAlone_add, A.1]
    exact p i (by omega)
theorem zr_a1 : zr_A 60 zr_w1 zr_h1 zr_f1 zr_u1 := zr_first (by rw [zr_w1]) zr_s1
theorem zr_a2 : zr_A 2360 zr_w2 zr_h2 zr_f2 zr_u2 := zr_next (a := 60) (n := 2300) (by decide) (by rw [zr_w2]) zr_a1 zr_s2
theorem zr_a3 : zr_A 4660 zr_w3 zr_h3 zr_f3 zr_u3 := zr_next (a := 2360) (n := 2300) (by decide) (by rw [zr_w3]) zr_a2 zr_s3
theorem zr_a4 : zr_A 6060 zr_w4 zr_h4 zr_f4 zr_u4 := zr_next (a := 4660) (n := 1400) (by decide) (by rw [zr_w4]) zr_a3 zr_s4
theorem zr_a5 : zr_A 6767 zr_w5 zr_h5 zr_f5 zr_u5 := zr_next (a := 6060) (n := 707) (by decide) (by rw [zr_w5]) zr_a4 zr_s5
theorem zr_a6 : zr_A 7565 zr_w6 zr_h6 zr_f6 zr_u6 := zr_next (a := 6767) (n := 798) (by decide) (by rw [zr_w6]) zr_a5 zr_s6
theorem zr_a7 : zr_A 9328 zr_w7 zr_h7 zr_f7 zr_u7 := zr_next (a := 7565) (n := 1763) (by decide) (by rw [zr_w7]) zr_a6 zr_s7
theorem zr_a8 : zr_A 11628 zr_w8 zr_h8 zr_f8 zr_u8 := zr_next (a := 9328) (n := 2300) (by decide) (by rw [zr_w8]) zr_a7 zr_s8
theorem zr_a9 : zr_A 13462 zr_w9 zr_h9 zr_f9 zr_u9 := zr_next (a := 11628) (n := 1834) (by decide) (by rw [zr_w9]) zr_a8 zr_s9
theorem zr_a10 : zr_A 14374 zr_w10 zr_h10 zr_f10 zr_u10 := zr_next (a := 13462) (n := 912) (by decide) (by rw [zr_w10]) zr_a9 zr_s10
theorem zr_a11 : zr_A 15286 zr_w11 zr_h11 zr_f11 zr_u11 := zr_next (a := 14374) (n := 912) (by decide) (by rw [zr_w11]) zr_a10 zr_s11
theorem zr_a12 : zr_A 16200 zr_w12 zr_h12 zr_f12 zr_u12 := zr_next (a := 15286) (n := 914) (by decide) (by rw [zr_w12]) zr_a11 zr_s12
theorem zr_a13 : zr_A 17044 zr_w13 zr_h13 zr_f13 zr_u13 := zr_next (a := 16200) (n := 844) (by decide) (by rw [zr_w13]) zr_a12 zr_s13
theorem zr_a14 : zr_A 17924 zr_w14 zr_h14 zr_f14 zr_u14 := zr_next (a := 17044) (n := 880) (by decide) (by rw [zr_w14]) zr_a13 zr_s14
theorem zr_a15 : zr_A 18924 zr_w15 zr_h15 zr_f15 zr_u15 := zr_next (a := 17924) (n := 1000) (by decide) (by rw [zr_w15]) zr_a14 zr_s15
theorem zr_a16 : zr_A 19832 zr_w16 zr_h16 zr_f16 zr_u16 := zr_next (a := 18924) (n := 908) (by decide) (by rw [zr_w16]) zr_a15 zr_s16
theorem zr_a17 : zr_A 20820 zr_w17 zr_h17 zr_f17 zr_u17 := zr_next (a := 19832) (n := 988) (by decide) (by rw [zr_w17]) zr_a16 zr_s17
theorem zr_a18 : zr_A 21711 zr_w18 zr_h18 zr_f18 zr_u18 := zr_next (a := 20820) (n := 891) (by decide) (by rw [zr_w18]) zr_a17 zr_s18
theorem zr_a19 : zr_A 22608 zr_w19 zr_h19 zr_f19 zr_u19 := zr_next (a := 21711) (n := 897) (by decide) (by rw [zr_w19]) zr_a18 zr_s19
theorem zr_a20 : zr_A 23577 zr_w20 zr_h20 zr_f20 zr_u20 := zr_next (a := 22608) (n := 969) (by decide) (by rw [zr_w20]) zr_a19 zr_s20
theorem zr_a21 : zr_A 24456 zr_w21 zr_h21 zr_f21 zr_u21 := zr_next (a := 23577) (n := 879) (by decide) (by rw [zr_w21]) zr_a20 zr_s21
theorem zr_a22 : zr_A 25332 zr_w22 zr_h22 zr_f22 zr_u22 := zr_next (a := 24456) (n := 876) (by decide) (by rw [zr_w22]) zr_a21 zr_s22
theorem zr_a23 : zr_A 26209 zr_w23 zr_h23 zr_f23 zr_u23 := zr_next (a := 25332) (n := 877) (by decide) (by rw [zr_w23]) zr_a22 zr_s23
theorem zr_a24 : zr_A 27095 zr_w24 zr_h24 zr_f24 zr_u24 := zr_next (a := 26209) (n := 886) (by decide) (by rw [zr_w24]) zr_a23 zr_s24
theorem zr_a25 : zr_A 27966 zr_w25 zr_h25 zr_f25 zr_u25 := zr_next (a := 27095) (n := 871) (by decide) (by rw [zr_w25]) zr_a24 zr_s25
theorem zr_a26 : zr_A 28827 zr_w26 zr_h26 zr_f26 zr_u26 := zr_next (a := 27966) (n := 861) (by decide) (by rw [zr_w26]) zr_a25 zr_s26
theorem zr_a27 : zr_A 29653 zr_w27 zr_h27 zr_f27 zr_u27 := zr_next (a := 28827) (n := 826) (by decide) (by rw [zr_w27]) zr_a26 zr_s27
theorem zr_a28 : zr_A 30379 zr_w28 zr_h28 zr_f28 zr_u28 := zr_next (a := 29653) (n := 726) (by decide) (by rw [zr_w28]) zr_a27 zr_s28
theorem zr_a29 : zr_A 31156 zr_w29 zr_h29 zr_f29 zr_u29 := zr_next (a := 30379) (n := 777) (by decide) (by rw [zr_w29]) zr_a28 zr_s29
theorem zr_a30 : zr_A 32026 zr_w30 zr_h30 zr_f30 zr_u30 := zr_next (a := 31156) (n := 870) (by decide) (by rw [zr_w30]) zr_a29 zr_s30
theorem zr_a31 : zr_A 32785 zr_w31 zr_h31 zr_f31 zr_u31 := zr_next (a := 32026) (n := 759) (by decide) (by rw [zr_w31]) zr_a30 zr_s31
theorem zr_a32 : zr_A 33559 zr_w32 zr_h32 zr_f32 zr_u32 := zr_next (a := 32785) (n := 774) (by decide) (by rw [zr_w32]) zr_a31 zr_s32
theorem zr_a33 : zr_A 34420 zr_w33 zr_h33 zr_f33 zr_u33 := zr_next (a := 33559) (n := 861) (by decide) (by rw [zr_w33]) zr_a32 zr_s33
theorem zr_a34 : zr_A 35187 zr_w34 zr_h34 zr_f34 zr_u34 := zr_next (a := 34420) (n := 767) (by decide) (by rw [zr_w34]) zr_a33 zr_s34
theorem zr_a35 : zr_A 35351 zr_w35 zr_h35 zr_f35 zr_u35 := zr_next (a := 35187) (n := 164) (by decide) (by rw [zr_w35]) zr_a34 zr_s35
/-- the cells behind 35351 steps, and the run is still under way -/
theorem zr_cells : Nat.blt (start1.about.heap.size + 150) (start1.about.heap.toList ++ zr_h35).length = true := by decide +kernel
theorem zr_ends {s : State} {v : Option Value} (h : Ended s Lib.HandBits.below0 (.returned v)) : zr_two s.frames = false := by
  have h2 : s.frames = [.native { method := ⟨0, 0⟩, args := #[], awaiting := false, answer := some (.returned v) }] := h
  rw [h2]
  rfl
/-- THE STATEMENT IS FALSE AS PRINTED: from the start that the witness gives, the law's run makes more than 150 cells -/
theorem p20_first_false : ¬ Claimed_1_1 := by
  intro hA
  obtain ⟨hL, hW, had, -, hcas, hclk, hfr, hfit, hheap, happ, hcalls, hrest, hpre⟩ := start1.atStart
  obtain ⟨n, o, -, -, hend, hpost⟩ := hA launch0 rfl hL hW start1.p0 start1.e0 had hcas hclk start1.about ⟨0, 0⟩ start1.args0 Lib.HandBits.below0 hfr hfit hheap happ ⟨hcalls, hrest, hpre⟩
  obtain ⟨-, ⟨v, rfl⟩, -, hsame⟩ := hpost
  have hN : 35351 ≤ n := by
    rcases Nat.lt_or_ge n 35351 with h | h
    · have := zr_a35.2 n h
      rw [zr_ends hend] at this
      cases this
    · exact h
  obtain ⟨j, rfl⟩ := Nat.exists_eq_add_of_le hN
  have h1 : (stepsAlone start1.p0.tables start1.e0 (35351 + j) start1.about).heap.size ≤ start1.about.heap.size + 150 := hsame.2.2.1
  rw [stepsAlone_add, zr_a35.1] at h1
  have h2 := stepsAlone_heap_le start1.p0.tables start1.e0 j (zr_mk zr_w35 zr_h35 zr_f35 zr_u35)
  have h3 : (zr_mk zr_w35 zr_h35 zr_f35 zr_u35).heap.size = (start1.about.heap.toList ++ zr_h35).length := rfl
  have h4 := zr_cells
  rw [Nat.blt_eq] at h4
  omega
theorem p20_false : ¬ (Claimed_1_1 ∧ Claimed_1_2) := fun h => p20_first_false h.1
