set_option maxRecDepth 20000 in
theorem wsL_i_r18 : ∀ w ∈ wsL_law0_r18, w ∈ lw_tbl := fun w h => (goodIn_p wsL_law0_r18 [788, 791, 795, 524, 799] (by decide +kernel) (by decide +kernel) w h).1
set_option maxRecDepth 20000 in
theorem wsL_i_r19 : ∀ w ∈ wsL_law0_r19, w ∈ lw_tbl := fun w h => (goodIn_p wsL_law0_r19 [803, 532, 807, 540] (by decide +kernel) (by decide +kernel) w h).1
set_option maxRecDepth 20000 in
theorem wsL_i_r20 : ∀ w ∈ wsL_law0_r20, w ∈ lw_tbl := fun w h => (goodIn_p wsL_law0_r20 [544, 548, 552, 563] (by decide +kernel) (by decide +kernel) w h).1
set_option maxRecDepth 20000 in
theorem wsL_i_r21 : ∀ w ∈ wsL_law0_r21, w ∈ lw_tbl := fun w h => (goodIn_p wsL_law0_r21 [568, 572, 576, 811, 815, 819] (by decide +kernel) (by decide +kernel) w h).1
set_option maxRecDepth 20000 in
theorem wsL_i_r22 : ∀ w ∈ wsL_law0_r22, w ∈ lw_tbl := fun w h => (goodIn_p wsL_law0_r22 [583, 587, 823, 594, 598] (by decide +kernel) (by decide +kernel) w h).1
set_option maxRecDepth 20000 in
theorem wsL_i_r23 : ∀ w ∈ wsL_law0_r23, w ∈ lw_tbl := fun w h => (goodIn_p wsL_law0_r23 [827, 605, 831, 615] (by decide +kernel) (by decide +kernel) w h).1
set_option maxRecDepth 20000 in
theorem wsL_i_r24 : ∀ w ∈ wsL_law0_r24, w ∈ lw_tbl := fun w h => (goodIn_p wsL_law0_r24 [619, 835, 629, 839] (by decide +kernel) (by decide +kernel) w h).1
set_option maxRecDepth 20000 in
theorem wsL_i_X40 : ∀ w ∈ wsX40, w ∈ lw_tbl := by decide +kernel
set_option maxRecDepth 20000 in
theorem wsL_i_X50 : ∀ w ∈ wsX50, w ∈ lw_tbl := by decide +kernel
set_option maxRecDepth 20000 in
theorem wsL_i_X10 : ∀ w ∈ wsX10, w ∈ lw_tbl := by decide +kernel
set_option maxRecDepth 20000 in
theorem wsL_i_X30 : ∀ w ∈ wsX30, w ∈ lw_tbl := by decide +kernel
set_option maxRecDepth 20000 in
theorem wsL_i_X20 : ∀ w ∈ wsX20, w ∈ lw_tbl := by decide +kernel
set_option maxRecDepth 20000 in
theorem wsL_i_X00 : ∀ w ∈ wsX00, w ∈ lw_tbl := by decide +kernel
theorem wsL_law_in0 : ∀ w ∈ wsL_law0, w ∈ lw_tbl := fun w h => (List.mem_append.mp h).elim (fun h => (List.mem_append.mp h).elim (fun h => (List.mem_append.mp h).elim (fun h => (List.mem_append.mp h).elim (fun h => (List.mem_append.mp h).elim (fun h => (List.mem_append.mp h).elim (fun h => (List.mem_append.mp h).elim (fun h => (List.mem_append.mp h).elim (fun h => wsL_i_r1 w h) (fun h => (List.mem_append.mp h).elim (fun h => wsL_i_r2 w h) (fun h => (List.mem_append.mp h).elim (fun h => wsL_i_r3 w h) (fun h => (List.mem_append.mp h).elim (fun h => wsL_i_r4 w h) (fun h => (List.mem_append.mp h).elim (fun h => wsL_i_r5 w h) (fun h => (List.mem_append.mp h).elim (fun h => wsL_i_r6 w h) (fun h => (List.mem_append.mp h).elim (fun h => wsL_i_r7 w h) (fun h => (List.mem_append.mp h).elim (fun h => wsL_i_r8 w h) (fun h => (List.mem_append.mp h).elim (fun h => wsL_i_r9 w h) (fun h => (List.mem_append.mp h).elim (fun h => wsL_i_r10 w h) (fun h => (List.mem_append.mp h).elim (fun h => wsL_i_r11 w h) (fun h => (List.mem_append.mp h).elim (fun h => wsL_i_r12 w h) (fun h => (List.mem_append.mp h).elim (fun h => wsL_i_r13 w h) (fun h => (List.mem_append.mp h).elim (fun h => wsL_i_r14 w h) (fun h => (List.mem_append.mp h).elim (fun h => wsL_i_r15 w h) (fun h => (List.mem_append.mp h).elim (fun h => wsL_i_r16 w h) (fun h => (List.mem_append.mp h).elim (fun h => wsL_i_r17 w h) (fun h => (List.mem_append.mp h).elim (fun h => wsL_i_r18 w h) (fun h => (List.mem_append.mp h).elim (fun h => wsL_i_r19 w h) (fun h => (List.mem_append.mp h).elim (fun h => wsL_i_r20 w h) (fun h => (List.mem_append.mp h).elim (fun h => wsL_i_r21 w h) (fun h => (List.mem_append.mp h).elim (fun h => wsL_i_r22 w h) (fun h => (List.mem_append.mp h).elim (fun h => wsL_i_r23 w h) (fun h => wsL_i_r24 w h)))))))))))))))))))))))) (fun h => wsL_i_X40 w h)) (fun h => wsL_i_X50 w h)) (fun h => wsL_i_X10 w h)) (fun h => wsL_i_X30 w h)) (fun h => wsL_i_X20 w h)) (fun h => wsL_i_X00 w h)) (fun h => absurd h List.not_mem_nil)
