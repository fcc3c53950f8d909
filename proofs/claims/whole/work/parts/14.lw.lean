theorem mem_p {big ws : List Cond} (ps : List Nat) (hp : ws = ps.filterMap (fun i => big[i]?)) : ∀ w ∈ ws, w ∈ big := by
  intro w hw
  rw [hp] at hw
  obtain ⟨i, -, hi⟩ := List.mem_filterMap.mp hw
  exact List.mem_of_getElem? hi
theorem mp_wsL_law0_r1 : ∀ w ∈ wsL_law0_r1, w ∈ lw_tbl := fun w h => (goodIn_p wsL_law0_r1 [89, 92, 97] (by decide +kernel) (by decide +kernel) w h).1
theorem mp_wsL_law0_r2 : ∀ w ∈ wsL_law0_r2, w ∈ lw_tbl := fun w h => (goodIn_p wsL_law0_r2 [101, 104, 107, 599] (by decide +kernel) (by decide +kernel) w h).1
theorem mp_wsL_law0_r3 : ∀ w ∈ wsL_law0_r3, w ∈ lw_tbl := fun w h => (goodIn_p wsL_law0_r3 [277, 281] (by decide +kernel) (by decide +kernel) w h).1
theorem mp_wsL_law0_r4 : ∀ w ∈ wsL_law0_r4, w ∈ lw_tbl := fun w h => (goodIn_p wsL_law0_r4 [369, 235, 184, 374, 377, 630, 633] (by decide +kernel) (by decide +kernel) w h).1
theorem mp_wsL_law0_r5 : ∀ w ∈ wsL_law0_r5, w ∈ lw_tbl := fun w h => (goodIn_p wsL_law0_r5 [637, 641, 626, 384, 388] (by decide +kernel) (by decide +kernel) w h).1
theorem mp_wsL_law0_r6 : ∀ w ∈ wsL_law0_r6, w ∈ lw_tbl := fun w h => (goodIn_p wsL_law0_r6 [394, 243, 399, 645, 649] (by decide +kernel) (by decide +kernel) w h).1
theorem mp_wsL_law0_r7 : ∀ w ∈ wsL_law0_r7, w ∈ lw_tbl := fun w h => (goodIn_p wsL_law0_r7 [653, 657, 661, 408, 412] (by decide +kernel) (by decide +kernel) w h).1
theorem mp_wsL_law0_r8 : ∀ w ∈ wsL_law0_r8, w ∈ lw_tbl := fun w h => (goodIn_p wsL_law0_r8 [181, 433, 666, 670] (by decide +kernel) (by decide +kernel) w h).1
theorem mp_wsL_law0_r9 : ∀ w ∈ wsL_law0_r9, w ∈ lw_tbl := fun w h => (goodIn_p wsL_law0_r9 [440, 444, 264, 267, 251, 453, 457] (by decide +kernel) (by decide +kernel) w h).1
theorem mp_wsL_law0_r10 : ∀ w ∈ wsL_law0_r10, w ∈ lw_tbl := fun w h => (goodIn_p wsL_law0_r10 [460, 674, 678, 682, 686, 467] (by decide +kernel) (by decide +kernel) w h).1
theorem mp_wsL_law0_r11 : ∀ w ∈ wsL_law0_r11, w ∈ lw_tbl := fun w h => (goodIn_p wsL_law0_r11 [471, 260, 690, 694, 479] (by decide +kernel) (by decide +kernel) w h).1
theorem mp_wsL_law0_r12 : ∀ w ∈ wsL_law0_r12, w ∈ lw_tbl := fun w h => (goodIn_p wsL_law0_r12 [231, 239, 247, 192, 196, 698] (by decide +kernel) (by decide +kernel) w h).1
theorem mp_wsL_law0_r13 : ∀ w ∈ wsL_law0_r13, w ∈ lw_tbl := fun w h => (goodIn_p wsL_law0_r13 [702, 706, 710, 486, 256] (by decide +kernel) (by decide +kernel) w h).1
theorem mp_wsL_law0_r14 : ∀ w ∈ wsL_law0_r14, w ∈ lw_tbl := fun w h => (goodIn_p wsL_law0_r14 [714, 718, 494, 223, 722, 726] (by decide +kernel) (by decide +kernel) w h).1
theorem mp_wsL_law0_r15 : ∀ w ∈ wsL_law0_r15, w ∈ lw_tbl := fun w h => (goodIn_p wsL_law0_r15 [501, 206, 177, 211, 215] (by decide +kernel) (by decide +kernel) w h).1
theorem mp_wsL_law0_r16 : ∀ w ∈ wsL_law0_r16, w ∈ lw_tbl := fun w h => (goodIn_p wsL_law0_r16 [219, 730, 734, 738, 508] (by decide +kernel) (by decide +kernel) w h).1
theorem mp_wsL_law0_r17 : ∀ w ∈ wsL_law0_r17, w ∈ lw_tbl := fun w h => (goodIn_p wsL_law0_r17 [512, 518, 522, 529, 534, 538] (by decide +kernel) (by decide +kernel) w h).1
theorem mp_wsL_law0_r18 : ∀ w ∈ wsL_law0_r18, w ∈ lw_tbl := fun w h => (goodIn_p wsL_law0_r18 [542, 546, 551, 742, 746] (by decide +kernel) (by decide +kernel) w h).1
theorem mp_wsL_law0_r19 : ∀ w ∈ wsL_law0_r19, w ∈ lw_tbl := fun w h => (goodIn_p wsL_law0_r19 [750, 754, 758, 762, 766, 770] (by decide +kernel) (by decide +kernel) w h).1
theorem mp_wsL_law0_r20 : ∀ w ∈ wsL_law0_r20, w ∈ lw_tbl := fun w h => (goodIn_p wsL_law0_r20 [774, 558, 562, 565, 568, 778] (by decide +kernel) (by decide +kernel) w h).1
theorem mp_wsL_law0_r21 : ∀ w ∈ wsL_law0_r21, w ∈ lw_tbl := fun w h => (goodIn_p wsL_law0_r21 [782, 794, 575, 579] (by decide +kernel) (by decide +kernel) w h).1
theorem mp_wsL_law0_r22 : ∀ w ∈ wsL_law0_r22, w ∈ lw_tbl := fun w h => (goodIn_p wsL_law0_r22 [798, 586, 802, 594, 806] (by decide +kernel) (by decide +kernel) w h).1
theorem mp_wsL_law0_r23 : ∀ w ∈ wsL_law0_r23, w ∈ lw_tbl := fun w h => (goodIn_p wsL_law0_r23 [173, 188, 810, 200, 227, 814] (by decide +kernel) (by decide +kernel) w h).1
theorem mp_wsL_law0_r24 : ∀ w ∈ wsL_law0_r24, w ∈ lw_tbl := fun w h => (goodIn_p wsL_law0_r24 [] (by decide +kernel) (by decide +kernel) w h).1
theorem mp_wsX10 : ∀ w ∈ wsX10, w ∈ lw_tbl := fun w h => (goodIn_p wsX10 [] (by decide +kernel) (by decide +kernel) w h).1
theorem mp_wsX20 : ∀ w ∈ wsX20, w ∈ lw_tbl := fun w h => (goodIn_p wsX20 [] (by decide +kernel) (by decide +kernel) w h).1
theorem mp_wsX00 : ∀ w ∈ wsX00, w ∈ lw_tbl := fun w h => (goodIn_p wsX00 [] (by decide +kernel) (by decide +kernel) w h).1
theorem wsL_law_in0 : ∀ w ∈ wsL_law0, w ∈ lw_tbl := List.forall_mem_append.mpr ⟨List.forall_mem_append.mpr ⟨List.forall_mem_append.mpr ⟨List.forall_mem_append.mpr ⟨(List.forall_mem_append.mpr ⟨mp_wsL_law0_r1, (List.forall_mem_append.mpr ⟨mp_wsL_law0_r2, (List.forall_mem_append.mpr ⟨mp_wsL_law0_r3, (List.forall_mem_append.mpr ⟨mp_wsL_law0_r4, (List.forall_mem_append.mpr ⟨mp_wsL_law0_r5, (List.forall_mem_append.mpr ⟨mp_wsL_law0_r6, (List.forall_mem_append.mpr ⟨mp_wsL_law0_r7, (List.forall_mem_append.mpr ⟨mp_wsL_law0_r8, (List.forall_mem_append.mpr ⟨mp_wsL_law0_r9, (List.forall_mem_append.mpr ⟨mp_wsL_law0_r10, (List.forall_mem_append.mpr ⟨mp_wsL_law0_r11, (List.forall_mem_append.mpr ⟨mp_wsL_law0_r12, (List.forall_mem_append.mpr ⟨mp_wsL_law0_r13, (List.forall_mem_append.mpr ⟨mp_wsL_law0_r14, (List.forall_mem_append.mpr ⟨mp_wsL_law0_r15, (List.forall_mem_append.mpr ⟨mp_wsL_law0_r16, (List.forall_mem_append.mpr ⟨mp_wsL_law0_r17, (List.forall_mem_append.mpr ⟨mp_wsL_law0_r18, (List.forall_mem_append.mpr ⟨mp_wsL_law0_r19, (List.forall_mem_append.mpr ⟨mp_wsL_law0_r20, (List.forall_mem_append.mpr ⟨mp_wsL_law0_r21, (List.forall_mem_append.mpr ⟨mp_wsL_law0_r22, (List.forall_mem_append.mpr ⟨mp_wsL_law0_r23, mp_wsL_law0_r24⟩)⟩)⟩)⟩)⟩)⟩)⟩)⟩)⟩)⟩)⟩)⟩)⟩)⟩)⟩)⟩)⟩)⟩)⟩)⟩)⟩)⟩)⟩), mp_wsX10⟩, mp_wsX20⟩, mp_wsX00⟩, fun _ h => absurd h List.not_mem_nil⟩
theorem wsL_law_x0 : ∀ w ∈ (vx_atS RX1 31 "java/lang/IllegalStateException" ["java/lang/RuntimeException", "java/lang/Exception"]).filter goodWord, w ∈ lw_tbl := by decide +kernel
theorem wsL_law_x1 : ∀ w ∈ (vx_atS RX1 105 "java/lang/IndexOutOfBoundsException" ["java/lang/RuntimeException", "java/lang/Exception"]).filter goodWord, w ∈ lw_tbl := by decide +kernel
theorem wsL_law_x2 : ∀ w ∈ (vx_atS RX1 158 "java/lang/IllegalArgumentException" ["java/lang/RuntimeException", "java/lang/Exception"]).filter goodWord, w ∈ lw_tbl := by decide +kernel
theorem wsL_law_in : ∀ w ∈ wsL_law, w ∈ lw_tbl := fun w h => (List.mem_append.mp h).elim (fun h => (List.mem_append.mp h).elim (fun h => (List.mem_append.mp h).elim (fun h => wsL_law_in0 w h) (fun h => wsL_law_x0 w h)) (fun h => wsL_law_x1 w h)) (fun h => wsL_law_x2 w h)
theorem inlX0 : ∀ w ∈ wsX00, w ∈ wsL_law := fun _ h => List.mem_append_left _ (List.mem_append_left _ (List.mem_append_left _ (List.mem_append_left _ (List.mem_append_right _ h))))
theorem inX0 : ∀ w ∈ wsX00, w ∈ lw_tbl := fun w h => wsL_law_in w (inlX0 w h)
theorem inlX1 : ∀ w ∈ wsX10, w ∈ wsL_law := fun _ h => List.mem_append_left _ (List.mem_append_left _ (List.mem_append_left _ (List.mem_append_left _ (List.mem_append_left _ (List.mem_append_left _ (List.mem_append_right _ h))))))
theorem inX1 : ∀ w ∈ wsX10, w ∈ lw_tbl := fun w h => wsL_law_in w (inlX1 w h)
theorem inlX2 : ∀ w ∈ wsX20, w ∈ wsL_law := fun _ h => List.mem_append_left _ (List.mem_append_left _ (List.mem_append_left _ (List.mem_append_left _ (List.mem_append_left _ (List.mem_append_right _ h)))))
theorem inX2 : ∀ w ∈ wsX20, w ∈ lw_tbl := fun w h => wsL_law_in w (inlX2 w h)
