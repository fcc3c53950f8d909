set_option maxRecDepth 100000 in
theorem mp_wsL_law0_r15 : ∀ w ∈ wsL_law0_r15, w ∈ lw_tbl := fun w h => (goodIn_p wsL_law0_r15 [410, 243, 252, 260, 276, 405, 444] rfl (by decide +kernel) w h).1
set_option maxRecDepth 100000 in
theorem mp_wsL_law0_r16 : ∀ w ∈ wsL_law0_r16, w ∈ lw_tbl := fun w h => (goodIn_p wsL_law0_r16 [448, 454, 461, 471, 476] rfl (by decide +kernel) w h).1
set_option maxRecDepth 100000 in
theorem mp_wsL_law0_r17 : ∀ w ∈ wsL_law0_r17, w ∈ lw_tbl := fun w h => (goodIn_p wsL_law0_r17 [481] rfl (by decide +kernel) w h).1
set_option maxRecDepth 100000 in
theorem mp_wsX10 : ∀ w ∈ wsX10, w ∈ lw_tbl := fun w h => (goodIn_p wsX10 [] rfl (by decide +kernel) w h).1
set_option maxRecDepth 100000 in
theorem mp_wsX00 : ∀ w ∈ wsX00, w ∈ lw_tbl := fun w h => (goodIn_p wsX00 [] rfl (by decide +kernel) w h).1
set_option maxRecDepth 100000 in
theorem mp_wsX30 : ∀ w ∈ wsX30, w ∈ lw_tbl := fun w h => (goodIn_p wsX30 [] rfl (by decide +kernel) w h).1
set_option maxRecDepth 100000 in
theorem mp_wsX20 : ∀ w ∈ wsX20, w ∈ lw_tbl := fun w h => (goodIn_p wsX20 [] rfl (by decide +kernel) w h).1
theorem wsL_law_in0 : ∀ w ∈ wsL_law0, w ∈ lw_tbl := List.forall_mem_append.mpr ⟨List.forall_mem_append.mpr ⟨List.forall_mem_append.mpr ⟨List.forall_mem_append.mpr ⟨List.forall_mem_append.mpr ⟨(List.forall_mem_append.mpr ⟨mp_wsL_law0_r1, (List.forall_mem_append.mpr ⟨mp_wsL_law0_r2, (List.forall_mem_append.mpr ⟨mp_wsL_law0_r3, (List.forall_mem_append.mpr ⟨mp_wsL_law0_r4, (List.forall_mem_append.mpr ⟨mp_wsL_law0_r5, (List.forall_mem_append.mpr ⟨mp_wsL_law0_r6, (List.forall_mem_append.mpr ⟨mp_wsL_law0_r7, (List.forall_mem_append.mpr ⟨mp_wsL_law0_r8, (List.forall_mem_append.mpr ⟨mp_wsL_law0_r9, (List.forall_mem_append.mpr ⟨mp_wsL_law0_r10, (List.forall_mem_append.mpr ⟨mp_wsL_law0_r11, (List.forall_mem_append.mpr ⟨mp_wsL_law0_r12, (List.forall_mem_append.mpr ⟨mp_wsL_law0_r13, (List.forall_mem_append.mpr ⟨mp_wsL_law0_r14, (List.forall_mem_append.mpr ⟨mp_wsL_law0_r15, (List.forall_mem_append.mpr ⟨mp_wsL_law0_r16, mp_wsL_law0_r17⟩)⟩)⟩)⟩)⟩)⟩)⟩)⟩)⟩)⟩)⟩)⟩)⟩)⟩)⟩)⟩), mp_wsX10⟩, mp_wsX00⟩, mp_wsX30⟩, mp_wsX20⟩, fun _ h => absurd h List.not_mem_nil⟩
theorem wsL_law_x0 : ∀ w ∈ (vx_atS RX1 31 "java/lang/IllegalStateException" ["java/lang/RuntimeException", "java/lang/Exception"]).filter goodWord, w ∈ lw_tbl := by decide +kernel
theorem wsL_law_x1 : ∀ w ∈ (vx_atS RX1 105 "java/lang/IndexOutOfBoundsException" ["java/lang/RuntimeException", "java/lang/Exception"]).filter goodWord, w ∈ lw_tbl := by decide +kernel
theorem wsL_law_x2 : ∀ w ∈ (vx_atS RX1 158 "java/lang/IllegalArgumentException" ["java/lang/RuntimeException", "java/lang/Exception"]).filter goodWord, w ∈ lw_tbl := by decide +kernel
theorem wsL_law_in : ∀ w ∈ wsL_law, w ∈ lw_tbl := fun w h => (List.mem_append.mp h).elim (fun h => (List.mem_append.mp h).elim (fun h => (List.mem_append.mp h).elim (fun h => wsL_law_in0 w h) (fun h => wsL_law_x0 w h)) (fun h => wsL_law_x1 w h)) (fun h => wsL_law_x2 w h)
theorem inlX0 : ∀ w ∈ wsX00, w ∈ wsL_law := fun _ h => List.mem_append_left _ (List.mem_append_left _ (List.mem_append_left _ (List.mem_append_left _ (List.mem_append_left _ (List.mem_append_left _ (List.mem_append_right _ h))))))
theorem inX0 : ∀ w ∈ wsX00, w ∈ lw_tbl := fun w h => wsL_law_in w (inlX0 w h)
theorem inlX1 : ∀ w ∈ wsX10, w ∈ wsL_law := fun _ h => List.mem_append_left _ (List.mem_append_left _ (List.mem_append_left _ (List.mem_append_left _ (List.mem_append_left _ (List.mem_append_left _ (List.mem_append_left _ (List.mem_append_right _ h)))))))
theorem inX1 : ∀ w ∈ wsX10, w ∈ lw_tbl := fun w h => wsL_law_in w (inlX1 w h)
theorem inlX2 : ∀ w ∈ wsX20, w ∈ wsL_law := fun _ h => List.mem_append_left _ (List.mem_append_left _ (List.mem_append_left _ (List.mem_append_left _ (List.mem_append_right _ h))))
theorem inX2 : ∀ w ∈ wsX20, w ∈ lw_tbl := fun w h => wsL_law_in w (inlX2 w h)
theorem inlX3 : ∀ w ∈ wsX30, w ∈ wsL_law := fun _ h => List.mem_append_left _ (List.mem_append_left _ (List.mem_append_left _ (List.mem_append_left _ (List.mem_append_left _ (List.mem_append_right _ h)))))
theorem inX3 : ∀ w ∈ wsX30, w ∈ lw_tbl := fun w h => wsL_law_in w (inlX3 w h)
theorem inX4 : ∀ w ∈ wsX40, w ∈ lw_tbl := by decide +kernel

