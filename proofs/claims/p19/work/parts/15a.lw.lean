theorem mem_p {big ws : List Cond} (ps : List Nat) (hp : ws = ps.filterMap (fun i => big[i]?)) : ∀ w ∈ ws, w ∈ big := by
  intro w hw
  rw [hp] at hw
  obtain ⟨i, -, hi⟩ := List.mem_filterMap.mp hw
  exact List.mem_of_getElem? hi
set_option maxRecDepth 100000 in
theorem mp_wsL_law0_r1 : ∀ w ∈ wsL_law0_r1, w ∈ lw_tbl := fun w h => (goodIn_p wsL_law0_r1 [60, 63, 68] rfl (by decide +kernel) w h).1
set_option maxRecDepth 100000 in
theorem mp_wsL_law0_r2 : ∀ w ∈ wsL_law0_r2, w ∈ lw_tbl := fun w h => (goodIn_p wsL_law0_r2 [72, 75, 78, 603] rfl (by decide +kernel) w h).1
set_option maxRecDepth 100000 in
theorem mp_wsL_law0_r3 : ∀ w ∈ wsL_law0_r3, w ∈ lw_tbl := fun w h => (goodIn_p wsL_law0_r3 [608, 484, 488] rfl (by decide +kernel) w h).1
set_option maxRecDepth 100000 in
theorem mp_wsL_law0_r4 : ∀ w ∈ wsL_law0_r4, w ∈ lw_tbl := fun w h => (goodIn_p wsL_law0_r4 [491, 496, 502, 465] rfl (by decide +kernel) w h).1
set_option maxRecDepth 100000 in
theorem mp_wsL_law0_r5 : ∀ w ∈ wsL_law0_r5, w ∈ lw_tbl := fun w h => (goodIn_p wsL_law0_r5 [522, 256, 239, 527, 347, 422, 426] rfl (by decide +kernel) w h).1
set_option maxRecDepth 100000 in
theorem mp_wsL_law0_r6 : ∀ w ∈ wsL_law0_r6, w ∈ lw_tbl := fun w h => (goodIn_p wsL_law0_r6 [534, 567, 247, 355, 264] rfl (by decide +kernel) w h).1
set_option maxRecDepth 100000 in
theorem mp_wsL_law0_r7 : ∀ w ∈ wsL_law0_r7, w ∈ lw_tbl := fun w h => (goodIn_p wsL_law0_r7 [574, 578, 148, 229, 232, 236, 359] rfl (by decide +kernel) w h).1
