set_option maxRecDepth 100000 in
theorem mp_wsL_law0_r8 : ∀ w ∈ wsL_law0_r8, w ∈ lw_tbl := fun w h => (goodIn_p wsL_law0_r8 [379, 382, 586, 590, 594, 268] rfl (by decide +kernel) w h).1
set_option maxRecDepth 100000 in
theorem mp_wsL_law0_r9 : ∀ w ∈ wsL_law0_r9, w ∈ lw_tbl := fun w h => (goodIn_p wsL_law0_r9 [600, 312, 316, 300, 337, 341] rfl (by decide +kernel) w h).1
set_option maxRecDepth 100000 in
theorem mp_wsL_law0_r10 : ∀ w ∈ wsL_law0_r10, w ∈ lw_tbl := fun w h => (goodIn_p wsL_law0_r10 [351, 308, 363, 367] rfl (by decide +kernel) w h).1
set_option maxRecDepth 100000 in
theorem mp_wsL_law0_r11 : ∀ w ∈ wsL_law0_r11, w ∈ lw_tbl := fun w h => (goodIn_p wsL_law0_r11 [280, 371, 272, 375, 386, 414] rfl (by decide +kernel) w h).1
set_option maxRecDepth 100000 in
theorem mp_wsL_law0_r12 : ∀ w ∈ wsL_law0_r12, w ∈ lw_tbl := fun w h => (goodIn_p wsL_law0_r12 [418, 430, 436, 440] rfl (by decide +kernel) w h).1
set_option maxRecDepth 100000 in
theorem mp_wsL_law0_r13 : ∀ w ∈ wsL_law0_r13, w ∈ lw_tbl := fun w h => (goodIn_p wsL_law0_r13 [284, 220, 288, 292, 296, 304] rfl (by decide +kernel) w h).1
set_option maxRecDepth 100000 in
theorem mp_wsL_law0_r14 : ∀ w ∈ wsL_law0_r14, w ∈ lw_tbl := fun w h => (goodIn_p wsL_law0_r14 [390, 395, 398, 401, 144, 225] rfl (by decide +kernel) w h).1
