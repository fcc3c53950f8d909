-- pure part 9: what changes the guideway at once: copy, build, pod, ride, send
theorem isIn_y {x a b : Int32} (h1 : ¬ x < a) (h2 : ¬ b < x) : f_X2_isIn x a b = some 1 := by
  unfold f_X2_isIn
  rw [if_neg h1, if_neg h2]
theorem isIn_n {x a b : Int32} (h : x < a ∨ b < x) : f_X2_isIn x a b = some 0 := by
  unfold f_X2_isIn
  by_cases c : x < a
  · rw [if_pos c]
  · rw [if_neg c, if_pos (h.resolve_left c)]
theorem pred_lt {n j : Nat} (hn : n < 2 ^ 20) (h : j < n) : ¬ nI n - 1 < nI j := by
  obtain ⟨m, rfl⟩ : ∃ m, n = m + 1 := ⟨n - 1, by omega⟩
  rw [nI_pred]
  exact nI_nlt (by omega) (by omega)
theorem pred_ge {n : Nat} {x : Int32} (hn : n < 2 ^ 20) (h : nI n ≤ x) : nI n - 1 < x := by
  rw [Int32.le_iff_toInt_le, nI_toInt (by omega)] at h
  rw [Int32.lt_iff_toInt_lt, show (1 : Int32) = nI 1 from by decide, pk_sub_toInt (by omega) (by omega)]
  omega
/-- a number of n things: it is one of them, or both say no -/
theorem need_cases {n : Nat} (hn : n < 2 ^ 20) (x : Int32) : (∃ j, j < n ∧ x = nI j ∧ ¬ x < 0 ∧ x < nI n ∧ f_X2_isIn x 0 (nI n - 1) = some 1) ∨ ((x < 0 ∨ (¬ x < 0 ∧ ¬ x < nI n)) ∧ f_X2_isIn x 0 (nI n - 1) = some 0) := by
  rcases pk_ix x (n := n) (by omega) with h | h | ⟨j, h1, h2⟩
  · exact Or.inr ⟨Or.inl h, isIn_n (Or.inl h)⟩
  · by_cases c : x < 0
    · exact Or.inr ⟨Or.inl c, isIn_n (Or.inl c)⟩
    · exact Or.inr ⟨Or.inr ⟨c, i32_nlt.mpr h⟩, isIn_n (Or.inr (pred_ge hn h))⟩
  · subst h2
    exact Or.inl ⟨j, h1, rfl, nI_pos (by omega), nI_lt h1 (by omega), isIn_y (nI_pos (by omega)) (pred_lt hn h1)⟩
def IOOB : String := "java/lang/IndexOutOfBoundsException"
theorem obx_y {α : Type} {k : Option (Except String α)} : obx (some (.ok ())) k = k := rfl
theorem obx_n {α : Type} {E : String} {k : Option (Except String α)} : obx (some (.error E)) k = some (.error E) := rfl
theorem okx_v {α : Type} {v : α} : okx (some v) = some (.ok v) := rfl
theorem ob2_v {α β γ : Type} {a : α} {b : β} {k : α → β → Option γ} : ob2 (some (a, b)) k = k a b := rfl
section PURS
variable {mk : Option Nat} {α : AS} {S T M : RS}
theorem n_st (hA : AI α) (h : RC α S) (hm : RM mk α M) (x : Int32) : (∃ j, j < nn α 0 ∧ x = nI j ∧ f_X1_needStation S T x = some (.ok ()) ∧ f_X2_isStation M x = some 1) ∨ (f_X1_needStation S T x = some (.error "java/lang/IndexOutOfBoundsException") ∧ f_X2_isStation M x = some 0) := by
  have h6 := A_ns hA
  unfold f_X1_needStation f_X2_isStation
  rw [C_ns h, M_ns hm]
  rcases need_cases (n := nn α 0) (by omega) x with ⟨j, h1, h2, h3, h4, h5⟩ | ⟨h1, h2⟩
  · rw [if_neg h3, if_pos h4, h5, ob_v]
    exact Or.inl ⟨j, h1, h2, rfl, rfl⟩
  · rw [h2, ob_v]
    refine Or.inr ⟨?_, rfl⟩
    rcases h1 with c | ⟨c, d⟩
    · rw [if_pos c]
    · rw [if_neg c, if_neg d]
theorem n_pod (hA : AI α) (h : RC α S) (hm : RM mk α M) (x : Int32) : (∃ j, j < nn α 1 ∧ x = nI j ∧ f_X1_needPod S T x = some (.ok ()) ∧ f_X2_isPod M x = some 1) ∨ (f_X1_needPod S T x = some (.error "java/lang/IndexOutOfBoundsException") ∧ f_X2_isPod M x = some 0) := by
  have h6 := A_np hA
  unfold f_X1_needPod f_X2_isPod
  rw [C_np h, M_np hm]
  rcases need_cases (n := nn α 1) (by omega) x with ⟨j, h1, h2, h3, h4, h5⟩ | ⟨h1, h2⟩
  · rw [if_neg h3, if_pos h4, h5, ob_v]
    exact Or.inl ⟨j, h1, h2, rfl, rfl⟩
  · rw [h2, ob_v]
    refine Or.inr ⟨?_, rfl⟩
    rcases h1 with c | ⟨c, d⟩
    · rw [if_pos c]
    · rw [if_neg c, if_neg d]
theorem n_pl (x : Int32) : (∃ j, j < 24 ∧ x = nI j ∧ f_X1_needPlace S T x = some (.ok ()) ∧ f_X2_isIn x 0 23 = some 1) ∨ (f_X1_needPlace S T x = some (.error "java/lang/IndexOutOfBoundsException") ∧ f_X2_isIn x 0 23 = some 0) := by
  unfold f_X1_needPlace
  rw [i32_24, show (23 : Int32) = nI 24 - 1 from by decide]
  rcases need_cases (n := 24) (by omega) x with ⟨j, h1, h2, h3, h4, h5⟩ | ⟨h1, h2⟩
  · rw [if_neg h3, if_pos h4, h5]
    exact Or.inl ⟨j, h1, h2, rfl, rfl⟩
  · rw [h2]
    refine Or.inr ⟨?_, rfl⟩
    rcases h1 with c | ⟨c, d⟩
    · rw [if_pos c]
    · rw [if_neg c, if_neg d]
theorem n_wh (x a b : Int32) : (¬ x < a ∧ x ≤ b ∧ f_X1_needWhat S T x a b = some (.ok ()) ∧ f_X2_isIn x a b = some 1) ∨ (f_X1_needWhat S T x a b = some (.error "java/lang/IndexOutOfBoundsException") ∧ f_X2_isIn x a b = some 0) := by
  unfold f_X1_needWhat
  by_cases c : x < a
  · rw [if_pos c]; exact Or.inr ⟨rfl, isIn_n (Or.inl c)⟩
  · rw [if_neg c]
    by_cases d : x ≤ b
    · rw [if_pos d]; exact Or.inl ⟨c, d, rfl, isIn_y c (i32_nlt.mpr d)⟩
    · rw [if_neg d]; exact Or.inr ⟨rfl, isIn_n (Or.inr (Int32.not_le.mp d))⟩
theorem n_mi (x : Int32) : (¬ x < 1 ∧ x ≤ 100 ∧ f_X1_needMinutes S T x = some (.ok ()) ∧ f_X2_isIn x 1 100 = some 1) ∨ (f_X1_needMinutes S T x = some (.error "java/lang/IllegalArgumentException") ∧ f_X2_isIn x 1 100 = some 0) := by
  unfold f_X1_needMinutes
  by_cases c : x < 1
  · rw [if_pos c]; exact Or.inr ⟨rfl, isIn_n (Or.inl c)⟩
  · rw [if_neg c]
    by_cases d : x ≤ 100
    · rw [if_pos d]; exact Or.inl ⟨c, d, rfl, isIn_y c (i32_nlt.mpr d)⟩
    · rw [if_neg d]; exact Or.inr ⟨rfl, isIn_n (Or.inr (Int32.not_le.mp d))⟩
-- a copy
theorem c_row {n : Nat} {f g : Nat → Int32} (hn : n < 100) : ∃ r, f_X0_copyRow n n f g = some r ∧ ∀ j, j < n → r j = f j := by
  refine ⟨va_cpy f g 0 0 n, ?_, va_cpy_all⟩
  unfold f_X0_copyRow
  rw [if_neg (show ¬ nI n < nI n from fun q => Int32.lt_irrefl q), if_neg (by
    rintro (c | c | c | c | c)
    · exact absurd c (by decide)
    · exact absurd c (by decide)
    · exact nI_pos (by omega) c
    · rw [nI_clamp (by omega), show (0 : Int32).toNatClampNeg = 0 from by decide] at c; omega
    · rw [nI_clamp (by omega), show (0 : Int32).toNatClampNeg = 0 from by decide] at c; omega), lt_e, nI_clamp (by omega)]
  rfl
theorem C_copy (hA : AI α) (h : RC α S) : ∃ T', f_X0_copyFrom T S = some T' ∧ RC α T' := by
  have hlen := A_len hA
  have h6 := A_ns hA
  unfold f_X0_copyFrom
  simp only [lt_e]
  obtain ⟨q0, e0, g0⟩ := c_row (n := 24) (f := S.2 0) (g := T.2 0) (by decide)
  obtain ⟨q1, e1, g1⟩ := c_row (n := 18) (f := S.2 1) (g := T.2 1) (by decide)
  obtain ⟨q2, e2, g2⟩ := c_row (n := 6) (f := S.2 2) (g := T.2 2) (by decide)
  obtain ⟨q3, e3, g3⟩ := c_row (n := 6) (f := S.2 3) (g := T.2 3) (by decide)
  obtain ⟨q4, e4, g4⟩ := c_row (n := 6) (f := S.2 4) (g := T.2 4) (by decide)
  obtain ⟨q5, e5, g5⟩ := c_row (n := 54) (f := S.2 5) (g := T.2 5) (by decide)
  obtain ⟨q6, e6, g6⟩ := c_row (n := 54) (f := S.2 6) (g := T.2 6) (by decide)
  obtain ⟨q7, e7, g7⟩ := c_row (n := 54) (f := S.2 7) (g := T.2 7) (by decide)
  obtain ⟨q8, e8, g8⟩ := c_row (n := 12) (f := S.2 8) (g := T.2 8) (by decide)
  obtain ⟨q9, e9, g9⟩ := c_row (n := 12) (f := S.2 9) (g := T.2 9) (by decide)
  obtain ⟨q10, e10, g10⟩ := c_row (n := 12) (f := S.2 10) (g := T.2 10) (by decide)
  refine ⟨_, (ob_e e0).trans ((ob_e e1).trans ((ob_e e2).trans ((ob_e e3).trans ((ob_e e4).trans ((ob_e e5).trans ((ob_e e6).trans ((ob_e e7).trans ((ob_e e8).trans ((ob_e e9).trans ((ob_e e10).trans rfl)))))))))), ?_⟩
  obtain ⟨h0, h1, h2, h3, h4, h5, r0, r1, r2, r3, r4, r5, r8, r9, r10⟩ := h
  refine ⟨h0, h1, h2, h3, h4, h5, fun x hx => (g0 x hx).trans (r0 x hx), fun x hx => (g1 x hx).trans (r1 x hx), fun x hx => (g2 x (by omega)).trans (r2 x hx), fun x hx => (g3 x hx).trans (r3 x hx), fun x hx => (g4 x hx).trans (r4 x hx), fun s k e hs he => ?_, fun x hx => (g8 x hx).trans (r8 x hx), fun x hx => (g9 x hx).trans (r9 x hx), fun x hx => (g10 x hx).trans (r10 x hx)⟩
  have hk : k < (qq α s).length := (List.getElem?_eq_some_iff.mp he).1
  have hls := hlen s
  obtain ⟨d5, d6, d7⟩ := r5 s k e hs he
  exact ⟨(g5 _ (by omega)).trans d5, (g6 _ (by omega)).trans d6, (g7 _ (by omega)).trans d7⟩
-- a new station
theorem C_build {j : Nat} (hA : AI α) (h : RC α S) (hn : nn α 0 < 6) : ∃ S', f_X0_addStation S (nI j) = some (nI (nn α 0), S') ∧ RC (aN (aN α (10 + nn α 0) j) 0 (nn α 0 + 1)) S' := by
  have en : ∀ k, k ≠ 0 → k ≠ 10 + nn α 0 → nn (aN (aN α (10 + nn α 0) j) 0 (nn α 0 + 1)) k = nn α k := fun k h1 h2 => by rw [nn_aN, if_neg h1, nn_aN, if_neg h2]
  unfold f_X0_addStation
  rw [C_ns h, c_write (by omega) (by decide), ob_v, lt_e, lt_e]
  refine ⟨_, rfl, ?_⟩
  obtain ⟨h0, h1, h2, h3, h4, h5, r0, r1, r2, r3, r4, r5, r8, r9, r10⟩ := h
  refine ⟨by rw [en 2 (by decide) (by omega)]; exact h0, ?_, by rw [en 1 (by decide) (by omega)]; exact h2, by rw [en 3 (by decide) (by omega)]; exact h3, h4, h5, r0, r1, fun s hs => ?_, r3, r4, r5, r8, r9, r10⟩
  · show S.1 1 + 1 = nI (nn α 0 + 1)
    rw [h1, nI_1]
  · have hs : s < nn α 0 + 1 := hs
    rw [nn_aN, if_neg (by omega), nn_aN]
    show (if s = nn α 0 then nI j else S.2 2 s) = _
    by_cases c : s = nn α 0
    · rw [if_pos c, if_pos (by omega)]
    · rw [if_neg c, if_neg (by omega)]; exact r2 s (by omega)
theorem M_build {j : Nat} (hA : AI α) (hm : RM mk α M) (hn : nn α 0 < 6) : RM mk (aN (aN α (10 + nn α 0) j) 0 (nn α 0 + 1)) (sI (mH M (nn α 0) 0 (nI j)) 1 (nI (nn α 0 + 1))) := by
  have en : ∀ k, k ≠ 0 → k ≠ 10 + nn α 0 → nn (aN (aN α (10 + nn α 0) j) 0 (nn α 0 + 1)) k = nn α k := fun k h1 h2 => by rw [nn_aN, if_neg h1, nn_aN, if_neg h2]
  obtain ⟨k1, k2, t0, t1, t2, t3, s0, s1, s2, qs, f3, f4, f5, f6, lc⟩ := hm
  have hh : ∀ s w, w < 3 → hl (sI (mH M (nn α 0) 0 (nI j)) 1 (nI (nn α 0 + 1))) s w = if s = nn α 0 ∧ w = 0 then nI j else hl M s w := fun s w hw => hl_mH (by decide) hw
  unfold RM
  rw [en 1 (by decide) (by omega), en 2 (by decide) (by omega)]
  refine ⟨⟨k1.1, rfl⟩, k2, t0, t1, t2, t3, fun s hs => ?_, fun s hs => by rw [hh s 1 (by decide), if_neg (fun q => absurd q.2 (by decide))]; exact s1 s hs, fun s hs => by rw [hh s 2 (by decide), if_neg (fun q => absurd q.2 (by decide))]; exact s2 s hs, qs, f3, f4, f5, f6, lc⟩
  have hs : s < nn α 0 + 1 := hs
  have hr : nn (aN (aN α (10 + nn α 0) j) 0 (nn α 0 + 1)) (10 + s) = if 10 + s = 10 + nn α 0 then j else nn α (10 + s) := by rw [nn_aN, if_neg (by omega), nn_aN]
  rw [hh s 0 (by decide), hr]
  by_cases c : s = nn α 0
  · rw [if_pos (show s = nn α 0 ∧ 0 = 0 from ⟨c, rfl⟩), if_pos (by omega)]
  · rw [if_neg (show ¬ (s = nn α 0 ∧ 0 = 0) from fun q => c q.1), if_neg (by omega)]; exact s0 s (by omega)
theorem c_sap (hA : AI α) (h : RC α S) {j : Nat} (hj : j < 24) : f_X0_stationAtPlace S (nI j) = some (oI (ffind (fun s => pl α s == j) 0 (nn α 0))) := by
  have h6 := A_ns hA
  unfold f_X0_stationAtPlace
  have := g_search (F := fun n i => f_X0_stationAtPlace_L2 S n (nI j) i) (P := fun s => pl α s == j) (r := fun p => nI p) (d := -1) (N := nn α 0) (fun n i hi => by
    show f_X0_stationAtPlace_L2 S (n + 1) (nI j) (nI i) = _
    have := A_pl hA hi
    rw [f_X0_stationAtPlace_L2, C_ns h, if_neg (nI_ge hi (by omega)), c_place hA h hi, ob_v, nI_1]
    by_cases e : pl α i = j
    · rw [if_pos (by rw [e]), if_pos (by simp [e])]
    · rw [if_neg (fun q => e (nI_inj (by omega) (by omega) q)), if_neg (by simpa using e)])
    (fun n => by
      show f_X0_stationAtPlace_L2 S (n + 1) (nI j) (nI (nn α 0)) = _
      rw [f_X0_stationAtPlace_L2, C_ns h, if_pos (nI_le (Nat.le_refl _) (by omega))]) (nn α 0) 0 FU (by omega) (by unfold FU; omega)
  rw [nI_0] at this
  rw [this]
  cases ffind (fun s => pl α s == j) 0 (nn α 0) <;> rfl
theorem m_bL (hA : AI α) (hm : RM mk α M) {j : Nat} (hj : j < 24) : ∀ k i n b, i + k = nn α 0 → k < n → f_X2_build_L25 n (nI j) (bI b) (nI i) M = if nn α 0 = 6 then some (0, sI M 0 2) else if (b || (ffind (fun s => pl α s == j) i k).isSome) = false then some (nI (nn α 0), sI (mH M (nn α 0) 0 (nI j)) 1 (nI (nn α 0 + 1))) else some (0, sI M 0 2) := by
  have h6 := A_ns hA
  intro k
  induction k with
  | zero =>
    intro i n b h1 h2
    obtain ⟨m, rfl⟩ : ∃ m, n = m + 1 := ⟨n - 1, by omega⟩
    rw [f_X2_build_L25, M_ns hm, if_pos (nI_le (by omega) (by omega))]
    by_cases c : nn α 0 = 6
    · rw [if_pos c, c, if_pos (by decide)]; rfl
    · rw [if_neg c, if_neg (show ¬ nI (nn α 0) = 6 from fun q => c (nI_inj (by omega) (by decide) (show nI (nn α 0) = nI 6 from q)))]
      cases b with
      | true => rw [if_neg (show ¬ bI true = 0 from by decide)]; rfl
      | false =>
        rw [if_pos (show bI false = 0 from rfl), show (3 * nI (nn α 0)) + 0 = nI (3 * nn α 0 + 0) from x3 _ 0, if_neg (nI_bad (by omega) (by decide)), nI_clamp (by omega), lt_e, lt_e]
        show some (M.1 1 + 1 - 1, sI (mH M (nn α 0) 0 (nI j)) 1 (M.1 1 + 1)) = some (nI (nn α 0), sI (mH M (nn α 0) 0 (nI j)) 1 (nI (nn α 0 + 1)))
        rw [M_ns hm, nI_1, nI_pred]
  | succ k ih =>
    intro i n b h1 h2
    obtain ⟨m, rfl⟩ : ∃ m, n = m + 1 := ⟨n - 1, by omega⟩
    have hp := A_pl hA (show i < nn α 0 by omega)
    rw [f_X2_build_L25, M_ns hm, if_neg (nI_ge (by omega) (by omega)), nI_1]
    cases b with
    | true =>
      rw [if_neg (show ¬ bI true = 0 from by decide)]
      exact ih (i + 1) m true (by omega) (by omega)
    | false =>
      rw [if_pos (show bI false = 0 from rfl), m_st0 (by omega), ob_v, M_h0 hm (by omega), ffind]
      by_cases c : pl α i = j
      · rw [if_pos (by rw [c]), if_pos (show (pl α i == j) = true by simp [c])]
        exact ih (i + 1) m true (by omega) (by omega)
      · rw [if_neg (fun q => c (nI_inj (by omega) (by omega) q)), if_neg (show ¬ (pl α i == j) = true by simpa using c)]
        exact ih (i + 1) m false (by omega) (by omega)
-- a new pod
theorem C_pod {s b : Nat} (hA : AI α) (h : RC α S) (hs : s < 6) (hn : nn α 1 < 12) (hb : fb α s 0 = some b) : ∃ S', f_X0_addPod S (nI s) = some (nI (nn α 1), S') ∧ RC (aN (aO α 1 (3 * s + b) (some (nn α 1))) 1 (nn α 1 + 1)) S' := by
  obtain ⟨hb3, _, _⟩ := fb_some hb
  have h1 := RC1 (x := 3 * s + b) (v := some (nn α 1)) h
  simp only [oI_some] at h1
  unfold f_X0_addPod
  rw [c_first0 hA h hs, ob_v, hb, show bI3 s (some b) = nI (3 * s + b) from rfl, C_np h, c_write (by omega) (by decide), ob_v, lt_e, lt_e]
  refine ⟨_, rfl, ?_⟩
  obtain ⟨h0, k1, h2, h3, h4, h5, r0, r1, r2, r3, r4, r5, r8, r9, r10⟩ := h1
  refine ⟨h0, k1, ?_, h3, h4, h5, r0, r1, fun s hs => ?_, r3, r4, r5, r8, r9, r10⟩
  · show S.1 2 + 1 = nI (nn α 1 + 1)
    rw [C_np h, nI_1]
  · rw [nn_aN, if_neg (by omega)]; exact r2 s hs
def pRow (s b : Nat) : Nat → Int32 := upd (upd (upd (upd (upd (upd (upd (fun _ => 0) 0 (-1)) 1 (nI s)) 2 (nI b)) 3 (-1)) 4 0) 5 0) 6 0
theorem M_pod {s b : Nat} (hA : AI α) (hm : RM mk α M) (hs : s < 6) (hn : nn α 1 < 12) (hb : b < 3) (hc : oo α 1 (3 * s + b) = none) : RM mk (aN (aO α 1 (3 * s + b) (some (nn α 1))) 1 (nn α 1 + 1)) (sI (sR M 0 (va_cpy (pRow s b) (M.2 0) 0 (7 * nn α 1) 7)) 2 (nI (nn α 1 + 1))) := by
  have z := A_z hA (Nat.le_refl (nn α 1))
  have z2 : oo α 2 (nn α 1) = none := by
    cases e : oo α 2 (nn α 1) with
    | none => rfl
    | some g => have := (A_2 hA e).2; omega
  have z3 := A_23 hA z2
  have hlc : ∀ y, y < nn α 1 → LOC α M y := fun y hy => M_lc hm hy
  obtain ⟨k1, k2, t0, t1, t2, t3, s0, s1, s2, qs, f3, f4, f5, f6, lc⟩ := hm
  have hw : ∀ p w, w < 7 → fl (sI (sR M 0 (va_cpy (pRow s b) (M.2 0) 0 (7 * nn α 1) 7)) 2 (nI (nn α 1 + 1))) p w = if p = nn α 1 then pRow s b w else fl M p w := fun p w hw => by
    show va_cpy (pRow s b) (M.2 0) 0 (7 * nn α 1) 7 (7 * p + w) = _
    by_cases c : p = nn α 1
    · rw [if_pos c, pk_cpy_in (by omega) (by omega)]
      congr 1
      omega
    · rw [if_neg c, pk_cpy_out (by omega)]; rfl
  refine ⟨k1, rfl, t0, t1, t2, t3, fun s hs => ?_, s1, s2, qs, fun p hp => ?_, fun p hp => ?_, fun p hp => ?_, fun p hp => ?_, fun p hp => ?_⟩
  · rw [nn_aN, if_neg (by omega)]; exact s0 s hs
  · have hp : p < nn α 1 + 1 := hp
    rw [hw p 3 (by decide)]
    by_cases c : p = nn α 1
    · rw [if_pos c, c]; show (-1 : Int32) = oI (oo α 2 (nn α 1)); rw [z2]; rfl
    · rw [if_neg c]; exact f3 p (by omega)
  · have hp : p < nn α 1 + 1 := hp
    rw [hw p 4 (by decide)]
    by_cases c : p = nn α 1
    · rw [if_pos c, c]; show (0 : Int32) = rk mk (oo α 3 (nn α 1)); rw [z3]; rfl
    · rw [if_neg c]; exact f4 p (by omega)
  · have hp : p < nn α 1 + 1 := hp
    rw [hw p 5 (by decide)]
    by_cases c : p = nn α 1
    · rw [if_pos c, c]; exact z.1.symm
    · rw [if_neg c]; exact f5 p (by omega)
  · have hp : p < nn α 1 + 1 := hp
    rw [hw p 6 (by decide)]
    by_cases c : p = nn α 1
    · rw [if_pos c, c]; exact z.2.symm
    · rw [if_neg c]; exact f6 p (by omega)
  · have hp : p < nn α 1 + 1 := hp
    unfold LOC
    rw [hw p 0 (by decide), hw p 1 (by decide), hw p 2 (by decide)]
    by_cases c : p = nn α 1
    · rw [if_pos c, if_pos c, if_pos c, c]
      refine Or.inr ⟨s, b, hs, hb, ?_, rfl, rfl, rfl⟩
      rw [oo_aN, oo_aO, if_pos ⟨rfl, rfl⟩]
    · rw [if_neg c, if_neg c, if_neg c]
      rcases hlc p (by omega) with ⟨y, a1, a2, a3, a4, a5⟩ | ⟨s3, b3, a1, a2, a3, a4, a5, a6⟩
      · exact Or.inl ⟨y, a1, a2, a3, a4, a5⟩
      · refine Or.inr ⟨s3, b3, a1, a2, ?_, a4, a5, a6⟩
        rw [oo_aN, oo_aO, if_neg (fun q => by rw [q.2, hc] at a3; cases a3)]
        exact a3
-- a new rider
def aPush (s g : Nat) (α : AS) : AS := aN (aQ α s (qq α s ++ [(g, nn α 2, nn α 3)])) 3 (nn α 3 + 1)
theorem C_push {s g : Nat} (hA : AI α) (h : RC α S) (hs : s < 6) (hl9 : (qq α s).length < 9) : ∃ S', f_X0_addRider S (nI s) (nI g) = some (nI (nn α 3), S') ∧ RC (aPush s g α) S' := by
  have hlen := A_len hA
  unfold f_X0_addRider
  rw [c_wait hA h hs, ob_v, i9s, nI_add, c_write (by omega) (by decide), ob_v, lt_e, c_write (by omega) (by decide), ob_v, lt_e, c_write (by omega) (by decide), ob_v, lt_e]
  have hw : ∀ X : RS, X.2 4 = S.2 4 → f_X0_waitingAt X (nI s) = some (nI (qq α s).length) := fun X hX => by
    have e := c_wait hA h hs
    unfold f_X0_waitingAt at e ⊢
    rw [hX]
    exact e
  have hw2 : ∀ f g k, f_X0_waitingAt (sR (sR (sR S 5 f) 6 g) 7 k) (nI s) = some (nI (qq α s).length) := fun f g k => hw _ rfl
  rw [hw2, ob_v, c_write hs (by decide), ob_v, lt_e, lt_e, C_nr h]
  refine ⟨_, rfl, ?_⟩
  obtain ⟨h0, h1, h2, h3, h4, h5, r0, r1, r2, r3, r4, r5, r8, r9, r10⟩ := h
  refine ⟨h0, h1, h2, ?_, h4, h5, r0, r1, fun s hs => ?_, r3, fun s2 hs2 => ?_, fun s2 k e hs2 he => ?_, r8, r9, r10⟩
  · show S.1 3 + 1 = nI (nn α 3 + 1)
    rw [h3, nI_1]
  · unfold aPush
    rw [nn_aN, if_neg (by omega)]; exact r2 s hs
  · show (if s2 = s then nI (qq α s).length + 1 else S.2 4 s2) = nI (if s2 = s then qq α s ++ [(g, nn α 2, nn α 3)] else qq α s2).length
    by_cases c : s2 = s
    · rw [if_pos c, if_pos c, List.length_append, nI_1]; rfl
    · rw [if_neg c, if_neg c]; exact r4 s2 hs2
  · have he2 : (if s2 = s then qq α s ++ [(g, nn α 2, nn α 3)] else qq α s2)[k]? = some e := he
    show (if 9 * s2 + k = 9 * s + (qq α s).length then nI (nn α 3) else S.2 5 (9 * s2 + k)) = nI e.2.2 ∧ (if 9 * s2 + k = 9 * s + (qq α s).length then nI g else S.2 6 (9 * s2 + k)) = nI e.1 ∧ (if 9 * s2 + k = 9 * s + (qq α s).length then S.1 0 else S.2 7 (9 * s2 + k)) = nI e.2.1
    by_cases c : s2 = s
    · rw [if_pos c] at he2
      rw [c]
      by_cases d : k < (qq α s).length
      · rw [List.getElem?_append_left d] at he2
        rw [if_neg (by omega), if_neg (by omega), if_neg (by omega)]
        exact r5 s k e hs he2
      · rw [List.getElem?_append_right (by omega)] at he2
        have hk : k - (qq α s).length = 0 := by
          have := (List.getElem?_eq_some_iff.mp he2).1
          have : k - (qq α s).length < 1 := this
          omega
        rw [hk] at he2
        have e2 := Option.some.inj he2
        rw [if_pos (by omega), if_pos (by omega), if_pos (by omega), h0, ← e2]
        exact ⟨rfl, rfl, rfl⟩
    · rw [if_neg c] at he2
      have hk : k < (qq α s2).length := (List.getElem?_eq_some_iff.mp he2).1
      have := hlen s2
      rw [if_neg (by omega), if_neg (by omega), if_neg (by omega)]
      exact r5 s2 k e hs2 he2
theorem M_push {s g : Nat} (hA : AI α) (hm : RM mk α M) (hs : s < 6) (hl9 : (qq α s).length < 9) : ∃ M', f_X2_line M (nI s) (nI g) (mkI mk (nn α 3)) = some M' ∧ RM mk (aPush s g α) M' ∧ M'.2 1 (3 * s + 1) = nI ((qq α s).length + 1) ∧ (∀ j, M'.2 3 j = M.2 3 j) := by
  have hlen := A_len hA
  have x1 : 3 * ((9 * nI s) + nI (qq α s).length) = nI (27 * s + 3 * (qq α s).length) := by rw [x9, i32_3, pk_mul]; congr 1; omega
  have hcp : ¬ cpbad 0 (3 * ((9 * nI s) + nI (qq α s).length)) 3 3 162 := by
    rw [x1]
    rintro (c | c | c | c | c)
    · exact absurd c (by decide)
    · exact nI_pos (by omega) c
    · exact absurd c (by decide)
    · exact absurd c (by decide)
    · rw [nI_clamp (by omega), show (3 : Int32).toNatClampNeg = 3 from by decide] at c; omega
  unfold f_X2_line
  rw [lt_e, lt_e, lt_e, m_st1 hs, ob_v, M_h1 hm hs, if_neg hcp, lt_e, ix1, if_neg (nI_bad (by omega) (by decide)), if_neg (nI_bad (by omega) (by decide)), nI_clamp (by omega), lt_e, x1, nI_clamp (by omega)]
  have hl1 : M.2 1 (3 * s + 1) = nI (qq α s).length := M_h1 hm hs
  have hz : ∀ f, (sR M 2 f).2 1 = M.2 1 := fun f => rfl
  rw [hz, hl1, nI_1]
  refine ⟨_, rfl, ?_, ?_, fun j => rfl⟩
  · obtain ⟨k1, k2, t0, t1, t2, t3, s0, s1, s2, qs, f3, f4, f5, f6, lc⟩ := hm
    refine ⟨k1, k2, t0, t1, t2, t3, fun s3 h3 => ?_, fun s3 h3 => ?_, fun s3 h3 => ?_, fun s3 k e h3 he => ?_, f3, f4, f5, f6, lc⟩
    · unfold aPush
      rw [nn_aN, if_neg (by omega)]
      show (if 3 * s3 + 0 = 3 * s + 1 then _ else M.2 1 (3 * s3 + 0)) = _
      rw [if_neg (by omega)]
      exact s0 s3 h3
    · show (if 3 * s3 + 1 = 3 * s + 1 then nI ((qq α s).length + 1) else M.2 1 (3 * s3 + 1)) = nI (if s3 = s then qq α s ++ [(g, nn α 2, nn α 3)] else qq α s3).length
      by_cases c : s3 = s
      · rw [if_pos (by omega), if_pos c, List.length_append]; rfl
      · rw [if_neg (by omega), if_neg c]; exact s1 s3 h3
    · show (if 3 * s3 + 2 = 3 * s + 1 then _ else M.2 1 (3 * s3 + 2)) = _
      rw [if_neg (by omega)]
      exact s2 s3 h3
    · have he2 : (if s3 = s then qq α s ++ [(g, nn α 2, nn α 3)] else qq α s3)[k]? = some e := he
      have hy : ∀ w, w < 3 → pp (sR (sR M 2 (va_cpy (upd (upd (upd (fun _ => 0) (0 : Int32).toNatClampNeg (nI g)) (1 : Int32).toNatClampNeg 0) (2 : Int32).toNatClampNeg (mkI mk (nn α 3))) (M.2 2) (0 : Int32).toNatClampNeg (27 * s + 3 * (qq α s).length) (3 : Int32).toNatClampNeg)) 1 (upd (M.2 1) (3 * s + 1) (nI ((qq α s).length + 1)))) s3 k w = if 9 * s3 + k = 9 * s + (qq α s).length then (upd (upd (upd (fun _ => 0) 0 (nI g)) 1 0) 2 (mkI mk (nn α 3))) w else pp M s3 k w := fun w hw => by
        show va_cpy (upd (upd (upd (fun _ => 0) 0 (nI g)) 1 0) 2 (mkI mk (nn α 3))) (M.2 2) 0 (27 * s + 3 * (qq α s).length) 3 (3 * (9 * s3 + k) + w) = _
        by_cases c : 9 * s3 + k = 9 * s + (qq α s).length
        · rw [if_pos c, pk_cpy_in (by omega) (by omega), show 0 + (3 * (9 * s3 + k) + w - (27 * s + 3 * (qq α s).length)) = w from by omega]
        · rw [if_neg c, pk_cpy_out (by omega)]; rfl
      refine ⟨(hy 0 (by decide)).trans ?_, (hy 1 (by decide)).trans ?_, (hy 2 (by decide)).trans ?_⟩ <;> by_cases c : s3 = s
      all_goals first | rw [if_pos c] at he2 | rw [if_neg c] at he2
      all_goals first
        | (by_cases d : k < (qq α s).length
           · rw [List.getElem?_append_left d] at he2
             rw [if_neg (by omega), c]
             first | exact (qs s k e hs he2).1 | exact (qs s k e hs he2).2.1 | exact (qs s k e hs he2).2.2
           · rw [List.getElem?_append_right (by omega)] at he2
             have hk : k - (qq α s).length = 0 := by
               have := (List.getElem?_eq_some_iff.mp he2).1
               have : k - (qq α s).length < 1 := this
               omega
             rw [hk] at he2
             have e2 := Option.some.inj he2
             rw [if_pos (by omega), ← e2]
             first | rfl | exact (Int32.sub_self _).symm)
        | (have hk : k < (qq α s3).length := (List.getElem?_eq_some_iff.mp he2).1
           have := hlen s3
           rw [if_neg (by omega)]
           first | exact (qs s3 k e h3 he2).1 | exact (qs s3 k e h3 he2).2.1 | exact (qs s3 k e h3 he2).2.2)
  · show (if 3 * s + 1 = 3 * s + 1 then _ else _) = _
    rw [if_pos rfl]
/-- a number that nobody has may be marked -/
theorem RM_mark {r : Nat} (hA : AI α) (hm : RM none α M) (hr : nn α 3 ≤ r) : RM (some r) α M := by
  have hq : ∀ s e, e ∈ qq α s → e.2.2 < nn α 3 := fun s e he => (A_q hA he).2.2.1
  have h3 : ∀ p z, oo α 3 p = some z → z < nn α 3 := fun p z e => (A_3 hA e).1
  obtain ⟨k1, k2, t0, t1, t2, t3, s0, s1, s2, qs, f3, f4, f5, f6, lc⟩ := hm
  refine ⟨k1, k2, t0, t1, t2, t3, s0, s1, s2, fun s k e hs he => ?_, f3, fun p hp => ?_, f5, f6, lc⟩
  · obtain ⟨a, b, c⟩ := qs s k e hs he
    refine ⟨a, b, c.trans ?_⟩
    have := hq s e (List.mem_of_getElem? he)
    show (if none = some e.2.2 then (1 : Int32) else 0) = if some r = some e.2.2 then 1 else 0
    rw [if_neg (fun q => by cases q), if_neg (fun q => by have := Option.some.inj q; omega)]
  · rw [f4 p hp]
    cases e : oo α 3 p with
    | none => rfl
    | some z =>
      have := h3 p z e
      rw [rk_some, rk_some, if_neg (fun q => by cases q), if_neg (fun q => by have := Option.some.inj q; omega)]
theorem RM_set {x y : Int32} (hm : RM mk α M) : RM mk α (sI (sI M 0 x) 0 0) := ⟨⟨rfl, hm.1.2⟩, hm.2⟩
theorem RM_z (hm : RM mk α M) : RM mk α (sI M 0 0) := ⟨⟨rfl, hm.1.2⟩, hm.2⟩
end PURS
