-- pure part 10: the relation, and the calls that change the guideway
def PK (α : AS) (j : Nat) (S M : RS) : Prop := AI α ∧ RC α S ∧ RM none α (sI M 0 0) ∧ nn α 2 ≤ 100 * j ∧ nn α 3 ≤ j
def RelP (j : Nat) (S M : RS) : Prop := ∃ α, PK α j S M
theorem agE {cd : String → Int32} {α : AS} {j : Nat} {S M : RS} {x : Option (Except String (Int32 × RS × RS))} {y : Option (Int32 × RS)} {E : String} {c : Int32} (h : PK α j S M) (hx : x = some (.error E)) (hy : y = some (0, sI (sI M 0 0) 0 c)) (h1 : cd E = c) (h2 : c ≠ 0) : AgM cd (RelP (j + 1)) S x y :=
  Or.inr ⟨E, 0, _, hx, hy, h1.symm, fun q => h2 (h1.symm.trans q), α, h.1, h.2.1, ⟨⟨rfl, h.2.2.1.1.2⟩, h.2.2.1.2⟩, by have := h.2.2.2.1; omega, by have := h.2.2.2.2; omega⟩
theorem agER {cd : String → Int32} {α : AS} {j : Nat} {S M : RS} {x : Option (Except String Int32)} {y : Option (Int32 × RS)} {E : String} {c : Int32} (h : PK α j S M) (hx : x = some (.error E)) (hy : y = some (0, sI (sI M 0 0) 0 c)) (h1 : cd E = c) (h2 : c ≠ 0) : AgR cd (RelP (j + 1)) S x y :=
  Or.inr ⟨E, 0, _, hx, hy, h1.symm, fun q => h2 (h1.symm.trans q), α, h.1, h.2.1, ⟨⟨rfl, h.2.2.1.1.2⟩, h.2.2.1.2⟩, by have := h.2.2.2.1; omega, by have := h.2.2.2.2; omega⟩
theorem agK {cd : String → Int32} {α : AS} {j : Nat} {S S' T' M' : RS} {r : Int32} {x : Option (Except String (Int32 × RS × RS))} {y : Option (Int32 × RS)} (hx : x = some (.ok (r, S', T'))) (hy : y = some (r, M')) (hA : AI α) (hC : RC α S') (hM : RM none α M') (ht : nn α 2 ≤ 100 * (j + 1)) (hr : nn α 3 ≤ j + 1) : AgM cd (RelP (j + 1)) S x y :=
  Or.inl ⟨r, S', T', M', hx, hy, M_th hM, α, hA, hC, RM_z hM, ht, hr⟩
theorem agQ {cd : String → Int32} {α : AS} {j : Nat} {S M : RS} {r : Int32} {x : Option (Except String Int32)} {y : Option (Int32 × RS)} (h : PK α j S M) (hx : x = some (.ok r)) (hy : y = some (r, sI M 0 0)) : AgR cd (RelP (j + 1)) S x y :=
  Or.inl ⟨r, _, hx, hy, rfl, α, h.1, h.2.1, RM_z h.2.2.1, by have := h.2.2.2.1; omega, by have := h.2.2.2.2; omega⟩
theorem fail_v {S : RS} {c : Int32} : f_X2_fail S c = some (0, sI S 0 c) := rfl
section PURT
variable {α : AS} {j : Nat} {S T M : RS}
theorem a_build (h : PK α j S M) (hj : j < 600) (x : Int32) : AgM cdIS (RelP (j + 1)) S (f_X1_build S T x) (f_X2_build M x) := by
  obtain ⟨hA, hC, hM, ht, hr⟩ := id h
  have h6 := A_ns hA
  unfold f_X1_build f_X2_build
  rw [lt_e]
  rcases n_pl (S := S) (T := T) x with ⟨p, hp, rfl, e1, e2⟩ | ⟨e1, e2⟩
  · rw [e1, e2, obx_y, ob_v, if_neg (show ¬ (1 : Int32) = 0 from by decide), C_ns hC, c_sap hA hC hp]
    have hb := m_bL hA hM hp (nn α 0) 0 FU false (Nat.zero_add _) (by unfold FU; omega)
    rw [nI_0] at hb
    have hb : f_X2_build_L25 FU (nI p) 0 0 (sI M 0 0) = _ := hb
    rw [hb]
    by_cases c : nn α 0 = 6
    · rw [if_pos c, if_neg (show ¬ nI (nn α 0) < 6 from by rw [c]; decide)]
      exact agE h rfl rfl (by decide) (by decide)
    · rw [if_neg c, if_pos (show nI (nn α 0) < 6 from by rw [show (6 : Int32) = nI 6 from by decide]; exact nI_lt (by omega) (by omega)), ob_v, Bool.false_or]
      cases e : ffind (fun s => pl α s == p) 0 (nn α 0) with
      | some z =>
        have := (ffind_some e).2.1
        rw [oI_some, if_neg (nI_ne_m1 (by omega)), if_neg (by simp)]
        exact agE h rfl rfl (by decide) (by decide)
      | none =>
        rw [oI_none, if_pos rfl, if_pos (show (none : Option Nat).isSome = false from rfl)]
        obtain ⟨S', q1, q2⟩ := C_build (j := p) hA hC (by omega)
        rw [q1, ob2_v, okx_v]
        exact agK rfl rfl (AI_build hA (by omega) hp) q2 (M_build hA hM (by omega)) (by rw [nn_aN, if_neg (by decide), nn_aN, if_neg (by omega)]; omega) (by rw [nn_aN, if_neg (by decide), nn_aN, if_neg (by omega)]; omega)
  · rw [e1, e2, obx_n, ob_v, if_pos rfl]
    exact agE h rfl rfl (by decide) (by decide)
theorem a_pod (h : PK α j S M) (hj : j < 600) (x : Int32) : AgM cdIS (RelP (j + 1)) S (f_X1_pod S T x) (f_X2_pod M x) := by
  obtain ⟨hA, hC, hM, ht, hr⟩ := id h
  have h6 := A_ns hA
  have h12 := A_np hA
  unfold f_X1_pod f_X2_pod
  rw [lt_e]
  rcases n_st (T := T) hA hC hM x with ⟨s, hs, rfl, e1, e2⟩ | ⟨e1, e2⟩
  · rw [e1, e2, obx_y, ob_v, if_neg (show ¬ (1 : Int32) = 0 from by decide), C_np hC, M_np hM]
    by_cases c : nn α 1 = 12
    · rw [if_neg (show ¬ nI (nn α 1) < 12 from by rw [c]; decide), if_pos (show nI (nn α 1) = 12 from by rw [c]; rfl)]
      exact agE h rfl rfl (by decide) (by decide)
    · rw [if_pos (show nI (nn α 1) < 12 from by rw [show (12 : Int32) = nI 12 from by decide]; exact nI_lt (by omega) (by omega)), if_neg (show ¬ nI (nn α 1) = 12 from fun q => c (nI_inj (by omega) (by decide) (show nI (nn α 1) = nI 12 from q))), c_first0 hA hC (by omega), ob_v, m_free hA hM (by omega), ob_v]
      cases e : fb α s 0 with
      | none =>
        rw [show bI3 s none = -1 from rfl, if_pos rfl, oI_none, if_pos rfl]
        exact agE h rfl rfl (by decide) (by decide)
      | some b =>
        obtain ⟨hb, hk, _⟩ := fb_some e
        obtain ⟨S', q1, q2⟩ := C_pod hA hC (by omega) (by omega) e
        rw [show bI3 s (some b) = nI (3 * s + b) from rfl, if_neg (nI_ne_m1 (by omega)), oI_some, if_neg (nI_ne_m1 (by omega)), q1, ob2_v, okx_v]
        simp only [lt_e, ob_v]
        have x1 : 7 * nI (nn α 1) = nI (7 * nn α 1) := by rw [show (7 : Int32) = nI 7 from by decide, pk_mul]
        have hcp : ¬ cpbad 0 (7 * nI (nn α 1)) 7 7 84 := by
          rw [x1]
          rintro (c | c | c | c | c)
          · exact absurd c (by decide)
          · exact nI_pos (by omega) c
          · exact absurd c (by decide)
          · exact absurd c (by decide)
          · rw [nI_clamp (by omega), show (7 : Int32).toNatClampNeg = 7 from by decide] at c; omega
        rw [if_neg hcp, x1, nI_clamp (by omega)]
        have hP := M_pod hA hM (show s < 6 by omega) (show nn α 1 < 12 by omega) hb (kd_e0 hk)
        have hn2 : (sI M 0 0).1 2 = nI (nn α 1) := M_np hM
        refine agK rfl ?_ (AI_pod hA (by omega) (kd_e0 hk) (by omega) (by omega)) q2 hP (by rw [nn_aN, if_neg (by decide)]; show nn α 2 ≤ _; omega) (by rw [nn_aN, if_neg (by decide)]; show nn α 3 ≤ _; omega)
        show some ((sI M 0 0).1 2 + 1 - 1, sI (sR (sI M 0 0) 0 (va_cpy (pRow s b) ((sI M 0 0).2 0) 0 (7 * nn α 1) 7)) 2 ((sI M 0 0).1 2 + 1)) = _
        rw [hn2, nI_1, nI_pred]
  · rw [e1, e2, obx_n, ob_v, if_pos rfl]
    exact agE h rfl rfl (by decide) (by decide)
theorem n_two (hA : AI α) (hC : RC α S) (hm : RM none α M) (x y : Int32) : (∃ s g, s < nn α 0 ∧ g < nn α 0 ∧ g ≠ s ∧ x = nI s ∧ y = nI g ∧ f_X1_needTwoStations S T x y = some (.ok ()) ∧ f_X2_isStation M x = some 1 ∧ f_X2_isStation M y = some 1) ∨ (f_X1_needTwoStations S T x y = some (.error "java/lang/IndexOutOfBoundsException") ∧ (f_X2_isStation M x = some 0 ∨ (f_X2_isStation M x = some 1 ∧ f_X2_isStation M y = some 0))) ∨ (x = y ∧ f_X1_needTwoStations S T x y = some (.error "java/lang/IllegalArgumentException") ∧ f_X2_isStation M x = some 1 ∧ f_X2_isStation M y = some 1) := by
  have h6 := A_ns hA
  unfold f_X1_needTwoStations
  rcases n_st (T := T) hA hC hm x with ⟨s, hs, rfl, e1, e2⟩ | ⟨e1, e2⟩
  · rw [e1, obx_y]
    rcases n_st (T := T) hA hC hm y with ⟨g, hg, rfl, e3, e4⟩ | ⟨e3, e4⟩
    · rw [e3, obx_y]
      by_cases c : s = g
      · subst c
        rw [if_pos rfl]
        exact Or.inr (Or.inr ⟨rfl, rfl, e2, e4⟩)
      · rw [if_neg (fun q => c (nI_inj (by omega) (by omega) q))]
        exact Or.inl ⟨s, g, hs, hg, fun q => c q.symm, rfl, rfl, rfl, e2, e4⟩
    · rw [e3, obx_n]
      exact Or.inr (Or.inl ⟨rfl, Or.inr ⟨e2, e4⟩⟩)
  · rw [e1, obx_n]
    exact Or.inr (Or.inl ⟨rfl, Or.inl e2⟩)
theorem a_ride (h : PK α j S M) (hj : j < 600) (x y : Int32) : AgM cdIAS (RelP (j + 1)) S (f_X1_ride S T x y) (f_X2_ride M x y) := by
  obtain ⟨hA, hC, hM, ht, hr⟩ := id h
  have h6 := A_ns hA
  unfold f_X1_ride f_X2_ride
  rw [lt_e]
  rcases n_two (T := T) hA hC hM x y with ⟨s, g, hs, hg, hne, rfl, rfl, e1, e2, e3⟩ | ⟨e1, e2⟩ | ⟨e0, e1, e2, e3⟩
  · have hl9 := A_len hA s
    rw [e1, obx_y, e2, ob_v, if_neg (show ¬ (1 : Int32) = 0 from by decide), e3, ob_v, if_neg (show ¬ (1 : Int32) = 0 from by decide), if_neg (fun q => hne (nI_inj (by omega) (by omega) q).symm), c_wait hA hC (by omega), ob_v, m_st1 (by omega), ob_v, M_h1 hM (by omega)]
    by_cases c : (qq α s).length = 9
    · rw [c, if_neg (by decide), if_pos (by decide)]
      exact agE h rfl rfl (by decide) (by decide)
    · rw [if_pos (show nI (qq α s).length < 9 from by rw [i32_9]; exact nI_lt (by omega) (by omega)), if_neg (show ¬ nI (qq α s).length = 9 from fun q => c (nI_inj (by omega) (by decide) (show nI (qq α s).length = nI 9 from q)))]
      obtain ⟨S', q1, q2⟩ := C_push (s := s) (g := g) hA hC (by omega) (by omega)
      obtain ⟨M', q3, q4, q5, _⟩ := M_push (s := s) (g := g) hA hM (by omega) (by omega)
      have q3 : f_X2_line (sI M 0 0) (nI s) (nI g) 0 = some M' := q3
      have hA' := AI_push (s := s) (g := g) hA hs hg hne (by omega) (by omega)
      have hA' : AI (aPush s g α) := hA'
      have e9 : (qq (aPush s g α) s).length = (qq α s).length + 1 := by
        show (if s = s then qq α s ++ [(g, nn α 2, nn α 3)] else qq α s).length = _
        rw [if_pos rfl, List.length_append]; rfl
      rw [q1, ob2_v, c_wait hA' q2 (by omega), ob_v, okx_v, q3, ob_v, m_st1 (by omega), ob_v, M_h1 q4 (by omega)]
      exact agK rfl rfl hA' q2 q4 (by unfold aPush; rw [nn_aN, if_neg (by decide)]; show nn α 2 ≤ _; omega) (by unfold aPush; rw [nn_aN, if_pos rfl]; omega)
  · rw [e1, obx_n]
    rcases e2 with e2 | ⟨e2, e3⟩
    · rw [e2, ob_v, if_pos rfl]
      exact agE h rfl rfl (by decide) (by decide)
    · rw [e2, ob_v, if_neg (show ¬ (1 : Int32) = 0 from by decide), e3, ob_v, if_pos rfl]
      exact agE h rfl rfl (by decide) (by decide)
  · rw [e1, obx_n, e2, ob_v, if_neg (show ¬ (1 : Int32) = 0 from by decide), e3, ob_v, if_neg (show ¬ (1 : Int32) = 0 from by decide), if_pos e0]
    exact agE h rfl rfl (by decide) (by decide)
theorem a_send (h : PK α j S M) (hj : j < 600) (x y : Int32) : AgM cdIS (RelP (j + 1)) S (f_X1_send S T x y) (f_X2_send M x y) := by
  obtain ⟨hA, hC, hM, ht, hr⟩ := id h
  have h6 := A_ns hA
  have h12 := A_np hA
  unfold f_X1_send f_X2_send
  rw [lt_e]
  rcases n_pod (T := T) hA hC hM x with ⟨p, hp, rfl, e1, e2⟩ | ⟨e1, e2⟩
  · rw [e1, obx_y, e2, ob_v, if_neg (show ¬ (1 : Int32) = 0 from by decide)]
    rcases n_st (T := T) hA hC hM y with ⟨g, hg, rfl, e3, e4⟩ | ⟨e3, e4⟩
    · rw [e3, obx_y, e4, ob_v, if_neg (show ¬ (1 : Int32) = 0 from by decide), m_po1 (by omega), ob_v]
      rcases M_lc hM hp with ⟨y, a1, a2, a3, a4, a5⟩ | ⟨s, b, a1, a2, a3, a4, a5, a6⟩
      · rw [c_bof (o := none) hA hC (by omega) (fun c => ⟨fun e => absurd e (A_01 hA a2), fun e => by cases e⟩), ob_v, oI_none, if_pos rfl, a4, if_pos rfl]
        exact agE h rfl rfl (by decide) (by decide)
      · obtain ⟨_, _, hsn, _⟩ := A_1 hA a3
        have hs : s < nn α 0 := by omega
        rw [c_bof (o := some (3 * s + b)) hA hC (by omega) (fun c => ⟨fun e => by rw [A_11 hA a3 e], fun e => by rw [← Option.some.inj e]; exact a3⟩), ob_v, oI_some, if_neg (nI_ne_m1 (by omega)), a5, if_neg (nI_ne_m1 (by omega)), c_goal hC (by omega), ob_v, m_po3 (by omega), ob_v, M_f3 hM hp]
        cases e : oo α 2 p with
        | some z =>
          have := A_2 hA e
          rw [oI_some, if_neg (nI_ne_m1 (by omega)), if_neg (nI_ne_m1 (by omega))]
          exact agE h rfl rfl (by decide) (by decide)
        | none =>
          have hd : nI (3 * s + b) / 3 = nI s := by rw [i32_3, pk_div (by omega) (by omega) (by omega), show (3 * s + b) / 3 = s from by omega]
          rw [oI_none, if_pos rfl, if_pos rfl, hd, ob_v]
          by_cases c : s = g
          · rw [if_pos (by rw [c]), if_pos (by rw [c])]
            exact agE h rfl rfl (by decide) (by decide)
          · rw [if_neg (fun q => c (nI_inj (by omega) (by omega) q)), if_neg (fun q => c (nI_inj (by omega) (by omega) q))]
            have hA' := AI_g1 (p := p) (g := g) hA hg hp (fun c2 h2 => by have := A_11 hA a3 h2; omega)
            have r1 := RC8 (x := p) (v := some g) hC
            have r2 := RM3 (x := p) (v := some g) hM
            simp only [oI_some] at r1 r2
            unfold f_X0_setGoal
            rw [c_write (by omega) (by decide), ob_v, lt_e, ob_v, c_on hA' r1 hs hg, ob_v, okx_v, m_put3 (by omega), ob_v, m_po1 (by omega), ob_v, show fl (mF (sI M 0 0) p 3 (nI g)) p 1 = nI s from by rw [fl_mF (by decide) (by decide), if_neg (fun q => absurd q.2 (by decide))]; exact a5, m_on hA' r2 hs hg, ob_v]
            exact agK rfl rfl hA' r1 r2 (by show nn α 2 ≤ _; omega) (by show nn α 3 ≤ _; omega)
    · rw [e3, obx_n, e4, ob_v, if_pos rfl]
      exact agE h rfl rfl (by decide) (by decide)
  · rw [e1, obx_n, e2, ob_v, if_pos rfl]
    exact agE h rfl rfl (by decide) (by decide)
-- some minutes
end PURT
def aMins (mk : Option Nat) : Nat → AS → AS
  | 0, α => α
  | n + 1, α => aMins mk n (aMin mk α)
theorem mins_ok {mk : Option Nat} : ∀ n α, AI α → nn α 2 + n < 2 ^ 29 → AI (aMins mk n α) ∧ nn (aMins mk n α) 2 = nn α 2 + n ∧ ∀ j, j ≠ 2 → nn (aMins mk n α) j = nn α j := by
  intro n
  induction n with
  | zero => intro α hA _; exact ⟨hA, rfl, fun _ _ => rfl⟩
  | succ n ih =>
    intro α hA h
    have e : nn (aMin mk α) 2 = nn α 2 + 1 := rfl
    obtain ⟨a, b, c⟩ := ih (aMin mk α) (AI_min hA (by omega)) (by omega)
    exact ⟨a, by rw [aMins, b, e]; omega, fun j hj => (c j hj).trans (nn_min hA hj)⟩
theorem C_passL {T : RS} {x2 : Int32} {N : Nat} (hN : N ≤ 100) : ∀ k i n α S, i + k = N → k < n → AI α → nn α 2 + k < 2 ^ 29 → RC α S → ∃ S', f_X1_pass_L15 n (nI N) x2 (nI i) S T = (ob (f_X0_arrivedInAll S') fun v6 => some ((v6 - x2), S', T)) ∧ RC (aMins none k α) S' := by
  intro k
  induction k with
  | zero =>
    intro i n α S h1 h2 hA ht h
    obtain ⟨m, rfl⟩ : ∃ m, n = m + 1 := ⟨n - 1, by omega⟩
    refine ⟨S, ?_, h⟩
    rw [f_X1_pass_L15, if_pos (nI_le (by omega) (by omega))]
  | succ k ih =>
    intro i n α S h1 h2 hA ht h
    obtain ⟨m, rfl⟩ : ∃ m, n = m + 1 := ⟨n - 1, by omega⟩
    obtain ⟨S1, e1, e2⟩ := C_min (mk := none) hA h
    obtain ⟨S2, e3, e4⟩ := ih (i + 1) m (aMin none α) S1 (by omega) (by omega) (AI_min hA (by omega)) (by show nn α 2 + 1 + k < _; omega) e2
    refine ⟨S2, ?_, e4⟩
    rw [f_X1_pass_L15, if_neg (nI_ge (by omega) (by omega)), e1, ob_v, nI_1]
    exact e3
theorem C_forL {S : RS} {x2 : Int32} {N : Nat} (hN : N ≤ 100) : ∀ k i n α T, i + k = N → k < n → AI α → nn α 2 + k < 2 ^ 29 → RC α T → ∃ T', f_X1_foresee_L26 n (nI N) x2 (nI i) S T = (ob (f_X0_tellCount T' x2) fun v7 => some (v7, S, T')) ∧ RC (aMins none k α) T' := by
  intro k
  induction k with
  | zero =>
    intro i n α T h1 h2 hA ht h
    obtain ⟨m, rfl⟩ : ∃ m, n = m + 1 := ⟨n - 1, by omega⟩
    refine ⟨T, ?_, h⟩
    rw [f_X1_foresee_L26, if_pos (nI_le (by omega) (by omega))]
  | succ k ih =>
    intro i n α T h1 h2 hA ht h
    obtain ⟨m, rfl⟩ : ∃ m, n = m + 1 := ⟨n - 1, by omega⟩
    obtain ⟨S1, e1, e2⟩ := C_min (mk := none) hA h
    obtain ⟨S2, e3, e4⟩ := ih (i + 1) m (aMin none α) S1 (by omega) (by omega) (AI_min hA (by omega)) (by show nn α 2 + 1 + k < _; omega) e2
    refine ⟨S2, ?_, e4⟩
    rw [f_X1_foresee_L26, if_neg (nI_ge (by omega) (by omega)), e1, ob_v, nI_1]
    exact e3
theorem M_minsL {x2 : Int32} {N : Nat} (hN : N ≤ 100) : ∀ k i n α M, i + k = N → k < n → AI α → nn α 2 + k < 2 ^ 29 → RM none α M → ∃ M', f_X2_minutesOn_L9 n (nI N) x2 (nI i) M = (ob (f_X2_all M' 6) fun v5 => some ((v5 - x2), M')) ∧ RM none (aMins none k α) M' := by
  intro k
  induction k with
  | zero =>
    intro i n α M h1 h2 hA ht h
    obtain ⟨m, rfl⟩ : ∃ m, n = m + 1 := ⟨n - 1, by omega⟩
    refine ⟨M, ?_, h⟩
    rw [f_X2_minutesOn_L9, if_pos (nI_le (by omega) (by omega))]
  | succ k ih =>
    intro i n α M h1 h2 hA ht h
    obtain ⟨m, rfl⟩ : ∃ m, n = m + 1 := ⟨n - 1, by omega⟩
    obtain ⟨S1, e1, e2⟩ := M_min hA h
    obtain ⟨S2, e3, e4⟩ := ih (i + 1) m (aMin none α) S1 (by omega) (by omega) (AI_min hA (by omega)) (by show nn α 2 + 1 + k < _; omega) e2
    refine ⟨S2, ?_, e4⟩
    rw [f_X2_minutesOn_L9, if_neg (nI_ge (by omega) (by omega)), e1, ob_v, nI_1]
    exact e3
section PURT2
variable {α : AS} {j : Nat} {S T M : RS}
theorem mi_of {x : Int32} (h1 : ¬ x < 1) (h2 : x ≤ 100) : ∃ n, n ≤ 100 ∧ x = nI n := by
  refine nI_of2 (M := 100) (by decide) (fun q => h1 ?_) h2
  rw [Int32.lt_iff_toInt_lt] at q ⊢
  have e0 : (0 : Int32).toInt = 0 := by decide
  have e1 : (1 : Int32).toInt = 1 := by decide
  omega
theorem a_pass (h : PK α j S M) (hj : j < 600) (x : Int32) : AgM cdA (RelP (j + 1)) S (f_X1_pass S T x) (f_X2_pass M x) := by
  obtain ⟨hA, hC, hM, ht, hr⟩ := id h
  unfold f_X1_pass f_X2_pass
  rw [lt_e]
  rcases n_mi (S := S) (T := T) x with ⟨h1, h2, e1, e2⟩ | ⟨e1, e2⟩
  · obtain ⟨N, hN, rfl⟩ := mi_of h1 h2
    rw [e1, obx_y, e2, ob_v, if_neg (show ¬ (1 : Int32) = 0 from by decide), c_ara hA hC, ob_v]
    unfold f_X2_minutesOn
    rw [m_all6 hA hM, ob_v]
    obtain ⟨a, b, c⟩ := mins_ok (mk := none) N α hA (by omega)
    obtain ⟨S', q1, q2⟩ := C_passL (T := T) (x2 := isum (fun s => ii α 0 s) 0 (nn α 0)) hN N 0 FU α S (Nat.zero_add _) (by unfold FU; omega) hA (by omega) hC
    obtain ⟨M', q3, q4⟩ := M_minsL (x2 := isum (fun s => ii α 0 s) 0 (nn α 0)) hN N 0 FU α (sI M 0 0) (Nat.zero_add _) (by unfold FU; omega) hA (by omega) hM
    rw [nI_0] at q1 q3
    rw [q1, q3, c_ara a q2, ob_v, okx_v, m_all6 a q4, ob_v, ob2_v]
    exact agK rfl rfl a q2 q4 (by rw [b]; omega) (by rw [c 3 (by decide)]; omega)
  · rw [e1, obx_n, e2, ob_v, if_pos rfl]
    exact agE h rfl rfl (by decide) (by decide)
theorem a_foresee (h : PK α j S M) (hj : j < 600) (x y : Int32) : AgM cdAI (RelP (j + 1)) S (f_X1_foresee S T x y) (f_X2_foresee M x y) := by
  obtain ⟨hA, hC, hM, ht, hr⟩ := id h
  unfold f_X1_foresee f_X2_foresee
  rw [lt_e]
  rcases n_mi (S := S) (T := T) x with ⟨h1, h2, e1, e2⟩ | ⟨e1, e2⟩
  · obtain ⟨N, hN, rfl⟩ := mi_of h1 h2
    rw [e1, obx_y, e2, ob_v, if_neg (show ¬ (1 : Int32) = 0 from by decide)]
    rcases n_wh (S := S) (T := T) y 3 7 with ⟨h3, h4, e3, e4⟩ | ⟨e3, e4⟩
    · obtain ⟨w, hw, rfl⟩ : ∃ w, w ≤ 7 ∧ y = nI w := nI_of2 (M := 7) (by decide) (fun q => h3 (by
        rw [Int32.lt_iff_toInt_lt] at q ⊢
        have e0 : (0 : Int32).toInt = 0 := by decide
        have e1 : (3 : Int32).toInt = 3 := by decide
        omega)) h4
      rw [e3, obx_y, e4, ob_v, if_neg (show ¬ (1 : Int32) = 0 from by decide)]
      obtain ⟨T1, g1, g2⟩ := C_copy (T := T) hA hC
      rw [g1, ob_v]
      unfold f_X2_minutesOn
      rw [m_all6 hA hM, ob_v]
      obtain ⟨a, b, c⟩ := mins_ok (mk := none) N α hA (by omega)
      obtain ⟨T', q1, q2⟩ := C_forL (S := S) (x2 := nI w) hN N 0 FU α T1 (Nat.zero_add _) (by unfold FU; omega) hA (by omega) g2
      obtain ⟨M', q3, q4⟩ := M_minsL (x2 := isum (fun s => ii α 0 s) 0 (nn α 0)) hN N 0 FU α (sI M 0 0) (Nat.zero_add _) (by unfold FU; omega) hA (by omega) hM
      rw [nI_0] at q1 q3
      obtain ⟨v, v1, v2⟩ := t_cnt a q2 q4 (w := w) (by omega)
      rw [q1, v1, ob_v, okx_v, q3, m_all6 a q4, ob_v, ob2_v, v2, ob_v, lt_e]
      have n0 := c 0 (by decide)
      have n1 := c 1 (by decide)
      have z0 := M_th q4
      have z1 := M_ns q4
      have z2 := M_np q4
      rw [n0] at z1
      rw [n1] at z2
      exact agK rfl rfl hA hC ⟨⟨z0, z1⟩, z2, hM.2.2⟩ (by omega) (by omega)
    · rw [e3, obx_n, e4, ob_v, if_pos rfl]
      exact agE h rfl rfl (by decide) (by decide)
  · rw [e1, obx_n, e2, ob_v, if_pos rfl]
    exact agE h rfl rfl (by decide) (by decide)
-- questions
theorem a_told (h : PK α j S M) (hj : j < 600) (x y : Int32) : AgR cdI (RelP (j + 1)) S (f_X1_told S T x y) (f_X2_told M x y) := by
  obtain ⟨hA, hC, hM, ht, hr⟩ := id h
  unfold f_X1_told f_X2_told
  rw [lt_e]
  rcases n_pod (T := T) hA hC hM x with ⟨p, hp, rfl, e1, e2⟩ | ⟨e1, e2⟩
  · rw [e1, obx_y, e2, ob_v, if_neg (show ¬ (1 : Int32) = 0 from by decide)]
    rcases n_wh (S := S) (T := T) y 0 5 with ⟨h3, h4, e3, e4⟩ | ⟨e3, e4⟩
    · obtain ⟨w, hw, rfl⟩ : ∃ w, w ≤ 5 ∧ y = nI w := nI_of2 (M := 5) (by decide) h3 h4
      obtain ⟨v, v1, v2⟩ := t_pod hA hC hM hp (w := w) (by omega)
      rw [e3, obx_y, e4, ob_v, if_neg (show ¬ (1 : Int32) = 0 from by decide), v1, ob_v, okx_v, v2, ob_v]
      exact agQ h rfl rfl
    · rw [e3, obx_n, e4, ob_v, if_pos rfl]
      exact agER h rfl rfl (by decide) (by decide)
  · rw [e1, obx_n, e2, ob_v, if_pos rfl]
    exact agER h rfl rfl (by decide) (by decide)
theorem a_station (h : PK α j S M) (hj : j < 600) (x y : Int32) : AgR cdI (RelP (j + 1)) S (f_X1_station S T x y) (f_X2_station M x y) := by
  obtain ⟨hA, hC, hM, ht, hr⟩ := id h
  unfold f_X1_station f_X2_station
  rw [lt_e]
  rcases n_st (T := T) hA hC hM x with ⟨p, hp, rfl, e1, e2⟩ | ⟨e1, e2⟩
  · rw [e1, obx_y, e2, ob_v, if_neg (show ¬ (1 : Int32) = 0 from by decide)]
    rcases n_wh (S := S) (T := T) y 0 6 with ⟨h3, h4, e3, e4⟩ | ⟨e3, e4⟩
    · obtain ⟨w, hw, rfl⟩ : ∃ w, w ≤ 6 ∧ y = nI w := nI_of2 (M := 6) (by decide) h3 h4
      obtain ⟨v, v1, v2⟩ := t_st hA hC hM hp (w := w) (by omega)
      rw [e3, obx_y, e4, ob_v, if_neg (show ¬ (1 : Int32) = 0 from by decide), v1, ob_v, okx_v, v2, ob_v]
      exact agQ h rfl rfl
    · rw [e3, obx_n, e4, ob_v, if_pos rfl]
      exact agER h rfl rfl (by decide) (by decide)
  · rw [e1, obx_n, e2, ob_v, if_pos rfl]
    exact agER h rfl rfl (by decide) (by decide)
theorem a_waits (h : PK α j S M) (hj : j < 600) (x y : Int32) : AgR cdI (RelP (j + 1)) S (f_X1_waits S T x y) (f_X2_waits M x y) := by
  obtain ⟨hA, hC, hM, ht, hr⟩ := id h
  have h6 := A_ns hA
  unfold f_X1_waits f_X2_waits
  rw [lt_e]
  rcases n_st (T := T) hA hC hM x with ⟨s, hs, rfl, e1, e2⟩ | ⟨e1, e2⟩
  · have hln := A_len hA s
    rw [e1, obx_y, e2, ob_v, if_neg (show ¬ (1 : Int32) = 0 from by decide), c_wait hA hC (by omega), ob_v, m_st1 (by omega), ob_v, M_h1 hM (by omega)]
    rcases need_cases (n := (qq α s).length) (by omega) y with ⟨k, hk, rfl, g1, g2, g3⟩ | ⟨g1, g2⟩
    · obtain ⟨v, v1, v2⟩ := t_rid hA hC hM (show s < 6 by omega) hk
      rw [if_neg g1, if_pos g2, g3, ob_v, if_neg (show ¬ (1 : Int32) = 0 from by decide), v1, ob_v, okx_v, v2, ob_v]
      exact agQ h rfl rfl
    · rw [g2, ob_v, if_pos rfl]
      rcases g1 with c | ⟨c, d⟩
      · rw [if_pos c]; exact agER h rfl rfl (by decide) (by decide)
      · rw [if_neg c, if_neg d]; exact agER h rfl rfl (by decide) (by decide)
  · rw [e1, obx_n, e2, ob_v, if_pos rfl]
    exact agER h rfl rfl (by decide) (by decide)
theorem a_slot (h : PK α j S M) (hj : j < 600) (x : Int32) : AgR cdI (RelP (j + 1)) S (f_X1_slot S T x) (f_X2_slot M x) := by
  obtain ⟨hA, hC, hM, ht, hr⟩ := id h
  unfold f_X1_slot f_X2_slot
  rw [lt_e]
  rcases n_pl (S := S) (T := T) x with ⟨p, hp, rfl, e1, e2⟩ | ⟨e1, e2⟩
  · rw [e1, obx_y, e2, ob_v, if_neg (show ¬ (1 : Int32) = 0 from by decide), c_pod hC hp, ob_v, okx_v, m_slot hA hM hp, ob_v]
    exact agQ h rfl rfl
  · rw [e1, obx_n, e2, ob_v, if_pos rfl]
    exact agER h rfl rfl (by decide) (by decide)
theorem a_count (h : PK α j S M) (hj : j < 600) (x : Int32) : AgR cdI (RelP (j + 1)) S (f_X1_count S T x) (f_X2_count M x) := by
  obtain ⟨hA, hC, hM, ht, hr⟩ := id h
  unfold f_X1_count f_X2_count
  rw [lt_e]
  rcases n_wh (S := S) (T := T) x 0 8 with ⟨h3, h4, e3, e4⟩ | ⟨e3, e4⟩
  · obtain ⟨w, hw, rfl⟩ : ∃ w, w ≤ 8 ∧ x = nI w := nI_of2 (M := 8) (by decide) h3 h4
    obtain ⟨v, v1, v2⟩ := t_cnt hA hC hM (w := w) (by omega)
    rw [e3, obx_y, e4, ob_v, if_neg (show ¬ (1 : Int32) = 0 from by decide), v1, ob_v, okx_v, v2, ob_v]
    exact agQ h rfl rfl
  · rw [e3, obx_n, e4, ob_v, if_pos rfl]
    exact agER h rfl rfl (by decide) (by decide)
theorem a_answers (h : PK α j S M) (hj : j < 600) (x : Int32) : AgR cdI (RelP (j + 1)) S (f_X1_answers S T x) (f_X2_answers M x) := by
  obtain ⟨hA, hC, hM, ht, hr⟩ := id h
  unfold f_X1_answers f_X2_answers
  rw [lt_e]
  rcases n_st (T := T) hA hC hM x with ⟨s, hs, rfl, e1, e2⟩ | ⟨e1, e2⟩
  · rw [e1, obx_y, e2, ob_v, if_neg (show ¬ (1 : Int32) = 0 from by decide), c_ans hA hC hs, ob_v, okx_v, m_ans hA hM hs, ob_v]
    exact agQ h rfl rfl
  · rw [e1, obx_n, e2, ob_v, if_pos rfl]
    exact agER h rfl rfl (by decide) (by decide)
end PURT2
