section SSAO
variable {Φ : FR} {Z : Nat → ClassId} {h h0 : PH} {t B : Nat} {σ : SG} {α : AS} {S T : RS} {C : Int32 → WX → Prop} {x2 x3 : Int32}
theorem Q_477 {κ : Int32 → Int32 → RS → RS → PH → Prop} {x : Nat} (hA : AI α) (hC : RC α S) (H : HR Φ Z h t σ) (Sr : SR α σ) (hx : x < 24) (hK : κ x2 (nI x + 1) S T h) : ∀ k i n, i + k = nn α 1 → k < n → w_X3_isSame_L477 Z t κ C n x2 (nI x) (lst (oo α 0 x) i) (nI i) S T h := by
  have h12 := A_np hA
  have hmm := S_m Sr
  intro k
  induction k with
  | zero =>
    intro i n h1 h2
    obtain ⟨n, rfl⟩ : ∃ m, n = m + 1 := ⟨n - 1, by omega⟩
    rw [w_X3_isSame_L477]
    refine H_pods H (H_nD H ?_)
    rw [hmm, if_pos (nI_le (by omega) (by omega))]
    refine ⟨_, q_slot hC hx, ?_⟩
    have : oI (oo α 0 x) = lst (oo α 0 x) i := by
      cases e : oo α 0 x with
      | none => rfl
      | some p =>
        have := (A_0 hA e).2
        unfold lst
        dsimp only
        rw [if_pos (by omega)]
        rfl
    rw [this]
    dsimp only
    rw [if_pos rfl]
    exact hK
  | succ k ih =>
    intro i n h1 h2
    obtain ⟨n, rfl⟩ : ∃ m, n = m + 1 := ⟨n - 1, by omega⟩
    have hi : i < nn α 1 := by omega
    rw [w_X3_isSame_L477]
    refine H_pods H (H_nD H ?_)
    rw [hmm, if_neg (nI_ge (by omega) (by omega))]
    refine H_pods H (H_p H (by omega) (H_f0 H (by omega) ?_))
    have nx := ih (i + 1) n (by omega) (by omega)
    rw [← nI_1] at nx
    by_cases c : oo α 0 x = some i
    · rw [if_pos ((P_0 hA Sr hi hx).mpr c)]
      have e : lst (oo α 0 x) (i + 1) = nI i := by
        rw [c]
        unfold lst
        dsimp only
        rw [if_pos (by omega)]
      rw [e] at nx
      exact nx
    · rw [if_neg (fun z => c ((P_0 hA Sr hi hx).mp z))]
      have e : lst (oo α 0 x) (i + 1) = lst (oo α 0 x) i := by
        cases d : oo α 0 x with
        | none => rfl
        | some p =>
          have hp : p ≠ i := fun z => c (by rw [d, z])
          unfold lst
          dsimp only
          by_cases u : p < i
          · rw [if_pos u, if_pos (by omega)]
          · rw [if_neg u, if_neg (by omega)]
      rw [e] at nx
      exact nx
theorem Q_610 {b : Nat} {f : Nat → Int32} (hA : AI α) (hC : RC α S) (Sr : SR α σ) (A : AW Z h0 h b 9 f) (hf : ∀ w, w < 9 → f w = vC α w) (hK : C x2 (S, T, h)) : ∀ k i n, i + k = 9 → k < n → w_X3_isSame_L610 Z t C n x2 b (nI i) S T h := by
  have hm := gM_ok hA Sr
  intro k
  induction k with
  | zero =>
    intro i n h1 h2
    obtain ⟨n, rfl⟩ : ∃ m, n = m + 1 := ⟨n - 1, by omega⟩
    rw [w_X3_isSame_L610, if_pos (show (9 : Int32) ≤ nI i from nI_le (a := 9) (by omega) (by omega))]
    exact hK
  | succ k ih =>
    intro i n h1 h2
    obtain ⟨n, rfl⟩ : ∃ m, n = m + 1 := ⟨n - 1, by omega⟩
    rw [w_X3_isSame_L610, if_neg (show ¬ (9 : Int32) ≤ nI i from nI_ge (b := 9) (by omega) (by omega))]
    refine ⟨_, q_cnt hA hC hm (w := i) (by omega), AW_get (by omega) (by omega) A ?_⟩
    rw [hf i (by omega), if_pos rfl, nI_1]
    exact ih (i + 1) n (by omega) (by omega)
theorem upd_n {f : Nat → Int32} {k j : Nat} {v : Int32} (hj : j ≠ k) : upd f k v j = f j := if_neg hj
theorem Q_465 (hA : AI α) (hC : RC α S) (H0 : HR Φ Z h0 t σ) (Sr : SR α σ) (E : EXT h0 h) (hK : ∀ h1, EXT h0 h1 → C x2 (S, T, h1)) : ∀ k i n, i + k = 24 → k < n → w_X3_isSame_L465 Z t C n x2 (nI i) S T h := by
  have h12 := A_np hA
  have hn := S_n Sr
  have hmm := S_m Sr
  intro k
  induction k with
  | zero =>
    intro i n h1 h2
    obtain ⟨n, rfl⟩ : ∃ m, n = m + 1 := ⟨n - 1, by omega⟩
    rw [w_X3_isSame_L465, if_pos (show (24 : Int32) ≤ nI i from nI_le (a := 24) (by omega) (by omega))]
    refine AW_new (n := 9) E (Nat.le_refl _) (by omega) (fun b g1 nb A1 => ?_)
    refine H_min (HR_ext A1.1 H0) ?_
    refine AW_set (i := 0) nb (by omega) (by omega) A1 (fun g2 A2 => ?_)
    have H2 := HR_ext A2.1 H0
    refine H_place H2 (H_nP H2 ?_)
    refine AW_set (i := 1) nb (by omega) (by omega) A2 (fun g3 A3 => ?_)
    have H3 := HR_ext A3.1 H0
    refine H_pods H3 (H_nD H3 ?_)
    refine AW_set (i := 2) nb (by omega) (by omega) A3 (fun g4 A4 => ?_)
    have H4 := HR_ext A4.1 H0
    refine ⟨rc3_of H4, S_told hA H4 Sr ?_⟩
    refine AW_set (i := 3) nb (by omega) (by omega) A4 (fun g5 A5 => ?_)
    have H5 := HR_ext A5.1 H0
    refine ⟨rc3_of H5, S_told hA H5 Sr ?_⟩
    refine AW_set (i := 4) nb (by omega) (by omega) A5 (fun g6 A6 => ?_)
    have H6 := HR_ext A6.1 H0
    refine ⟨rc3_of H6, S_told hA H6 Sr ?_⟩
    refine AW_set (i := 5) nb (by omega) (by omega) A6 (fun g7 A7 => ?_)
    have H7 := HR_ext A7.1 H0
    refine ⟨rc3_of H7, S_told hA H7 Sr ?_⟩
    refine AW_set (i := 6) nb (by omega) (by omega) A7 (fun g8 A8 => ?_)
    refine H_ans (HR_ext A8.1 H0) ?_
    refine AW_set (i := 7) nb (by omega) (by omega) A8 (fun g9 A9 => ?_)
    refine H_brd (HR_ext A9.1 H0) ?_
    refine AW_set (i := 8) nb (by omega) (by omega) A9 (fun g10 A10 => ?_)
    refine Q_610 hA hC Sr A10 (fun w hw => ?_) (hK g10 A10.1) 9 0 FU rfl (by decide)
    match w, hw with
    | 0, _ => rw [upd_n (by decide), upd_n (by decide), upd_n (by decide), upd_n (by decide), upd_n (by decide), upd_n (by decide), upd_n (by decide), upd_n (by decide), upd_e]; exact S_t Sr
    | 1, _ => rw [upd_n (by decide), upd_n (by decide), upd_n (by decide), upd_n (by decide), upd_n (by decide), upd_n (by decide), upd_n (by decide), upd_e]; exact congrArg nI hn
    | 2, _ => rw [upd_n (by decide), upd_n (by decide), upd_n (by decide), upd_n (by decide), upd_n (by decide), upd_n (by decide), upd_e]; exact congrArg nI hmm
    | 3, _ => rw [upd_n (by decide), upd_n (by decide), upd_n (by decide), upd_n (by decide), upd_n (by decide), upd_e]; exact td_3
    | 4, _ => rw [upd_n (by decide), upd_n (by decide), upd_n (by decide), upd_n (by decide), upd_e]; exact td_4
    | 5, _ => rw [upd_n (by decide), upd_n (by decide), upd_n (by decide), upd_e]; exact td_5
    | 6, _ => rw [upd_n (by decide), upd_n (by decide), upd_e]; exact td_6
    | 7, _ => rw [upd_n (by decide), upd_e]; exact S_an Sr
    | 8, _ => rw [upd_e]; exact S_bd Sr
  | succ k ih =>
    intro i n h1 h2
    obtain ⟨n, rfl⟩ : ∃ m, n = m + 1 := ⟨n - 1, by omega⟩
    rw [w_X3_isSame_L465, if_neg (show ¬ (24 : Int32) ≤ nI i from nI_ge (b := 24) (by omega) (by omega))]
    have e0 : lst (oo α 0 i) 0 = -1 := by
      unfold lst
      cases oo α 0 i with
      | none => rfl
      | some p => exact if_neg (Nat.not_lt_zero p)
    rw [← e0]
    refine Q_477 hA hC (HR_ext E H0) Sr (by omega) ?_ (nn α 1) 0 FU (Nat.zero_add _) (by unfold FU; omega)
    rw [nI_1]
    exact ih (i + 1) n (by omega) (by omega)
end SSAO
