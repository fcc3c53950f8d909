def aMins (mk : Option Nat) : Nat → AS → AS
  | 0, α => α
  | n + 1, α => aMins mk n (aMin mk α)
theorem mins_ok {mk : Option Nat} : ∀ n α, AI α → nn α 2 + n < 2 ^ 29 → AI (aMins mk n α) ∧ nn (aMins mk n α) 2 = nn α 2 + n ∧ ∀ j, j ≠ 2 → nn (aMins mk n α) j = nn α j := by
  intro n
  induction n with
  | zero => intro α hA _; exact ⟨hA, rfl, fun _ _ => rfl⟩
  | succ n ih =>
    intro α hA h
    have e : nn (aMin mk α) 2 = nn α 2 + 1 := rfl
    obtain ⟨a, b, c⟩ := ih (aMin mk α) (AI_min hA (by omega)) (by omega)
    exact ⟨a, by rw [aMins, b, e]; omega, fun j hj => (c j hj).trans (nn_min hA hj)⟩
theorem C_passL {T : RS} {x2 : Int32} {N : Nat} (hN : N ≤ 100) : ∀ k i n α S, i + k = N → k < n → AI α → nn α 2 + k < 2 ^ 29 → RC α S → ∃ S', f_X1_pass_L15 n (nI N) x2 (nI i) S T = (ob (f_X0_arrivedInAll S') fun v6 => some ((v6 - x2), S', T)) ∧ RC (aMins none k α) S' := by
  intro k
  induction k with
  | zero =>
    intro i n α S h1 h2 hA ht h
    obtain ⟨m, rfl⟩ : ∃ m, n = m + 1 := ⟨n - 1, by omega⟩
    refine ⟨S, ?_, h⟩
    rw [f_X1_pass_L15, if_pos (nI_le (by omega) (by omega))]
  | succ k ih =>
    intro i n α S h1 h2 hA ht h
    obtain ⟨m, rfl⟩ : ∃ m, n = m + 1 := ⟨n - 1, by omega⟩
    obtain ⟨S1, e1, e2⟩ := C_min (mk := none) hA h
    obtain ⟨S2, e3, e4⟩ := ih (i + 1) m (aMin none α) S1 (by omega) (by omega) (AI_min hA (by omega)) (by show nn α 2 + 1 + k < _; omega) e2
    refine ⟨S2, ?_, e4⟩
    rw [f_X1_pass_L15, if_neg (nI_ge (by omega) (by omega)), e1, ob_v, nI_1]
    exact e3
theorem C_forL {S : RS} {x2 : Int32} {N : Nat} (hN : N ≤ 100) : ∀ k i n α T, i + k = N → k < n → AI α → nn α 2 + k < 2 ^ 29 → RC α T → ∃ T', f_X1_foresee_L26 n (nI N) x2 (nI i) S T = (ob (f_X0_tellCount T' x2) fun v7 => some (v7, S, T')) ∧ RC (aMins none k α) T' := by
  intro k
  induction k with
  | zero =>
    intro i n α T h1 h2 hA ht h
    obtain ⟨m, rfl⟩ : ∃ m, n = m + 1 := ⟨n - 1, by omega⟩
    refine ⟨T, ?_, h⟩
    rw [f_X1_foresee_L26, if_pos (nI_le (by omega) (by omega))]
  | succ k ih =>
    intro i n α T h1 h2 hA ht h
    obtain ⟨m, rfl⟩ : ∃ m, n = m + 1 := ⟨n - 1, by omega⟩
    obtain ⟨S1, e1, e2⟩ := C_min (mk := none) hA h
    obtain ⟨S2, e3, e4⟩ := ih (i + 1) m (aMin none α) S1 (by omega) (by omega) (AI_min hA (by omega)) (by show nn α 2 + 1 + k < _; omega) e2
    refine ⟨S2, ?_, e4⟩
    rw [f_X1_foresee_L26, if_neg (nI_ge (by omega) (by omega)), e1, ob_v, nI_1]
    exact e3
