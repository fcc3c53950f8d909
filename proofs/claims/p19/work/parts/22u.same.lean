section SSAP
variable {Φ : FR} {Z : Nat → ClassId} {h h0 : PH} {t B : Nat} {σ : SG} {α : AS} {S T : RS} {C : Int32 → WX → Prop} {x2 x3 : Int32}
theorem Q_mean (hA : AI α) (hC : RC α S) (H : HR Φ Z h t σ) (Sr : SR α σ) : same_end Z t (fun _ => True) (WS α) (S, T, h) := by
  obtain ⟨k, k1, k2⟩ := len_nat (α := α) (A_len hA) (nn α 0)
  have h6 := A_ns hA
  have e3 : td α 3 = nI k := td_3.trans k2
  unfold same_end
  have em : f_X1_mean S = if 0 < nI k then some (FP.ddiv (FP.i2d (WS α)) (FP.i2d (nI k))) else some FP.dconst0 := by
    unfold f_X1_mean
    rw [c_wia hA hC, ob_v, k2]
    by_cases c : 0 < nI k
    · rw [if_pos c, if_pos c, c_wda hA hC, ob_v, WS_eq]
    · rw [if_neg c, if_neg c]
  by_cases c : k = 0
  · subst c
    have n0 : ¬ (0 : Int32) < nI 0 := by decide
    rw [if_neg n0] at em
    refine ⟨_, em, by decide +kernel, rc3_of H, S_told hA H Sr ?_⟩
    rw [e3, if_pos (by decide)]
    exact ⟨rfl, trivial⟩
  · have p0 : (0 : Int32) < nI k := nI_lt (a := 0) (by omega) (by omega)
    rw [if_pos p0] at em
    refine ⟨_, em, div_nan (nI_ne0 (by omega) (by omega)), rc3_of H, S_told hA H Sr ?_⟩
    rw [e3, if_neg (nI_ne0 (by omega) (by omega))]
    refine ⟨rc3_of H, S_told hA H Sr ?_⟩
    rw [e3]
    exact ⟨rfl, trivial⟩
theorem law_last (I : Inv Φ Z B t S h) : lawEnd Z t (S, T, h) := by
  obtain ⟨α, σ, hA, hd, hz, hC, H, Sr, _⟩ := I
  have h6 := A_ns hA
  have h12 := A_np hA
  refine ⟨rc3_of H, ?_⟩
  show w_X3_isSame_L4 Z t (same_end Z t (fun _ => True)) 8 0 0 S T h
  refine Q_4 hA hd hC H Sr (fun h1 E1 => ?_) (nn α 0) 0 8 0 h (Nat.zero_add _) (by omega) EXT_rf (by rw [Int32.zero_add, WS_eq])
  refine Q_312 hA hC H Sr (fun h2 E2 => ?_) (nn α 1) 0 14 h1 (Nat.zero_add _) (by omega) E1
  refine Q_465 hA hC H Sr E2 (fun h3 E3 => ?_) 24 0 FU rfl (by decide)
  exact Q_mean hA hC (HR_ext E3 H) Sr
end SSAP
