-- pods, places, counts, the mean
section SSAN
variable {Φ : FR} {Z : Nat → ClassId} {h h0 : PH} {t B : Nat} {σ : SG} {α : AS} {S T : RS} {C : Int32 → WX → Prop} {x2 x3 : Int32}
theorem Q_427 {κ : Int32 → Int32 → RS → RS → PH → Prop} {p b : Nat} {f : Nat → Int32} (hA : AI α) (hC : RC α S) (Sr : SR α σ) (hp : p < nn α 1) (A : AW Z h0 h b 6 f) (hf : ∀ w, w < 6 → f w = vP (gM α σ) p w) (hK : κ x2 (nI p + 1) S T h) : ∀ k i n, i + k = 6 → k < n → w_X3_isSame_L427 Z t κ C n x2 (nI p) b (nI i) S T h := by
  have hm := gM_ok hA Sr
  intro k
  induction k with
  | zero =>
    intro i n h1 h2
    obtain ⟨n, rfl⟩ : ∃ m, n = m + 1 := ⟨n - 1, by omega⟩
    rw [w_X3_isSame_L427, if_pos (show (6 : Int32) ≤ nI i from nI_le (a := 6) (by omega) (by omega))]
    exact hK
  | succ k ih =>
    intro i n h1 h2
    obtain ⟨n, rfl⟩ : ∃ m, n = m + 1 := ⟨n - 1, by omega⟩
    rw [w_X3_isSame_L427, if_neg (show ¬ (6 : Int32) ≤ nI i from nI_ge (b := 6) (by omega) (by omega))]
    refine ⟨_, q_told hA hC hm hp (w := i) (by omega), AW_get (by omega) (by omega) A ?_⟩
    rw [hf i (by omega), if_pos rfl, nI_1]
    exact ih (i + 1) n (by omega) (by omega)
theorem Q_312 (hA : AI α) (hC : RC α S) (H0 : HR Φ Z h0 t σ) (Sr : SR α σ) (hK : ∀ h1, EXT h0 h1 → w_X3_isSame_L465 Z t C FU x2 0 S T h1) : ∀ k i n h, i + k = nn α 1 → k < n → EXT h0 h → w_X3_isSame_L312 Z t C n x2 (nI i) S T h := by
  have h12 := A_np hA
  have hmm := S_m Sr
  have hm := gM_ok hA Sr
  intro k
  induction k with
  | zero =>
    intro i n h h1 h2 E
    obtain ⟨n, rfl⟩ : ∃ m, n = m + 1 := ⟨n - 1, by omega⟩
    have H := HR_ext E H0
    rw [w_X3_isSame_L312]
    refine H_pods H (H_nD H ?_)
    rw [hmm, if_pos (nI_le (by omega) (by omega))]
    exact hK h E
  | succ k ih =>
    intro i n h h1 h2 E
    obtain ⟨n, rfl⟩ : ∃ m, n = m + 1 := ⟨n - 1, by omega⟩
    have H := HR_ext E H0
    have hi : i < nn α 1 := by omega
    have hi' : i < sN σ 1 := by omega
    have nxt : ∀ h1, EXT h0 h1 → w_X3_isSame_L312 Z t C n x2 (nI i + 1) S T h1 := fun h1 E1 => by
      rw [nI_1]; exact ih (i + 1) n h1 (by omega) (by omega) E1
    have v0 : vP (gM α σ) i 0 = sV σ 3 i := by unfold vP; rw [if_neg (by decide), gM_fl (by decide)]; rfl
    have v1 : vP (gM α σ) i 1 = if sV σ 3 i < 0 then sV σ 4 i else -1 := by unfold vP; rw [if_neg (by decide), gM_fl (by decide)]; rfl
    have v2 : vP (gM α σ) i 2 = if sV σ 3 i < 0 then sV σ 5 i else -1 := by unfold vP; rw [if_neg (by decide), gM_fl (by decide)]; rfl
    have v3 : vP (gM α σ) i 3 = sV σ 6 i := by unfold vP; rw [if_neg (by decide), M_f3 hm hi, S_go Sr hi]
    have v4 : vP (gM α σ) i 4 = if sV σ 7 i ≤ 0 then 0 else 1 := by
      unfold vP
      rw [if_pos rfl, M_f4 hm hi, S_ri Sr hi]
      by_cases c : rk none (oo α 3 i) ≤ 0
      · rw [if_pos c, if_pos c, rk_le0.mp c]; rfl
      · rw [if_neg c, if_neg c]
    have v5 : vP (gM α σ) i 5 = sV σ 8 i := by unfold vP; rw [if_neg (by decide), M_f5 hm hi, S_mi Sr hi]
    rw [w_X3_isSame_L312]
    refine H_pods H (H_nD H ?_)
    rw [hmm, if_neg (nI_ge (by omega) (by omega))]
    refine H_pods H (H_p H hi' (H_f0 H hi' ?_))
    have fin2 : ∀ (b : Nat) (g : PH) (f : Nat → Int32) (v : Int32), b ∉ h0.1 → AW Z h0 g b 6 f → f 0 = sV σ 3 i → f 1 = vP (gM α σ) i 1 → v = vP (gM α σ) i 2 → w_X3_isSame_L389 Z t (fun x2 x3 S T h => w_X3_isSame_L312 Z t C n x2 x3 S T h) C v 2 b b x2 (nI i) (sB σ 0 i) S T g := fun b g f v nb A f0 f1 hv => by
      have k413 : ∀ (z : Int32) (g : PH) (f : Nat → Int32), AW Z h0 g b 6 f → f 0 = sV σ 3 i → f 1 = vP (gM α σ) i 1 → f 2 = vP (gM α σ) i 2 → f 3 = vP (gM α σ) i 3 → z = vP (gM α σ) i 4 → w_X3_isSame_L413 Z t (fun x2 x3 S T h => w_X3_isSame_L312 Z t C n x2 x3 S T h) C z 4 b b x2 (nI i) (sB σ 0 i) S T g := fun z g f A f0 f1 f2 f3 hz => by
        unfold w_X3_isSame_L413
        refine AW_set (i := 4) nb (by omega) (by omega) A (fun g2 A2 => ?_)
        refine H_f5 (HR_ext A2.1 H0) hi' ?_
        refine AW_set (i := 5) nb (by omega) (by omega) A2 (fun g3 A3 => ?_)
        refine Q_427 hA hC Sr hi A3 (fun w hw => ?_) (nxt g3 A3.1) 6 0 FU rfl (by decide)
        match w, hw with
        | 0, _ => exact f0.trans v0.symm
        | 1, _ => exact f1
        | 2, _ => exact f2
        | 3, _ => exact f3
        | 4, _ => exact hz
        | 5, _ => exact v5.symm
      unfold w_X3_isSame_L389
      refine AW_set (i := 2) nb (by omega) (by omega) A (fun g2 A2 => ?_)
      refine H_f3 (HR_ext A2.1 H0) hi' ?_
      refine AW_set (i := 3) nb (by omega) (by omega) A2 (fun g3 A3 => ?_)
      refine H_f4 (HR_ext A3.1 H0) hi' ?_
      by_cases c : sV σ 7 i ≤ 0
      · rw [if_pos c]
        exact k413 0 g3 _ A3 f0 f1 hv v3.symm (by rw [v4, if_pos c])
      · rw [if_neg c]
        exact k413 1 g3 _ A3 f0 f1 hv v3.symm (by rw [v4, if_neg c])
    by_cases c : sV σ 3 i < 0
    · rw [if_pos c] at v1 v2 ⊢
      unfold w_X3_isSame_L342
      refine AW_new (n := 6) E (Nat.le_refl _) (by omega) (fun b g1 nb A1 => ?_)
      refine H_f0 (HR_ext A1.1 H0) hi' ?_
      refine AW_set (i := 0) nb (by omega) (by omega) A1 (fun g2 A2 => ?_)
      rw [if_pos rfl]
      refine H_f1 (HR_ext A2.1 H0) hi' ?_
      unfold w_X3_isSame_L372
      refine AW_set (i := 1) nb (by omega) (by omega) A2 (fun g3 A3 => ?_)
      rw [if_pos rfl]
      refine H_f2 (HR_ext A3.1 H0) hi' ?_
      exact fin2 b g3 _ _ nb A3 rfl v1.symm v2.symm
    · rw [if_neg c] at v1 v2 ⊢
      unfold w_X3_isSame_L342
      refine AW_new (n := 6) E (Nat.le_refl _) (by omega) (fun b g1 nb A1 => ?_)
      refine H_f0 (HR_ext A1.1 H0) hi' ?_
      refine AW_set (i := 0) nb (by omega) (by omega) A1 (fun g2 A2 => ?_)
      rw [if_neg (by decide)]
      unfold w_X3_isSame_L372
      refine AW_set (i := 1) nb (by omega) (by omega) A2 (fun g3 A3 => ?_)
      rw [if_neg (by decide)]
      exact fin2 b g3 _ _ nb A3 rfl v1.symm v2.symm
end SSAN
