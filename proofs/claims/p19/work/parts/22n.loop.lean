-- arrays beside, the building loop
theorem HR_app {Φ Ψ : FR} {Z : Nat → ClassId} {h0 h : PH} {t : Nat} {σ : SG} (H0 : HR Φ Z h0 t σ) (E : EXT h0 h) (hΨ : ∀ a, a ∈ Ψ → at_ h a.1 (.inl (Z 0, a.2.1, .inl a.2.2)) ∧ a.1 ∉ h0.1) : HR (Ψ ++ Φ) Z h t σ := by
  obtain ⟨h1, h2, h4, h5, h6, h7, h8, h9, h10, h11, h12, h13, h14⟩ := HR_ext E H0
  have inh : ∀ {a : Nat} {e : va_E}, at_ h0 a e → ∀ b, b ∉ h0.1 → b ≠ a := fun k b hb z => hb (z ▸ k.1)
  refine ⟨h1, h2, h4, h5, h6, h7, h8, h9, h10, h11, h12, h13, h14.1, h14.2.1, h14.2.2.1, fun a ha => ?_⟩
  rcases List.mem_append.mp ha with c | c
  · obtain ⟨c1, c2⟩ := hΨ a c
    exact ⟨c1, inh H0.2.1 _ c2, inh H0.2.2.1 _ c2, fun k i e hk hi => inh (H0.2.2.2.2.2.2.1 k hk i e hi) _ c2⟩
  · exact h14.2.2.2 a c
theorem HR_less {Φ Ψ : FR} {Z : Nat → ClassId} {h : PH} {t : Nat} {σ : SG} (H : HR Φ Z h t σ) (hs : ∀ a, a ∈ Ψ → a ∈ Φ) : HR Ψ Z h t σ := by
  obtain ⟨h1, h2, h4, h5, h6, h7, h8, h9, h10, h11, h12, h13, h14⟩ := H
  exact ⟨h1, h2, h4, h5, h6, h7, h8, h9, h10, h11, h12, h13, h14.1, h14.2.1, h14.2.2.1, fun a ha => h14.2.2.2 a (hs a ha)⟩
theorem HR_fr {Φ : FR} {Z : Nat → ClassId} {h : PH} {t : Nat} {σ : SG} (H : HR Φ Z h t σ) {a : Nat × Nat × (Nat → Int32)} (ha : a ∈ Φ) : at_ h a.1 (.inl (Z 0, a.2.1, .inl a.2.2)) := (H.2.2.2.2.2.2.2.2.2.2.2.2.2.2.2 a ha).1
theorem cell_ok {L m : Nat} {xs : Nat → Int32} (hm : m < 2 ^ 31) (hL : L < 2 ^ 31) : ∃ v, f_L_cell L xs (nI m) = some v := by
  unfold f_L_cell
  by_cases c : nI L ≤ nI m
  · rw [if_pos c]; exact ⟨_, rfl⟩
  · have : m < L := Nat.not_le.mp (fun z => c ((nI_leI hL hm).mpr z))
    rw [if_neg c, if_neg (nI_bad this hL)]
    exact ⟨_, rfl⟩
section SLPB
variable {Φ : FR} {Z : Nat → ClassId} {h : PH} {t B : Nat} {σ : SG} {α : AS} {S T : RS}
theorem LI_pass (L : LI Φ Z B t α σ S h) (hB : B < 1000000) : ∃ S', f_X1_pass S T 1 = some (.ok (TA (aMin none α) - TA α, S', T)) ∧ ∀ K : Int32 → PH → Prop, (∀ h1 σ1, LI Φ Z (B + 1) t (aMin none α) σ1 S' h1 → K (TA (aMin none α) - TA α) h1) → w_X3_pass Z t K h := by
  obtain ⟨hA, hd, hz, hC, H, Sr, b1, b2, c, c1, c2⟩ := id L
  obtain ⟨S', q1, q2⟩ := q_pass (T := T) hA (by omega) hC
  exact ⟨S', q1, fun K hK => S_pass hA hd H Sr (fun h1 σ1 H1 S1 => hK h1 σ1 (LI_min L hB q2 H1 S1))⟩
theorem S_bldL {L : Nat} {xs : Nat → Int32} {K : Option Nat → WX → Prop} (hL : L < 2 ^ 31) : ∀ k i n B S T h, i + k = 36 → k < n → B + 2 * k ≤ 1000 → Inv Φ Z B t S h → (∀ S T h, Inv Φ Z (B + 2 * k) t S h → K (some t) (S, T, h)) → w_L_build_L10 Z L xs K n t (nI i) S T h := by
  intro k
  induction k with
  | zero =>
    intro i n B S T h h1 h2 h3 I hK
    obtain ⟨n, rfl⟩ : ∃ m, n = m + 1 := ⟨n - 1, by omega⟩
    rw [w_L_build_L10, if_pos (show (36 : Int32) ≤ nI i from nI_le (a := 36) (by omega) (by omega))]
    exact hK S T h I
  | succ k ih =>
    intro i n B S T h h1 h2 h3 I hK
    obtain ⟨n, rfl⟩ : ∃ m, n = m + 1 := ⟨n - 1, by omega⟩
    have e16 : nI i - nI i / 16 * 16 = nI (i % 16) := pk_rem (d := 16) (by omega) (by omega) (by omega)
    obtain ⟨v, hv⟩ := cell_ok (L := L) (xs := xs) (m := i % 16) (by omega) hL
    have nxt : ∀ S T h, Inv Φ Z (B + 2) t S h → w_L_build_L10 Z L xs K n t (nI i + 1) S T h := fun S T h I => by
      rw [nI_1]
      exact ih (i + 1) n (B + 2) S T h (by omega) (by omega) (by omega) I (fun S T h I => hK S T h (by rw [show B + 2 * (k + 1) = B + 2 + 2 * k from by omega]; exact I))
    have go : ∀ y0 y1 : Int32, w_L_build_L56 Z L xs (fun x2 x3 S T h => w_L_build_L10 Z L xs K n x2 x3 S T h) K y0 y1 t t (nI i) S T h := fun y0 y1 => by
      unfold w_L_build_L56
      refine S_act I (by omega) _ (fun S' T' h' I' => ?_)
      rw [if_neg (by decide)]
      by_cases c : i ≤ 12
      · rw [if_pos (show nI i ≤ 12 from nI_le (b := 12) c (by omega))]
        exact nxt S' T' h' (Inv_up I')
      · rw [if_neg (show ¬ nI i ≤ 12 from nI_ge (a := 12) (by omega) (by omega))]
        by_cases d : nI i - nI i / 3 * 3 = 0
        · rw [if_pos d]
          obtain ⟨α, σ, L'⟩ := I'
          obtain ⟨S2, q1, q2⟩ := LI_pass (T := T') L' (by omega)
          refine ⟨_, _, _, q1, rc3_of L'.2.2.2.2.1, q2 _ (fun h1 σ1 L1 => ?_)⟩
          dsimp only
          rw [if_pos rfl]
          exact nxt S2 T' h1 ⟨_, σ1, L1⟩
        · rw [if_neg d]
          exact nxt S' T' h' (Inv_up I')
    rw [w_L_build_L10, if_neg (show ¬ (36 : Int32) ≤ nI i from nI_ge (b := 36) (by omega) (by omega)), e16]
    refine ⟨v, hv, ?_⟩
    dsimp only
    by_cases c : i < 10
    · rw [if_neg (show ¬ (10 : Int32) ≤ nI i from nI_ge (b := 10) c (by omega))]
      exact go _ _
    · rw [if_pos (show (10 : Int32) ≤ nI i from nI_le (a := 10) (by omega) (by omega))]
      exact go _ _
theorem S_bld {L : Nat} {xs : Nat → Int32} {K : Option Nat → WX → Prop} {T : RS} (hL : L < 2 ^ 31) (hK : ∀ t S T h, Inv [] Z 72 t S h → K (some t) (S, T, h)) : wf_L_build Z L xs K rI0 T h00 := by
  unfold wf_L_build
  intro q hq
  refine S_init (Φ := []) rfl at_adS (fun h1 σ1 H1 S1 => ?_)
  have I : Inv [] Z 0 q rI0 h1 := ⟨alZ, σ1, alZ_A, fun i j hi => absurd hi (Nat.not_lt_zero i), fun _ _ => rfl, alZ_C, H1, S1, Nat.le_refl _, Nat.le_refl _, 0, Nat.zero_le _, nI_0.symm⟩
  exact S_bldL hL 36 0 40 0 rI0 T h1 rfl (by omega) (by omega) I (fun S T h I => hK q S T h I)
end SLPB
