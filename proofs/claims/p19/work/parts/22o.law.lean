-- the law's loops
section SLAW
variable {Φ : FR} {Z : Nat → ClassId} {L : Nat} {xs : Nat → Int32} {C : Nat → WX → Prop} {h h0 : PH} {t B : Nat} {σ : SG} {α : AS} {S T M : RS} {x3 x5 x6 x9 x11 x12 x13 x14 x15 x16 : Int32} {b15 b17 : Nat}
theorem W_for {κ204 : Nat → Int32 → Int32 → Int32 → Nat → Nat → Int32 → RS → RS → PH → Prop} {b : Nat} (hA : AI α) (ht : nn α 2 + 1 < 2 ^ 29) (hC : RC α S) (hm : RM none α M) (nb : b ∉ h0.1)
    (hK : ∀ T h f, EXT h0 h → at_ h b (.inl (Z 0, 5, .inl f)) → (∀ w, 3 ≤ w → w < 8 → f (w - 3) = vC (aMin none α) w) → w_L_law_L252 Z L xs κ204 C FU t x3 x5 x6 b15 b17 x9 b 0 0 S T h) :
    ∀ k i n (T : RS) (h : PH) (f : Nat → Int32), i + k = 8 → 3 ≤ i → k < n → EXT h0 h → at_ h b (.inl (Z 0, 5, .inl f)) → (∀ w, 3 ≤ w → w < i → f (w - 3) = vC (aMin none α) w) → w_L_law_L219 Z L xs κ204 C n t x3 x5 x6 b15 b17 x9 b (nI i) S T h := by
  intro k
  induction k with
  | zero =>
    intro i n T h f h1 h3 h2 E ab hf
    obtain ⟨n, rfl⟩ : ∃ m, n = m + 1 := ⟨n - 1, by omega⟩
    rw [w_L_law_L219, if_pos (show (8 : Int32) ≤ nI i from nI_le (a := 8) (by omega) (by omega))]
    exact hK T h f E ab (fun w a b => hf w a (by omega))
  | succ k ih =>
    intro i n T h f h1 h3 h2 E ab hf
    obtain ⟨n, rfl⟩ : ∃ m, n = m + 1 := ⟨n - 1, by omega⟩
    rw [w_L_law_L219, if_neg (show ¬ (8 : Int32) ≤ nI i from nI_ge (b := 8) (by omega) (by omega))]
    obtain ⟨T', q⟩ := q_fore (T := T) hA ht hC hm (w := i) h3 (by omega)
    refine ⟨_, _, _, q, ?_⟩
    dsimp only
    have e3 : nI i - 3 = nI (i - 3) := pk_sub (a := i) (b := 3) h3
    rw [e3]
    refine ⟨_, f, ab.1, ab.2, in_lt (by omega) (by omega), ?_⟩
    rw [nI_clamp (by omega), nI_1]
    refine ih (i + 1) n T' _ (upd f (i - 3) (vC (aMin none α) i)) (by omega) (by omega) (by omega) (EXT_up E nb) (at_upS ab) (fun w a b => ?_)
    show (if w - 3 = i - 3 then vC (aMin none α) i else f (w - 3)) = _
    by_cases c : w = i
    · rw [if_pos (by rw [c]), c]
    · rw [if_neg (by omega)]; exact hf w a (by omega)
theorem W_sum {κ204 : Nat → Int32 → Int32 → Int32 → Nat → Nat → Int32 → RS → RS → PH → Prop} {b : Nat} (hA : AI α) (hC : RC α S) (hm : RM none α M) (hK : w_L_law_L252 Z L xs κ204 C 1 t x3 x5 (nI (nn α 0)) b15 b17 x9 b (WS α) (nI (nn α 0)) S T h) : w_L_law_L252 Z L xs κ204 C FU t x3 x5 (nI (nn α 0)) b15 b17 x9 b 0 0 S T h := by
  have h6 := A_ns hA
  have e0 : (0 : Int32) + isum (fun s => isum (wv α s) 0 (qq α s).length) 0 (nn α 0) = WS α := by rw [Int32.zero_add, WS_eq]
  refine gsumP (fun n acc i => w_L_law_L252 Z L xs κ204 C n t x3 x5 (nI (nn α 0)) b15 b17 x9 b acc i S T h) (fun s => isum (wv α s) 0 (qq α s).length) (fun acc => w_L_law_L252 Z L xs κ204 C 1 t x3 x5 (nI (nn α 0)) b15 b17 x9 b acc (nI (nn α 0)) S T h) (nn α 0) (fun n acc i hi hc => ?_) (fun n acc hc => ?_) (nn α 0) 0 FU 0 (Nat.zero_add _) (by unfold FU; omega) (by rw [e0]; exact hK)
  · show w_L_law_L252 Z L xs κ204 C (n + 1) t x3 x5 (nI (nn α 0)) b15 b17 x9 b acc (nI i) S T h
    rw [← nI_1] at hc
    rw [w_L_law_L252, if_neg (nI_ge hi (by omega))]
    exact ⟨_, q_st (w := 5) hA hC hm hi (by omega), hc⟩
  · show w_L_law_L252 Z L xs κ204 C (n + 1) t x3 x5 (nI (nn α 0)) b15 b17 x9 b acc (nI (nn α 0)) S T h
    rw [w_L_law_L252, if_pos (nI_le (Nat.le_refl _) (by omega))] at hc ⊢
    exact hc
theorem W_cmp {κ204 : Nat → Int32 → Int32 → Int32 → Nat → Nat → Int32 → RS → RS → PH → Prop} {b : Nat} {f : Nat → Int32} (hA : AI α) (hC : RC α S) (hm : RM none α M) (ab : at_ h b (.inl (Z 0, 5, .inl f))) (hf : ∀ w, 3 ≤ w → w < 8 → f (w - 3) = vC α w) (hK : w_L_law_L362 Z L xs κ204 C FU t x3 x5 x6 b15 b17 x9 x11 x12 x13 x14 x15 x16 0 0 0 S T h) : ∀ k i n, i + k = 8 → 3 ≤ i → k < n → w_L_law_L322 Z L xs κ204 C n t x3 x5 x6 b15 b17 x9 b x11 x12 x13 x14 x15 x16 (nI i) S T h := by
  intro k
  induction k with
  | zero =>
    intro i n h1 h3 h2
    obtain ⟨n, rfl⟩ : ∃ m, n = m + 1 := ⟨n - 1, by omega⟩
    rw [w_L_law_L322, if_pos (show (8 : Int32) ≤ nI i from nI_le (a := 8) (by omega) (by omega))]
    exact hK
  | succ k ih =>
    intro i n h1 h3 h2
    obtain ⟨n, rfl⟩ : ∃ m, n = m + 1 := ⟨n - 1, by omega⟩
    rw [w_L_law_L322, if_neg (show ¬ (8 : Int32) ≤ nI i from nI_ge (b := 8) (by omega) (by omega))]
    refine ⟨_, q_cnt hA hC hm (w := i) (by omega), ?_⟩
    dsimp only
    have e3 : nI i - 3 = nI (i - 3) := pk_sub (a := i) (b := 3) h3
    rw [e3]
    refine ⟨_, f, ab.1, ab.2, in_lt (by omega) (by omega), ?_⟩
    rw [nI_clamp (by omega), hf i h3 (by omega)]
    dsimp only
    rw [if_pos rfl, nI_1]
    exact ih (i + 1) n (by omega) (by omega) (by omega)
theorem ob1_no {c : Nat} (h : kd α c ≠ 1) : ob1 α c = none := by
  cases e : ob1 α c with
  | none => rfl
  | some p =>
    obtain ⟨a, b⟩ := ob1_some.mp e
    exact absurd (kd_1 a b) h
theorem W_st {κ204 : Nat → Int32 → Int32 → Int32 → Nat → Nat → Int32 → RS → RS → PH → Prop} (hA : AI α) (hC : RC α S) (hm : RM none α M) (hN : ∀ s, s < nn α 0 → NI α s)
    (hK : ∀ c, c ≤ 6 → (0 < c → ∃ s, s < nn α 0 ∧ act α s) → w_L_law_L362 Z L xs κ204 C 1 t x3 x5 (nI (nn α 0)) b15 b17 x9 x11 x12 x13 x14 x15 x16 (WS α) (nI c) (nI (nn α 0)) S T h) :
    ∀ k i n acc c, i + k = nn α 0 → k < n → c ≤ i → (0 < c → ∃ s, s < nn α 0 ∧ act α s) → acc + isum (fun s => isum (wv α s) 0 (qq α s).length) i k = WS α → w_L_law_L362 Z L xs κ204 C n t x3 x5 (nI (nn α 0)) b15 b17 x9 x11 x12 x13 x14 x15 x16 acc (nI c) (nI i) S T h := by
  have h6 := A_ns hA
  intro k
  induction k with
  | zero =>
    intro i n acc c h1 h2 h3 h4 h5
    obtain ⟨n, rfl⟩ : ∃ m, n = m + 1 := ⟨n - 1, by omega⟩
    have hi : i = nn α 0 := by omega
    subst hi
    have := hK c (by omega) h4
    rw [isum, i32_az] at h5
    rw [← h5] at this
    rw [w_L_law_L362, if_pos (nI_le (Nat.le_refl _) (by omega))] at this ⊢
    exact this
  | succ k ih =>
    intro i n acc c h1 h2 h3 h4 h5
    obtain ⟨n, rfl⟩ : ∃ m, n = m + 1 := ⟨n - 1, by omega⟩
    have hi : i < nn α 0 := by omega
    have h9 := A_len hA i
    rw [isum, ← Int32.add_assoc] at h5
    have k422 : w_L_law_L422 Z L xs (fun x2 x3 x5 x6 x7 x8 x9 x11 x12 x13 x14 x15 x16 x17 x18 x19 S T h => w_L_law_L362 Z L xs κ204 C n x2 x3 x5 x6 x7 x8 x9 x11 x12 x13 x14 x15 x16 x17 x18 x19 S T h) C t x3 x5 (nI (nn α 0)) b15 b17 x9 x11 x12 x13 x14 x15 x16 (acc + isum (wv α i) 0 (qq α i).length) (nI c) (nI i) (nI (qq α i).length) S T h := by
      unfold w_L_law_L422
      refine ⟨_, q_st (w := 4) hA hC hm hi (by omega), ?_⟩
      dsimp only
      show (if nI (qq α i).length ≤ com α i then _ else _)
      by_cases d : nI (qq α i).length ≤ com α i
      · rw [if_pos d, nI_1]
        exact ih (i + 1) n _ c (by omega) (by omega) (by omega) h4 h5
      · rw [if_neg d]
        refine ⟨_, q_ans hA hC hi, ?_⟩
        dsimp only
        cases e : ans α i with
        | none =>
          rw [oI_none, if_pos (by decide), nI_1]
          exact ih (i + 1) n _ c (by omega) (by omega) (by omega) h4 h5
        | some v =>
          have hv := (ans_some e).1
          rw [oI_some, if_neg (nI_pos (by omega)), nI_1, nI_1]
          exact ih (i + 1) n _ (c + 1) (by omega) (by omega) (by omega) (fun _ => ⟨i, hi, Int32.not_le.mp d, by rw [e]; exact fun z => by cases z⟩) h5
    have k405 : w_L_law_L405 Z L xs (fun x2 x3 x5 x6 x7 x8 x9 x11 x12 x13 x14 x15 x16 x17 x18 x19 S T h => w_L_law_L362 Z L xs κ204 C n x2 x3 x5 x6 x7 x8 x9 x11 x12 x13 x14 x15 x16 x17 x18 x19 S T h) C t x3 x5 (nI (nn α 0)) b15 b17 x9 x11 x12 x13 x14 x15 x16 (acc + isum (wv α i) 0 (qq α i).length) (nI c) (nI i) (nI (qq α i).length) S T h := by
      unfold w_L_law_L405
      by_cases d : (qq α i).length = 0
      · rw [if_pos (by rw [d, nI_0])]
        refine ⟨_, q_st (w := 5) hA hC hm hi (by omega), ?_⟩
        dsimp only
        have : vS α i 5 = 0 := by
          show isum (wv α i) 0 (qq α i).length = 0
          rw [d]; rfl
        rw [this, if_pos rfl]
        exact k422
      · rw [if_neg (nI_ne0 (by omega) (by omega))]
        exact k422
    rw [w_L_law_L362, if_neg (nI_ge (by omega) (by omega))]
    refine ⟨_, q_st (w := 5) hA hC hm hi (by omega), _, q_st (w := 3) hA hC hm hi (by omega), ?_⟩
    dsimp only
    show (if nI (qq α i).length ≤ 0 then _ else _)
    by_cases d : (qq α i).length = 0
    · rw [if_pos (by rw [d, nI_0]; decide)]
      exact k405
    · rw [if_neg (nI_nle (by omega) (by omega))]
      refine ⟨_, q_st (w := 2) hA hC hm hi (by omega), ?_⟩
      dsimp only
      have hne : qq α i ≠ [] := fun z => d (by rw [z]; rfl)
      have z0 : kd α (3 * i) ≠ 1 := hN i hi hne 0 (by omega)
      have z1 := hN i hi hne 1 (by omega)
      have z2 := hN i hi hne 2 (by omega)
      have : vS α i 2 = 0 := by
        show bI (ob1 α (3 * i)).isSome + bI (ob1 α (3 * i + 1)).isSome + bI (ob1 α (3 * i + 2)).isSome = 0
        rw [ob1_no z0, ob1_no z1, ob1_no z2]; rfl
      rw [this, if_neg (by decide)]
      exact k405
theorem W_fin {κ204 : Nat → Int32 → Int32 → Int32 → Nat → Nat → Int32 → RS → RS → PH → Prop} {c : Nat} (hA : AI α) (hA' : AI (aMin none α)) (hb : ∃ c, c ≤ 1000000000 ∧ ii α 2 0 = nI c) (hC : RC (aMin none α) S) (hm : RM none (aMin none α) M) (hc6 : c ≤ 6) (hc : 0 < c → ∃ s, s < nn (aMin none α) 0 ∧ act (aMin none α) s)
    (hK : w_L_law_L543 Z L xs κ204 C FU t x3 x5 (nI (nn (aMin none α) 0)) b15 b17 x9 0 S T h) :
    w_L_law_L362 Z L xs κ204 C 1 t x3 x5 (nI (nn (aMin none α) 0)) b15 b17 x9 (WS α) (vC α 8) (vC α 7) (vC α 5) (vC α 4) (TA (aMin none α) - TA α) (WS (aMin none α)) (nI c) (nI (nn (aMin none α) 0)) S T h := by
  have h6 := A_ns hA
  have h6' := A_ns hA'
  have h12 := A_np hA
  have n0 : nn (aMin none α) 0 = nn α 0 := nn_min hA (by decide)
  obtain ⟨d, d1, d2, d3⟩ := ac_min hA
  obtain ⟨r, r1, r2⟩ := OW_min hA
  obtain ⟨a, a1, a2⟩ := hb
  have hrl := rcn_le (α := α) (nn α 1)
  have d2 : vC (aMin none α) 7 = nI (a + d) := by
    show ii (aMin none α) 2 0 = _
    have d2 : ii (aMin none α) 2 0 = ii α 2 0 + nI d := d2
    rw [d2, a2, nI_add]
  have e7 : vC α 7 = nI a := a2
  rw [w_L_law_L362, if_pos (nI_le (Nat.le_refl _) (by omega))]
  refine ⟨_, q_cnt hA' hC hm (w := 8) (by omega), _, q_cnt hA' hC hm (w := 3) (by omega), ?_⟩
  dsimp only
  have wm := wb_min hA
  have e1 : (WS (aMin none α) + vC (aMin none α) 8) - vC α 8 = WS α + vC (aMin none α) 3 := by
    show (WS (aMin none α) + ii (aMin none α) 2 1) - ii α 2 1 = _
    rw [wm]
    grind
  rw [if_pos e1]
  refine ⟨_, q_cnt hA' hC hm (w := 5) (by omega), ?_⟩
  dsimp only
  have e2 : vC (aMin none α) 5 = vC α 5 + (TA (aMin none α) - TA α) := by
    show TA (aMin none α) = TA α + (TA (aMin none α) - TA α)
    grind
  rw [if_pos e2]
  have e3 : TA (aMin none α) - TA α = nI r := by rw [r2]; grind
  have e4 : vC α 4 = nI (rcn α (nn α 1)) := rcn_isum _
  rw [e3, e4, if_neg (nI_nlt r1 (by omega))]
  refine ⟨_, q_cnt hA' hC hm (w := 7) (by omega), ?_⟩
  dsimp only
  rw [d2, e7, if_neg (nI_nlt (by omega) (by omega))]
  refine ⟨_, q_cnt hA' hC hm (w := 7) (by omega), ?_⟩
  dsimp only
  rw [d2, nI_add, if_pos (nI_le (by omega) (by omega))]
  by_cases cc : c = 0
  · rw [if_pos (by rw [cc, nI_0]; decide)]
    exact hK
  · rw [if_neg (nI_nle (by omega) (by omega))]
    refine ⟨_, q_cnt hA' hC hm (w := 7) (by omega), ?_⟩
    dsimp only
    have hd := d3 (by
      obtain ⟨s, s1, s2⟩ := hc (by omega)
      exact ⟨s, by omega, s2⟩)
    rw [d2, if_neg (fun z => hd (by have := nI_inj (by omega) (by omega) z; omega))]
    exact hK
def AR (α : AS) (fw fg : Nat → Int32) (p : Nat) : Prop := (oo α 2 p = none ∧ fw p = -1 ∧ fg p = -1) ∨ ∃ g, oo α 2 p = some g ∧ WH α p g (fw p) ∧ fg p = nI g
theorem W_arr {κ22 : Nat → Int32 → RS → RS → PH → Prop} (hA : AI α) (ht : nn α 2 + 200 < 2 ^ 29) (hC : RC α S) (hm : RM none α M) (n15 : b15 ∉ h0.1) (n17 : b17 ∉ h0.1) (ne : b15 ≠ b17)
    (hK : ∀ T h fw fg, EXT h0 h → at_ h b15 (.inl (Z 0, nn α 1, .inl fw)) → at_ h b17 (.inl (Z 0, nn α 1, .inl fg)) → (∀ p, p < nn α 1 → AR α fw fg p) → w_L_law_L204 Z L xs κ22 C 8 t x3 (nI (nn α 1)) x6 b15 b17 1 S T h) :
    ∀ k i n (T : RS) (h : PH) (fw fg : Nat → Int32), i + k = nn α 1 → k < n → EXT h0 h → at_ h b15 (.inl (Z 0, nn α 1, .inl fw)) → at_ h b17 (.inl (Z 0, nn α 1, .inl fg)) → (∀ p, p < i → AR α fw fg p) → w_L_law_L109 Z L xs κ22 C n t x3 (nI (nn α 1)) x6 b15 b17 (nI i) S T h := by
  have h12 := A_np hA
  have h6 := A_ns hA
  intro k
  induction k with
  | zero =>
    intro i n T h fw fg h1 h2 E a15 a17 hR
    obtain ⟨n, rfl⟩ : ∃ m, n = m + 1 := ⟨n - 1, by omega⟩
    have hi : i = nn α 1 := by omega
    subst hi
    rw [w_L_law_L109, if_pos (nI_le (Nat.le_refl _) (by omega))]
    exact hK T h fw fg E a15 a17 hR
  | succ k ih =>
    intro i n T h fw fg h1 h2 E a15 a17 hR
    obtain ⟨n, rfl⟩ : ∃ m, n = m + 1 := ⟨n - 1, by omega⟩
    have hi : i < nn α 1 := by omega
    rw [w_L_law_L109, if_neg (nI_ge hi (by omega))]
    obtain ⟨v, T', q1, q2⟩ := q_when (T := T) hA ht hC hi
    refine ⟨_, _, _, q1, ?_⟩
    dsimp only
    refine ⟨_, fw, a15.1, a15.2, in_lt hi (by omega), ?_⟩
    rw [nI_clamp (by omega)]
    generalize hHA : hup h b15 (.inl (Z 0, nn α 1, .inl (upd fw i v))) = hA1
    have E1 : EXT h0 hA1 := by rw [← hHA]; exact EXT_up E n15
    have c15 : at_ hA1 b15 (.inl (Z 0, nn α 1, .inl (upd fw i v))) := by rw [← hHA]; exact at_upS a15
    have c17 : at_ hA1 b17 (.inl (Z 0, nn α 1, .inl fg)) := by rw [← hHA]; exact at_up a17 (Ne.symm ne)
    refine ⟨_, q_told (w := 3) hA hC hm hi (by omega), ?_⟩
    dsimp only
    have e3 : vP M i 3 = oI (oo α 2 i) := by
      unfold vP
      rw [if_neg (by decide)]
      exact M_f3 hm hi
    rw [e3]
    refine ⟨_, fg, c17.1, c17.2, in_lt hi (by omega), ?_⟩
    rw [nI_clamp (by omega)]
    generalize hHB : hup hA1 b17 (.inl (Z 0, nn α 1, .inl (upd fg i (oI (oo α 2 i))))) = hB
    have E2 : EXT h0 hB := by rw [← hHB]; exact EXT_up E1 n17
    have d15 : at_ hB b15 (.inl (Z 0, nn α 1, .inl (upd fw i v))) := by rw [← hHB]; exact at_up c15 ne
    have d17 : at_ hB b17 (.inl (Z 0, nn α 1, .inl (upd fg i (oI (oo α 2 i))))) := by rw [← hHB]; exact at_upS c17
    have rw1 : ∀ K : Int32 → Prop, K v → ldI Z hB b15 (nI i) K := fun K hk => ⟨_, _, d15.1, d15.2, in_lt hi (by omega), by rw [nI_clamp (by omega), show upd fw i v i = v from if_pos rfl]; exact hk⟩
    have rg1 : ∀ K : Int32 → Prop, K (oI (oo α 2 i)) → ldI Z hB b17 (nI i) K := fun K hk => ⟨_, _, d17.1, d17.2, in_lt hi (by omega), by rw [nI_clamp (by omega), show upd fg i (oI (oo α 2 i)) i = oI (oo α 2 i) from if_pos rfl]; exact hk⟩
    have nxt : w_L_law_L109 Z L xs κ22 C n t x3 (nI (nn α 1)) x6 b15 b17 (nI i + 1) S T' hB := by
      rw [nI_1]
      refine ih (i + 1) n T' hB _ _ (by omega) (by omega) E2 d15 d17 (fun p hp => ?_)
      by_cases c : p = i
      · subst c
        have u1 : upd fw p v p = v := if_pos rfl
        have u2 : upd fg p (oI (oo α 2 p)) p = oI (oo α 2 p) := if_pos rfl
        unfold AR
        rw [u1, u2]
        rcases q2 with ⟨y1, y2⟩ | ⟨g, y1, y2⟩
        · exact Or.inl ⟨y1, y2, by rw [y1]; rfl⟩
        · exact Or.inr ⟨g, y1, y2, by rw [y1]; rfl⟩
      · have u1 : upd fw i v p = fw p := if_neg c
        have u2 : upd fg i (oI (oo α 2 i)) p = fg p := if_neg c
        have := hR p (by omega)
        unfold AR at this ⊢
        rw [u1, u2]
        exact this
    refine rg1 _ ?_
    rcases q2 with ⟨y1, y2⟩ | ⟨g, y1, y2⟩
    · rw [y1, oI_none] at rg1 ⊢
      rw [if_neg (by decide)]
      unfold w_L_law_L152
      refine rw1 _ ?_
      rw [y2, if_neg (by decide)]
      refine rg1 _ ?_
      rw [if_neg (by decide)]
      unfold w_L_law_L173
      rw [if_pos rfl]
      refine rg1 _ ?_
      rw [if_neg (by decide)]
      refine rw1 _ ?_
      rw [y2, if_pos rfl]
      exact nxt
    · have hg := (A_2 hA y1).1
      rw [y1, oI_some] at rg1 ⊢
      have g0 : 0 ≤ nI g := nI_pos' (by omega)
      rw [if_pos g0]
      have k173 : w_L_law_L172 Z L xs (fun x2 x3 x5 x6 x7 x8 x9 S T h => w_L_law_L109 Z L xs κ22 C n x2 x3 x5 x6 x7 x8 x9 S T h) C 0 t x3 (nI (nn α 1)) x6 b15 b17 (nI i) S T' hB := by
        unfold w_L_law_L172 w_L_law_L173
        rw [if_pos rfl]
        refine rg1 _ ?_
        rw [if_pos g0]
        exact nxt
      unfold w_L_law_L152
      refine rw1 _ ?_
      by_cases w0 : 0 ≤ v
      · rw [if_pos w0]; exact k173
      · rw [if_neg w0]
        refine rg1 _ ?_
        rw [if_pos g0]
        exact k173
end SLAW
