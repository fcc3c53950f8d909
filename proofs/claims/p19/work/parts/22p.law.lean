-- the pods after a minute, the minutes, the turns
section SLAX
variable {Φ : FR} {Z : Nat → ClassId} {L : Nat} {xs : Nat → Int32} {C : Nat → WX → Prop} {h h0 : PH} {t B : Nat} {σ : SG} {α α0 : AS} {S T M : RS} {x3 x5 x6 : Int32} {b15 b17 : Nat}
theorem LI_A {S : RS} {h : PH} (L : LI Φ Z B t α σ S h) : AI α := L.1
/-- what holds of a pod that had the goal g at the start, m minutes later -/
def PG (α0 α : AS) (m p g : Nat) (w : Int32) : Prop := ((nI m ≤ w ∨ w ≤ 0) → ¬ w = nI m → oo α 2 p = some g) ∧ (w = nI m → (∃ c, oo α 1 c = some p ∧ c / 3 = g) ∨ oo α 0 (pl α g) = some p)
theorem PG_of {m p g : Nat} {w : Int32} (hA : AI α0) (ht : nn α0 2 + 200 < 2 ^ 29) (hm1 : 1 ≤ m) (hm6 : m ≤ 6) (hw : WH α0 p g w) : PG α0 (aMins none m α0) m p g w := by
  have prev : ∀ k, k < 200 → oo (aMins none k α0) 2 p = some g → oo (aMins none (k + 1) α0) 2 p ≠ some g → (∃ c, oo (aMins none (k + 1) α0) 1 c = some p ∧ c / 3 = g) ∨ oo (aMins none (k + 1) α0) 0 (pl (aMins none (k + 1) α0) g) = some p := fun k hk e1 e2 => by
    have hAk := (mins_ok (mk := none) k α0 hA (by omega)).1
    rw [aMins_last] at e2 ⊢
    rcases W3_min hAk e1 with z | ⟨_, z⟩
    · exact absurd z e2
    · exact z
  rcases hw with ⟨j, w1, w2, w3, w4, w5⟩ | ⟨w1, w2⟩
  · subst w1
    refine ⟨fun h1 h2 => ?_, fun h2 => ?_⟩
    · have hne : j ≠ m := fun z => h2 (by rw [z])
      rcases h1 with h1 | h1
      · have := (nI_leI (by omega) (by omega)).mp h1
        exact w5 m (by omega)
      · exact absurd h1 (nI_nle (by omega) (by omega))
    · have := nI_inj (by omega) (by omega) h2
      subst this
      obtain ⟨k, rfl⟩ : ∃ k, j = k + 1 := ⟨j - 1, by omega⟩
      exact prev k (by omega) (w5 k (by omega)) w4
  · subst w1
    exact ⟨fun _ _ => w2 m (by omega), fun z => absurd z.symm (nI_ne_m1 (by omega))⟩
theorem W_pods {κ204 : Nat → Int32 → Int32 → Int32 → Nat → Nat → Int32 → RS → RS → PH → Prop} {m : Nat} {fw fg : Nat → Int32} (hm1 : 1 ≤ m) (hm6 : m ≤ 6) (hA : AI α) (hC : RC α S) (hM : RM none α M) (a15 : at_ h b15 (.inl (Z 0, nn α 1, .inl fw))) (a17 : at_ h b17 (.inl (Z 0, nn α 1, .inl fg)))
    (hR : ∀ p, p < nn α 1 → fg p = -1 ∨ ∃ g, g < nn α 0 ∧ fg p = nI g ∧ PG α0 α m p g (fw p)) (hK : κ204 t x3 (nI (nn α 1)) x6 b15 b17 (nI (m + 1)) S T h) :
    ∀ k i n, i + k = nn α 1 → k < n → w_L_law_L543 Z L xs κ204 C n t x3 (nI (nn α 1)) x6 b15 b17 (nI m) (nI i) S T h := by
  have h12 := A_np hA
  have h6 := A_ns hA
  intro k
  induction k with
  | zero =>
    intro i n h1 h2
    obtain ⟨n, rfl⟩ : ∃ m, n = m + 1 := ⟨n - 1, by omega⟩
    rw [w_L_law_L543, if_pos (nI_le (by omega) (by omega)), nI_1]
    exact hK
  | succ k ih =>
    intro i n h1 h2
    obtain ⟨n, rfl⟩ : ∃ m, n = m + 1 := ⟨n - 1, by omega⟩
    have hi : i < nn α 1 := by omega
    have rw1 : ∀ K : Int32 → Prop, K (fw i) → ldI Z h b15 (nI i) K := fun K hk => ⟨_, _, a15.1, a15.2, in_lt hi (by omega), by rw [nI_clamp (by omega)]; exact hk⟩
    have rg1 : ∀ K : Int32 → Prop, K (fg i) → ldI Z h b17 (nI i) K := fun K hk => ⟨_, _, a17.1, a17.2, in_lt hi (by omega), by rw [nI_clamp (by omega)]; exact hk⟩
    have nxt : w_L_law_L543 Z L xs κ204 C n t x3 (nI (nn α 1)) x6 b15 b17 (nI m) (nI i + 1) S T h := by
      rw [nI_1]
      exact ih (i + 1) n (by omega) (by omega)
    rw [w_L_law_L543, if_neg (nI_ge hi (by omega))]
    refine rg1 _ ?_
    rcases hR i hi with e | ⟨g, hg, e, p1, p2⟩
    · rw [e, if_pos (by decide)]
      exact nxt
    · rw [e, if_neg (nI_pos (by omega))]
      have hld : ∀ K : Int32 → Prop, K (nI g) → ldI Z h b17 (nI i) K := fun K hk => rg1 K (by rw [e]; exact hk)
      have k579 : (nI m ≤ fw i ∨ fw i ≤ 0) → w_L_law_L579 Z L xs (fun x2 x3 x5 x6 x7 x8 x9 x19 S T h => w_L_law_L543 Z L xs κ204 C n x2 x3 x5 x6 x7 x8 x9 x19 S T h) C t x3 (nI (nn α 1)) x6 b15 b17 (nI m) (nI i) S T h := fun hor => by
        unfold w_L_law_L579
        refine rw1 _ ?_
        have v0 : vP M i 0 = fl M i 0 := if_neg (by decide)
        have v1 : vP M i 1 = fl M i 1 := if_neg (by decide)
        have v3 : vP M i 3 = fl M i 3 := if_neg (by decide)
        by_cases c : fw i = nI m
        · rw [if_pos c]
          unfold w_L_law_L594
          refine ⟨_, q_told (w := 0) hA hC hM hi (by omega), ?_⟩
          dsimp only
          rw [v0]
          rcases M_lc hM hi with ⟨y, a1, a2, a3, a4, a5⟩ | ⟨s, b, a1, a2, a3, a4, a5, a6⟩
          · rw [a3, if_neg (nI_pos (by omega))]
            unfold w_L_law_L611
            rw [if_neg (by decide)]
            unfold w_L_law_L633
            rw [if_neg (by decide), if_neg (by decide)]
            unfold w_L_law_L658
            rw [if_neg (by decide), if_neg (by decide)]
            refine ⟨_, q_told (w := 0) hA hC hM hi (by omega), ?_⟩
            dsimp only
            refine hld _ ?_
            refine ⟨_, q_st (w := 0) hA hC hM hg (by omega), ?_⟩
            dsimp only
            have hy : y = pl α g := by
              rcases p2 c with ⟨c2, z1, z2⟩ | z
              · exact absurd z1 (A_01 hA a2)
              · exact A_00 hA a2 z
            rw [v0, a3, hy, if_pos (show nI (pl α g) = vS α g 0 from rfl)]
            exact nxt
          · rw [a4, if_pos (by decide)]
            unfold w_L_law_L611
            rw [if_neg (by decide)]
            unfold w_L_law_L633
            rw [if_neg (by decide), if_pos rfl]
            refine ⟨_, q_told (w := 1) hA hC hM hi (by omega), ?_⟩
            dsimp only
            refine hld _ ?_
            have hs : s = g := by
              rcases p2 c with ⟨c2, z1, z2⟩ | z
              · have := A_11 hA z1 a3
                omega
              · exact absurd a3 (A_01 hA z)
            rw [v1, a5, hs, if_pos rfl]
            unfold w_L_law_L658
            rw [if_neg (by decide), if_pos rfl]
            exact nxt
        · rw [if_neg c]
          unfold w_L_law_L594
          refine ⟨_, q_told (w := 0) hA hC hM hi (by omega), ?_⟩
          dsimp only
          have k611 : ∀ y : Int32, w_L_law_L611 Z L xs (fun x2 x3 x5 x6 x7 x8 x9 x19 S T h => w_L_law_L543 Z L xs κ204 C n x2 x3 x5 x6 x7 x8 x9 x19 S T h) C y t x3 (nI (nn α 1)) x6 b15 b17 (nI m) (nI i) 0 S T h := fun y => by
            unfold w_L_law_L611
            rw [if_pos rfl]
            refine ⟨_, q_told (w := 3) hA hC hM hi (by omega), ?_⟩
            dsimp only
            refine hld _ ?_
            rw [v3, M_f3 hM hi, p1 hor c, oI_some, if_pos rfl]
            unfold w_L_law_L633
            rw [if_pos rfl]
            unfold w_L_law_L658
            rw [if_pos rfl]
            exact nxt
          by_cases d : vP M i 0 < 0
          · rw [if_pos d]; exact k611 0
          · rw [if_neg d]; exact k611 1
      refine rw1 _ ?_
      by_cases c1 : nI m ≤ fw i
      · rw [if_pos c1]; exact k579 (Or.inl c1)
      · rw [if_neg c1]
        refine rw1 _ ?_
        by_cases c2 : fw i ≤ 0
        · rw [if_pos c2]; exact k579 (Or.inr c2)
        · rw [if_neg c2]; exact nxt
/-- the six minutes -/
theorem W_mins {κ22 : Nat → Int32 → RS → RS → PH → Prop} {np ns : Nat} {fw fg : Nat → Int32} (hA0 : AI α0) (ht : nn α0 2 + 200 < 2 ^ 29) (hnp : nn α0 1 = np) (hns : nn α0 0 = ns) (hR : ∀ p, p < np → AR α0 fw fg p) :
    ∀ k m n B σ (S T : RS) (h : PH), m + k = 6 → k < n → B + k ≤ 100000 → LI [(b15, np, fw), (b17, np, fg)] Z B t (aMins none m α0) σ S h → (∀ S T h, Inv [(b15, np, fw), (b17, np, fg)] Z (B + k) t S h → κ22 t (x3 + 1) S T h) → w_L_law_L204 Z L xs κ22 C n t x3 (nI np) (nI ns) b15 b17 (nI (m + 1)) S T h := by
  intro k
  induction k with
  | zero =>
    intro m n B σ S T h h1 h2 h3 I hK
    obtain ⟨n, rfl⟩ : ∃ m, n = m + 1 := ⟨n - 1, by omega⟩
    rw [w_L_law_L204, if_pos (show (6 : Int32) < nI (m + 1) from nI_lt (a := 6) (by omega) (by omega))]
    exact hK S T h ⟨_, σ, I⟩
  | succ k ih =>
    intro m n B σ S T h h1 h2 h3 I hK
    obtain ⟨n, rfl⟩ : ∃ m, n = m + 1 := ⟨n - 1, by omega⟩
    rw [w_L_law_L204, if_neg (show ¬ (6 : Int32) < nI (m + 1) from nI_nlt (b := m + 1) (a := 6) (by omega) (by omega))]
    obtain ⟨mo1, mo2, mo3⟩ := mins_ok (mk := none) m α0 hA0 (by omega)
    have e1 : nn (aMins none m α0) 1 = np := (mo3 1 (by decide)).trans hnp
    have e0 : nn (aMins none m α0) 0 = ns := (mo3 0 (by decide)).trans hns
    obtain ⟨hA, hd, hz, hC, H, Sr, b1, b2, c, c1, c2⟩ := id I
    have hM := gM_ok hA Sr
    have h6 := A_ns hA
    have hbt : nn (aMins none m α0) 2 + 1 < 2 ^ 29 := by omega
    refine ⟨by decide, by decide, fun b10 hb10 => ?_⟩
    rw [show (5 : Int32).toNatClampNeg = 5 from by decide]
    refine W_for (h0 := h) hA hbt hC hM hb10 (fun T1 h1' f E ab hf => ?_) 5 3 FU T _ (fun _ => 0) rfl (by omega) (by decide) (EXT_ad EXT_rf hb10) at_adS (fun w a b => absurd a (by omega))
    rw [← e0]
    refine W_sum hA hC hM ?_
    rw [w_L_law_L252, if_pos (nI_le (Nat.le_refl _) (by omega))]
    refine ⟨_, q_cnt (w := 8) hA hC hM (by omega), _, q_cnt (w := 7) hA hC hM (by omega), _, q_cnt (w := 5) hA hC hM (by omega), _, q_cnt (w := 4) hA hC hM (by omega), ?_⟩
    dsimp only
    have I1 : LI ([(b10, 5, f)] ++ [(b15, np, fw), (b17, np, fg)]) Z B t (aMins none m α0) σ S h1' := ⟨hA, hd, hz, hC, HR_app H E (fun a ha => by
      rw [List.mem_singleton] at ha
      rw [ha]
      exact ⟨ab, hb10⟩), Sr, b1, b2, c, c1, c2⟩
    obtain ⟨S2, q1, q2⟩ := LI_pass (T := T1) I1 (by omega)
    refine ⟨_, _, _, q1, rc3_of I1.2.2.2.2.1, q2 _ (fun h2' σ2 I2 => ?_)⟩
    obtain ⟨hA2, hd2, hz2, hC2, H2, Sr2, bb1, bb2, c', cc1, cc2⟩ := id I2
    have hM2 := gM_ok hA2 Sr2
    have ab2 : at_ h2' b10 (.inl (Z 0, 5, .inl f)) := HR_fr H2 (a := (b10, 5, f)) (List.mem_cons_self)
    have a15 : at_ h2' b15 (.inl (Z 0, np, .inl fw)) := HR_fr H2 (a := (b15, np, fw)) (List.mem_cons_of_mem _ List.mem_cons_self)
    have a17 : at_ h2' b17 (.inl (Z 0, np, .inl fg)) := HR_fr H2 (a := (b17, np, fg)) (List.mem_cons_of_mem _ (List.mem_cons_of_mem _ List.mem_cons_self))
    have n0 : nn (aMin none (aMins none m α0)) 0 = nn (aMins none m α0) 0 := nn_min hA (by decide)
    have n1 : nn (aMin none (aMins none m α0)) 1 = np := (nn_min hA (by decide)).trans e1
    refine W_cmp hA2 hC2 hM2 ab2 hf ?_ 5 3 FU rfl (by omega) (by decide)
    rw [← n0]
    have st := W_st (Z := Z) (L := L) (xs := xs) (C := C) (h := h2') (t := t) (S := S2) (T := T1) (x3 := x3) (x5 := nI np) (x9 := nI (m + 1)) (x11 := WS (aMins none m α0)) (x12 := vC (aMins none m α0) 8) (x13 := vC (aMins none m α0) 7) (x14 := vC (aMins none m α0) 5) (x15 := vC (aMins none m α0) 4) (x16 := TA (aMin none (aMins none m α0)) - TA (aMins none m α0)) (b15 := b15) (b17 := b17) (κ204 := fun x2 x3 x5 x6 x7 x8 x9 S T h => w_L_law_L204 Z L xs κ22 C n x2 x3 x5 x6 x7 x8 x9 S T h) hA2 hC2 hM2 (fun s hs => NI_min hA (by omega)) (fun c hc6 hc => W_fin hA hA2 ⟨_, by omega, c2⟩ hC2 hM2 hc6 hc (by
      rw [← n1] at a15 a17 ⊢
      refine W_pods (m := m + 1) (α0 := α0) (by omega) (by omega) hA2 hC2 hM2 a15 a17 (fun p hp => ?_) ?_ (nn (aMin none (aMins none m α0)) 1) 0 FU (Nat.zero_add _) (by have := A_np hA2; unfold FU; omega)
      · rcases hR p (by omega) with ⟨y1, y2, y3⟩ | ⟨g, y1, y2, y3⟩
        · exact Or.inl y3
        · refine Or.inr ⟨g, by have := (A_2 hA0 y1).1; omega, y3, ?_⟩
          have := PG_of (m := m + 1) hA0 ht (by omega) (by omega) y2
          rw [aMins_last] at this
          exact this
      · rw [n1, n0, e0]
        refine ih (m + 1) n (B + 1) σ2 S2 T1 h2' (by omega) (by omega) (by omega) ?_ (fun S T h I => hK S T h (by rw [show B + (k + 1) = B + 1 + k from by omega]; exact I))
        rw [aMins_last]
        exact ⟨hA2, hd2, hz2, hC2, HR_less H2 (fun a ha => List.mem_cons_of_mem _ ha), Sr2, bb1, bb2, c', cc1, cc2⟩)) (nn (aMin none (aMins none m α0)) 0) 0 FU 0 0 (Nat.zero_add _) (by have := A_ns hA2; unfold FU; omega) (Nat.le_refl _) (fun z => absurd z (Nat.lt_irrefl _)) (by rw [Int32.zero_add, WS_eq])
    exact st
/-- three acts, what the pods say, six minutes -/
theorem W_turn {κ22 : Nat → Int32 → RS → RS → PH → Prop} {x4 : Int32} : ∀ k i n B (S T : RS) (h : PH), i + k = 3 → k < n → B + k ≤ 1000 → Inv [] Z B t S h → (∀ S T h, Inv [] Z (B + k + 6) t S h → κ22 t (x3 + 1) S T h) → w_L_law_L44 Z L xs κ22 C n t x3 x4 (nI i) S T h := by
  intro k
  induction k with
  | zero =>
    intro i n B S T h h1 h2 h3 I hK
    obtain ⟨n, rfl⟩ : ∃ m, n = m + 1 := ⟨n - 1, by omega⟩
    rw [w_L_law_L44, if_pos (show (3 : Int32) ≤ nI i from nI_le (a := 3) (by omega) (by omega))]
    obtain ⟨α, σ, hA, hd, hz, hC, H, Sr, b1, b2, c, c1, c2⟩ := I
    have hM := gM_ok hA Sr
    have h6 := A_ns hA
    have h12 := A_np hA
    refine ⟨_, q_cnt (w := 2) hA hC hM (by omega), _, q_cnt (w := 1) hA hC hM (by omega), ?_⟩
    dsimp only
    rw [show vC α 2 = nI (nn α 1) from rfl, show vC α 1 = nI (nn α 0) from rfl]
    refine ⟨nI_pos (by omega), by rw [nI_clamp (by omega)]; omega, fun b15 q15 => ?_⟩
    rw [nI_clamp (by omega)]
    refine ⟨nI_pos (by omega), by rw [nI_clamp (by omega)]; omega, fun b17 q17 => ?_⟩
    rw [nI_clamp (by omega)]
    have E1 : EXT h (had h b15 (.inl (Z 0, nn α 1, .inl (fun _ => 0)))) := EXT_ad EXT_rf q15
    have a15 : at_ (had h b15 (.inl (Z 0, nn α 1, .inl (fun _ => 0)))) b15 (.inl (Z 0, nn α 1, .inl (fun _ => 0))) := at_adS
    have n17 : b17 ∉ h.1 := fun z => q17 (E1 b17 z).1
    refine W_arr (h0 := h) hA (by omega) hC hM q15 n17 (at_fr a15 q17) (fun T h1 fw fg E c15 c17 hR => ?_) (nn α 1) 0 FU T _ _ _ (Nat.zero_add _) (by unfold FU; omega) (EXT_ad E1 q17) (at_ad a15 q17) at_adS (fun p hp => absurd hp (Nat.not_lt_zero p))
    refine W_mins (α0 := α) hA (by omega) rfl rfl hR 6 0 8 B σ S T h1 rfl (by omega) (by omega) ⟨hA, hd, hz, hC, HR_app (Ψ := [(b15, nn α 1, fw), (b17, nn α 1, fg)]) H E (fun a ha => ?_), Sr, b1, b2, c, c1, c2⟩ (fun S T h I => ?_)
    · rcases List.mem_cons.mp ha with z | z
      · rw [z]; exact ⟨c15, q15⟩
      · rw [List.mem_singleton] at z
        rw [z]; exact ⟨c17, n17⟩
    · obtain ⟨α', σ', z1, z2, z3, z4, z5, z6⟩ := I
      exact hK S T h ⟨α', σ', z1, z2, z3, z4, HR_less z5 (fun a ha => by cases ha), z6⟩
  | succ k ih =>
    intro i n B S T h h1 h2 h3 I hK
    obtain ⟨n, rfl⟩ : ∃ m, n = m + 1 := ⟨n - 1, by omega⟩
    rw [w_L_law_L44, if_neg (show ¬ (3 : Int32) ≤ nI i from nI_ge (b := 3) (by omega) (by omega))]
    refine S_act I (by omega) _ (fun S' T' h' I' => ?_)
    rw [if_neg (by decide), nI_1]
    exact ih (i + 1) n (B + 1) S' T' h' (by omega) (by omega) (by omega) I' (fun S T h I => hK S T h (by rw [show B + (k + 1) + 6 = B + 1 + k + 6 from by omega]; exact I))
theorem W_turns (hL : L < 2 ^ 31) (hK : ∀ B S T h, Inv [] Z B t S h → C t (S, T, h)) : ∀ k i n B (S T : RS) (h : PH), i + k = 14 → k < n → B + 9 * k ≤ 500 → Inv [] Z B t S h → w_L_law_L22 Z L xs C n t (nI i) S T h := by
  intro k
  induction k with
  | zero =>
    intro i n B S T h h1 h2 h3 I
    obtain ⟨n, rfl⟩ : ∃ m, n = m + 1 := ⟨n - 1, by omega⟩
    rw [w_L_law_L22, if_pos (show (14 : Int32) ≤ nI i from nI_le (a := 14) (by omega) (by omega))]
    exact hK B S T h I
  | succ k ih =>
    intro i n B S T h h1 h2 h3 I
    obtain ⟨n, rfl⟩ : ∃ m, n = m + 1 := ⟨n - 1, by omega⟩
    rw [w_L_law_L22, if_neg (show ¬ (14 : Int32) ≤ nI i from nI_ge (b := 14) (by omega) (by omega))]
    obtain ⟨v, hv⟩ := cell_ok (L := L) (xs := xs) (m := i) (by omega) hL
    refine ⟨v, hv, ?_⟩
    dsimp only
    refine W_turn 3 0 5 B S T h rfl (by omega) (by omega) I (fun S T h I => ?_)
    rw [nI_1]
    exact ih (i + 1) n (B + 3 + 6) S T h (by omega) (by omega) (by omega) I
theorem law_all (hL : L < 2 ^ 31) (hK : ∀ t B S T h, Inv [] Z B t S h → C t (S, T, h)) : wf_L_law Z L xs C rI0 rI0 h00 := by
  show wf_L_build Z L xs _ rI0 rI0 h00
  refine S_bld hL (fun t S T h I => ?_)
  show w_L_law_L22 Z L xs C 16 t 0 S T h
  exact W_turns hL (fun B S T h I => hK t B S T h I) 14 0 16 72 S T h rfl (by omega) (by omega) I
end SLAX
