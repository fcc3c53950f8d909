-- sending, riding, any act
section SACU
variable {Φ : FR} {Z : Nat → ClassId} {h : PH} {t B : Nat} {σ : SG} {α : AS} {S T : RS} {C : Int32 → WX → Prop} {x : Int32}
theorem A_send {g : Nat} {y3 y5 : Int32} (L : LI Φ Z B t α σ S h) (hg : g < nn α 0) (hK : ∀ S' T' h', Inv Φ Z (B + 1) t S' h' → C 1 (S', T', h')) : w_L_act_L62 Z t x C 4 y3 (nI (nn α 1)) y5 (nI g) S T h := by
  have hI : Inv Φ Z B t S h := ⟨α, σ, L⟩
  obtain ⟨hA, hd, hz, hC, H, Sr, b1, b2, c, c1, c2⟩ := L
  have h6 := A_ns hA
  have h12 := A_np hA
  have hn := S_n Sr
  have hm := S_m Sr
  unfold w_L_act_L62
  rw [if_neg (by decide), if_neg (by decide), if_neg (by decide), if_neg (by decide), if_pos rfl]
  by_cases d : nn α 1 = 0
  · rw [if_pos (by rw [d, nI_0])]
    exact hK S T h (Inv_up hI)
  · rw [if_neg (nI_ne0 (by omega) (by omega))]
    obtain ⟨p, hp, e⟩ := below_ok (x >>> (3 &&& 31)) (k := nn α 1) (by omega) (by omega)
    refine H_pods H ⟨_, e, H_p H (by omega) (H_f0 H (by omega) ?_)⟩
    by_cases d0 : 0 ≤ sV σ 3 p
    · rw [if_pos d0]; exact hK S T h (Inv_up hI)
    · rw [if_neg d0]
      refine H_f3 H (by omega) ?_
      rw [S_go Sr hp]
      cases f : oo α 2 p with
      | some w =>
        have := (A_2 hA f).1
        rw [oI_some, if_pos (nI_pos' (by omega))]
        exact hK S T h (Inv_up hI)
      | none =>
        rw [oI_none, if_neg (by decide)]
        obtain ⟨s, b, p1, p2, p3, p4, p5, p6⟩ := (P_neg Sr hp).mp (i32_nle0.mp d0)
        obtain ⟨_, _, p7, _⟩ := A_1 hA p3
        refine H_f1 H (by omega) ?_
        rw [p4]
        by_cases d1 : s = g
        · rw [if_pos (by rw [d1])]; exact hK S T h (Inv_up hI)
        · rw [if_neg (fun z => d1 (nI_inj (by omega) (by omega) z))]
          refine HU_f3 H (by omega) (fun h1 H1 => ?_)
          have S1 := SR3 (x := p) (v := some g) Sr
          rw [oI_some] at S1
          obtain ⟨S', q1, q2, q3⟩ := q_send (T := T) hA hC p1 p2 hg (Ne.symm d1) p3 f
          refine ⟨_, e, _, _, _, q1, ?_⟩
          dsimp only
          refine H_place (σ := uV σ 6 p (nI g)) H1 (H_pl (σ := uV σ 6 p (nI g)) H1 (by show g < sN σ 0; omega) (H_place (σ := uV σ 6 p (nI g)) H1 ?_))
          refine H_f1 (σ := uV σ 6 p (nI g)) H1 (by show p < sN σ 1; omega) ?_
          rw [vne (by decide), p4]
          refine H_pl (σ := uV σ 6 p (nI g)) H1 (by show s < sN σ 0; omega) ?_
          rw [vne (by decide), vne (by decide), S_pl Sr hg, S_pl Sr (show s < nn α 0 by omega)]
          have ho := on_e ⟨pl α s, A_pl hA (by omega)⟩ ⟨pl α g, A_pl hA hg⟩
          rw [ho]
          rw [if_pos (show nI (dst α s g) = nI ((pl α g + 24 - pl α s) % 24) from rfl)]
          exact hK S' T h1 ⟨_, _, q3, fun i j hi hj he => hd i j hi hj he, hz, q2, H1, S1, by show nn α 2 ≤ _; omega, by show nn α 3 ≤ _; omega, c, by omega, c2⟩
theorem DP_cong3 {β : AS} (hd : DP α) (e : ∀ j, j ≠ 3 → nn β j = nn α j) : DP β := fun i j hi hj hp => hd i j (by rw [← e 0 (by decide)]; exact hi) (by rw [← e 0 (by decide)]; exact hj) (by
  have e1 : pl β i = pl α i := e _ (by omega)
  have e2 : pl β j = pl α j := e _ (by omega)
  rw [← e1, ← e2]; exact hp)
theorem A_ride {s g : Nat} {y0 y3 y4 : Int32} (L : LI Φ Z B t α σ S h) (hB : B < 1000000) (hs : s < nn α 0) (hg : g < nn α 0) (n0 : ¬ y0 = 0) (n1 : ¬ y0 = 1) (n2 : ¬ y0 = 2) (n3 : ¬ y0 = 3) (n4 : ¬ y0 = 4) (hK : ∀ S' T' h', Inv Φ Z (B + 1) t S' h' → C 1 (S', T', h')) : w_L_act_L62 Z t x C y0 y3 y4 (nI s) (nI g) S T h := by
  have hI : Inv Φ Z B t S h := ⟨α, σ, L⟩
  obtain ⟨hA, hd, hz, hC, H, Sr, b1, b2, c, c1, c2⟩ := L
  have h6 := A_ns hA
  have h12 := A_np hA
  have hn := S_n Sr
  have hl9 := A_len hA s
  unfold w_L_act_L62
  rw [if_neg n0, if_neg n1, if_neg n2, if_neg n3, if_neg n4]
  by_cases d1 : s = g
  · rw [if_pos (by rw [d1])]; exact hK S T h (Inv_up hI)
  · rw [if_neg (fun z => d1 (nI_inj (by omega) (by omega) z))]
    refine H_waits H (H_w H (by omega) (H_nw H (by omega) ?_))
    rw [S_len Sr hs]
    by_cases d2 : (qq α s).length = 9
    · rw [if_pos (by rw [d2]; decide)]; exact hK S T h (Inv_up hI)
    · rw [if_neg (show ¬ nI (qq α s).length = 9 from fun z => d2 (nI_inj (b := 9) (by omega) (by decide) z))]
      refine S_ride hA H Sr hs (by omega) (fun h1 σ1 H1 S1 => ?_)
      obtain ⟨S', q1, q2, q3⟩ := q_ride (T := T) hA hC hs hg (Ne.symm d1) (by omega) (by omega)
      refine ⟨_, _, _, q1, ?_⟩
      dsimp only
      have hn1 := S_n S1
      have hn2 : sN σ1 0 = nn α 0 := hn1
      have hs1 : s < nn (aPush s g α) 0 := hs
      refine H_waits H1 (H_w H1 (by omega) (H_nw H1 (by omega) ?_))
      have e9 : (qq (aPush s g α) s).length = (qq α s).length + 1 := by
        show (if s = s then qq α s ++ [(g, nn α 2, nn α 3)] else qq α s).length = _
        rw [if_pos rfl, List.length_append]; rfl
      rw [S_len S1 hs1, e9, if_pos rfl]
      have en : ∀ k, k ≠ 3 → nn (aPush s g α) k = nn α k := fun k h1 => by unfold aPush; rw [nn_aN, if_neg h1]; rfl
      refine hK S' T h1 ⟨_, _, q3, DP_cong3 hd en, hz, q2, H1, S1, ?_, ?_, c, by omega, c2⟩
      · rw [en 2 (by decide)]; omega
      · show nn α 3 + 1 ≤ B + 1; omega
theorem S_act (I : Inv Φ Z B t S h) (hB : B < 1000000) (x : Int32) (hK : ∀ S' T' h', Inv Φ Z (B + 1) t S' h' → C 1 (S', T', h')) : w_L_act Z t x C (S, T, h) := by
  obtain ⟨α, σ, L⟩ := I
  obtain ⟨hA, hd, hz, hC, H, Sr, b1, b2, c, c1, c2⟩ := id L
  have h6 := A_ns hA
  have h12 := A_np hA
  have hn := S_n Sr
  have hm := S_m Sr
  show wf_L_act Z t x C S T h
  have bld : ∀ (x2 : Int32) (y5 y6 : Int32), w_L_act_L62 Z t x C 0 (nI (nn α 0)) (nI (nn α 1)) y5 y6 S T h := fun x2 y5 y6 => by
    unfold w_L_act_L62
    rw [if_pos rfl]
    obtain ⟨j, hj, e⟩ := below_ok (x >>> (1 &&& 31)) (k := 24) (by omega) (by omega)
    refine ⟨_, e, H_place H (H_nP H ?_)⟩
    rw [hn]
    exact A_build L hj hK
  unfold wf_L_act
  refine H_place H (H_nP H (H_pods H (H_nD H ?_)))
  rw [hn, hm]
  by_cases d : nn α 0 = 0
  · have e0 : nI (nn α 0) = 0 := by rw [d, nI_0]
    rw [if_pos e0]
    unfold w_L_act_L26
    rw [if_pos e0]
    unfold w_L_act_L43
    rw [if_pos e0]
    exact bld x 0 0
  · have e0 : ¬ nI (nn α 0) = 0 := nI_ne0 (by omega) (by omega)
    rw [if_neg e0]
    obtain ⟨s, hs, es⟩ := below_ok x (k := nn α 0) (by omega) (by omega)
    obtain ⟨g, hg, eg⟩ := below_ok (x >>> (2 &&& 31)) (k := nn α 0) (by omega) (by omega)
    obtain ⟨w, hw, ew⟩ := below_ok (x >>> (9 &&& 31)) (k := 14) (by omega) (by omega)
    refine ⟨_, es, ?_⟩
    show w_L_act_L26 Z t x C (nI s) (nI (nn α 0)) (nI (nn α 1)) S T h
    unfold w_L_act_L26
    rw [if_neg e0]
    refine ⟨_, eg, ?_⟩
    show w_L_act_L43 Z t x C (nI g) (nI (nn α 0)) (nI (nn α 1)) (nI s) S T h
    unfold w_L_act_L43
    rw [if_neg e0]
    refine ⟨_, ew, ?_⟩
    show w_L_act_L62 Z t x C (nI w) (nI (nn α 0)) (nI (nn α 1)) (nI s) (nI g) S T h
    by_cases w0 : w = 0
    · subst w0; exact bld x (nI s) (nI g)
    · by_cases w4 : w = 4
      · subst w4; exact A_send L hg hK
      · by_cases w3 : w ≤ 3
        · have : w_L_act_L62 Z t x C (nI w) (nI (nn α 0)) (nI (nn α 1)) (nI s) (nI g) S T h = w_L_act_L179 Z t x C (nI (nn α 1)) (nI s) S T h := by
            unfold w_L_act_L62
            match w, w0, w3 with
            | 1, _, _ => rw [if_neg (by decide), if_pos (by decide)]
            | 2, _, _ => rw [if_neg (by decide), if_neg (by decide), if_pos (by decide)]
            | 3, _, _ => rw [if_neg (by decide), if_neg (by decide), if_neg (by decide), if_pos (by decide)]
          rw [this]
          exact A_pod L hs hK
        · have nk : ∀ k, k < 5 → ¬ nI w = nI k := fun k hk z => by have := nI_inj (by omega) (by omega) z; omega
          exact A_ride L hB hs hg (nk 0 (by omega)) (nk 1 (by omega)) (nk 2 (by omega)) (nk 3 (by omega)) (nk 4 (by omega)) hK
-- the beginning
def alZ : AS := (fun _ => 0, fun _ _ => none, fun _ _ => 0, fun _ => [])
theorem alZ_A : AI alZ := by
  refine ⟨by decide, by decide, by decide, by decide, fun s h => absurd h (Nat.not_lt_zero s), fun x p h => (by cases h), fun x p h => (by cases h), fun x y p h => (by cases h), fun x y p h => (by cases h), fun x y p h => (by cases h), fun x p h => (by cases h), fun x p h => (by cases h), fun p _ => rfl, fun s => Nat.zero_le _, fun s e h => (by cases h), fun p _ => ⟨rfl, rfl⟩⟩
theorem alZ_C : RC alZ rI0 := by
  refine ⟨rfl, rfl, rfl, rfl, rfl, rfl, fun x _ => rfl, fun x _ => rfl, fun s h => absurd h (Nat.not_lt_zero s), fun x _ => rfl, fun x _ => rfl, fun s k e _ h => (by cases h), fun x _ => rfl, fun x _ => rfl, fun x _ => rfl⟩
def sgZ (a b c d : Nat) : SG := (fun k => if k = 2 then a else if k = 3 then b else if k = 4 then c else if k = 5 then d else 0, fun _ _ => 0, fun k j => if k = 0 ∧ j = 3 then -1 else 0, fun _ => [])
theorem S_init {K : PH → Prop} (hF0 : Φ = []) (ht : at_ h t (.inr (3, [.null, .null, .null, .null, .int 0, .int 0, .int 0, .int 0]))) (hK : ∀ h1 σ1, HR Φ Z h1 t σ1 → SR alZ σ1 → K h1) : w_X3_init Z t K h := by
  have z0 : (0 : Int32).toNatClampNeg = 0 := by decide
  unfold w_X3_init
  refine ⟨by decide, by decide, fun q1 f1 => ?_⟩
  rw [z0]
  have t1 := at_ad (e1 := (.inl (Z 0, 0, .inl (fun _ => 0)))) ht f1
  have a1 : at_ (had h q1 (.inl (Z 0, 0, .inl (fun _ => 0)))) q1 (.inl (Z 0, 0, .inl (fun _ => 0))) := at_adS
  generalize had h q1 (.inl (Z 0, 0, .inl (fun _ => 0))) = hA at t1 a1 ⊢
  refine ⟨_, t1.1, t1.2, by decide, ?_⟩
  have t2 : at_ (hup hA t (.inr (3, [Value.null, .null, .null, .null, .int 0, .int 0, .int 0, .int 0].set 0 (.ref q1)))) t (.inr (3, [.ref q1, .null, .null, .null, .int 0, .int 0, .int 0, .int 0])) := at_upS t1
  have a2 := at_up (e1 := (.inr (3, [Value.null, .null, .null, .null, .int 0, .int 0, .int 0, .int 0].set 0 (.ref q1)))) a1 (at_ne a1 t1 in_neq)
  generalize hup hA t (.inr (3, [Value.null, .null, .null, .null, .int 0, .int 0, .int 0, .int 0].set 0 (.ref q1))) = hB at t2 a2 ⊢
  refine ⟨by decide, by decide, fun q2 f2 => ?_⟩
  rw [z0]
  have t3 := at_ad (e1 := (.inl (Z 3, vQ 0 (fun _ => none)))) t2 f2
  have a3 := at_ad (e1 := (.inl (Z 3, vQ 0 (fun _ => none)))) a2 f2
  have b3 : at_ (had hB q2 (.inl (Z 3, vQ 0 (fun _ => none)))) q2 (.inl (Z 3, vQ 0 (fun _ => none))) := at_adS
  generalize had hB q2 (.inl (Z 3, vQ 0 (fun _ => none))) = hC at t3 a3 b3 ⊢
  refine ⟨_, t3.1, t3.2, show 1 < 8 by omega, ?_⟩
  have t4 : at_ (hup hC t (.inr (3, [Value.ref q1, .null, .null, .null, .int 0, .int 0, .int 0, .int 0].set 1 (.ref q2)))) t (.inr (3, [.ref q1, .ref q2, .null, .null, .int 0, .int 0, .int 0, .int 0])) := at_upS t3
  have a4 := at_up (e1 := (.inr (3, [Value.ref q1, .null, .null, .null, .int 0, .int 0, .int 0, .int 0].set 1 (.ref q2)))) a3 (at_ne a3 t3 in_neq)
  have b4 := at_up (e1 := (.inr (3, [Value.ref q1, .null, .null, .null, .int 0, .int 0, .int 0, .int 0].set 1 (.ref q2)))) b3 (at_ne b3 t3 in_neq)
  generalize hup hC t (.inr (3, [Value.ref q1, .null, .null, .null, .int 0, .int 0, .int 0, .int 0].set 1 (.ref q2))) = hD at t4 a4 b4 ⊢
  refine ⟨by decide, by decide, fun q3 f3 => ?_⟩
  rw [z0]
  have t5 := at_ad (e1 := (.inl (Z 0, 0, .inl (fun _ => 0)))) t4 f3
  have a5 := at_ad (e1 := (.inl (Z 0, 0, .inl (fun _ => 0)))) a4 f3
  have b5 := at_ad (e1 := (.inl (Z 0, 0, .inl (fun _ => 0)))) b4 f3
  have c5 : at_ (had hD q3 (.inl (Z 0, 0, .inl (fun _ => 0)))) q3 (.inl (Z 0, 0, .inl (fun _ => 0))) := at_adS
  have n13 : q1 ≠ q3 := at_fr a4 f3
  generalize had hD q3 (.inl (Z 0, 0, .inl (fun _ => 0))) = hE at t5 a5 b5 c5 ⊢
  refine ⟨_, t5.1, t5.2, show 2 < 8 by omega, ?_⟩
  have t6 : at_ (hup hE t (.inr (3, [Value.ref q1, .ref q2, .null, .null, .int 0, .int 0, .int 0, .int 0].set 2 (.ref q3)))) t (.inr (3, [.ref q1, .ref q2, .ref q3, .null, .int 0, .int 0, .int 0, .int 0])) := at_upS t5
  have a6 := at_up (e1 := (.inr (3, [Value.ref q1, .ref q2, .null, .null, .int 0, .int 0, .int 0, .int 0].set 2 (.ref q3)))) a5 (at_ne a5 t5 in_neq)
  have b6 := at_up (e1 := (.inr (3, [Value.ref q1, .ref q2, .null, .null, .int 0, .int 0, .int 0, .int 0].set 2 (.ref q3)))) b5 (at_ne b5 t5 in_neq)
  have c6 := at_up (e1 := (.inr (3, [Value.ref q1, .ref q2, .null, .null, .int 0, .int 0, .int 0, .int 0].set 2 (.ref q3)))) c5 (at_ne c5 t5 in_neq)
  generalize hup hE t (.inr (3, [Value.ref q1, .ref q2, .null, .null, .int 0, .int 0, .int 0, .int 0].set 2 (.ref q3))) = hF at t6 a6 b6 c6 ⊢
  refine ⟨by decide, by decide, fun q4 f4 => ?_⟩
  rw [z0]
  have t7 := at_ad (e1 := (.inl (Z 1, vQ 0 (fun _ => none)))) t6 f4
  have a7 := at_ad (e1 := (.inl (Z 1, vQ 0 (fun _ => none)))) a6 f4
  have b7 := at_ad (e1 := (.inl (Z 1, vQ 0 (fun _ => none)))) b6 f4
  have c7 := at_ad (e1 := (.inl (Z 1, vQ 0 (fun _ => none)))) c6 f4
  have d7 : at_ (had hF q4 (.inl (Z 1, vQ 0 (fun _ => none)))) q4 (.inl (Z 1, vQ 0 (fun _ => none))) := at_adS
  have n24 : q2 ≠ q4 := at_fr b6 f4
  generalize had hF q4 (.inl (Z 1, vQ 0 (fun _ => none))) = hG at t7 a7 b7 c7 d7 ⊢
  refine ⟨_, t7.1, t7.2, show 3 < 8 by omega, ?_⟩
  have t8 : at_ (hup hG t (.inr (3, [Value.ref q1, .ref q2, .ref q3, .null, .int 0, .int 0, .int 0, .int 0].set 3 (.ref q4)))) t (.inr (3, [.ref q1, .ref q2, .ref q3, .ref q4, .int 0, .int 0, .int 0, .int 0])) := at_upS t7
  have a8 := at_up (e1 := (.inr (3, [Value.ref q1, .ref q2, .ref q3, .null, .int 0, .int 0, .int 0, .int 0].set 3 (.ref q4)))) a7 (at_ne a7 t7 in_neq)
  have b8 := at_up (e1 := (.inr (3, [Value.ref q1, .ref q2, .ref q3, .null, .int 0, .int 0, .int 0, .int 0].set 3 (.ref q4)))) b7 (at_ne b7 t7 in_neq)
  have c8 := at_up (e1 := (.inr (3, [Value.ref q1, .ref q2, .ref q3, .null, .int 0, .int 0, .int 0, .int 0].set 3 (.ref q4)))) c7 (at_ne c7 t7 in_neq)
  have d8 := at_up (e1 := (.inr (3, [Value.ref q1, .ref q2, .ref q3, .null, .int 0, .int 0, .int 0, .int 0].set 3 (.ref q4)))) d7 (at_ne d7 t7 in_neq)
  generalize hup hG t (.inr (3, [Value.ref q1, .ref q2, .ref q3, .null, .int 0, .int 0, .int 0, .int 0].set 3 (.ref q4))) = hH at t8 a8 b8 c8 d8 ⊢
  refine ⟨_, t8.1, t8.2, show 7 < 8 by omega, ?_⟩
  have x3 : ∀ {a : Nat} {e : ClassId × vp_A}, at_ hH a (.inl e) → at_ (hup hH t (.inr (3, [Value.ref q1, .ref q2, .ref q3, .ref q4, .int 0, .int 0, .int 0, .int 0].set 7 (.int (-1))))) a (.inl e) := fun k => at_up k (at_ne k t8 in_neq)
  have N0 : ∀ {P : Prop} {k : Nat}, k < sN (sgZ q1 q2 q3 q4) 0 → P := fun z => absurd z (Nat.not_lt_zero _)
  have N1 : ∀ {P : Prop} {k : Nat}, k < sN (sgZ q1 q2 q3 q4) 1 → P := fun z => absurd z (Nat.not_lt_zero _)
  refine hK _ (sgZ q1 q2 q3 q4) ⟨at_upS t8, x3 a8, x3 c8, ⟨_, x3 b8, fun k hk => N0 hk⟩, ⟨_, x3 d8, fun k hk => N1 hk⟩, fun k hk => N0 hk, fun k hk => N0 hk, fun k hk => N1 hk, fun k _ hk => N1 hk, fun k i e k2 i2 e2 hk => N0 hk, ⟨n13, n24, fun k hk => N0 hk⟩, fun k i e hk => N0 hk, Nat.zero_le _, Nat.zero_le _, fun k => Nat.zero_le _, fun a ha => by rw [hF0] at ha; cases ha⟩ ⟨rfl, rfl, rfl, rfl, rfl, fun s hs => absurd hs (Nat.not_lt_zero _), fun s hs => absurd hs (Nat.not_lt_zero _), fun s hs => absurd hs (Nat.not_lt_zero _), fun s _ _ _ hs => absurd hs (Nat.not_lt_zero _), fun s hs => absurd hs (Nat.not_lt_zero _), fun s hs => absurd hs (Nat.not_lt_zero _), fun s hs => absurd hs (Nat.not_lt_zero _), fun s hs => absurd hs (Nat.not_lt_zero _), fun s hs => absurd hs (Nat.not_lt_zero _)⟩
end SACU
