-- calls, merging, the minute's end
section SCAL
variable {Φ : FR} {Z : Nat → ClassId} {h : PH} {t : Nat} {σ : SG} {α : AS} {K : Int32 → PH → Prop} {x1 x2 : Int32}
theorem DP_cong {β : AS} (hd : DP α) (e : ∀ j, nn β j = nn α j) : DP β := fun i j hi hj hp => hd i j (by rw [← e]; exact hi) (by rw [← e]; exact hj) (by
  have e1 : pl β i = pl α i := e _
  have e2 : pl β j = pl α j := e _
  rw [← e1, ← e2]; exact hp)
theorem S_call {s n : Nat} (hA : AI α) (hd : DP α) (H : HR Φ Z h t σ) (S : SR α σ) (hs : s < nn α 0) (hK : ∀ h1 σ1, HR Φ Z h1 t σ1 → SR (aCall s α) σ1 → w_X3_pass_L368 Z t K n x1 (nI (nn α 0)) (nI s + 1) h1) : w_X3_pass_L368 Z t K (n + 1) x1 (nI (nn α 0)) (nI s) h := by
  have h12 := A_np hA
  have h6 := A_ns hA
  have hn := S_n S
  have hm := S_m S
  have hs' : s < sN σ 0 := by omega
  rw [w_X3_pass_L368, if_neg (nI_ge hs (by omega))]
  refine H_waits H (H_w H hs' (H_nw H hs' ?_))
  rw [S_len S hs]
  refine ⟨rc3_of H, S_com hA H S hs ?_⟩
  unfold aCall at hK
  by_cases c : com α s < nI (qq α s).length
  · rw [if_pos c] at hK
    rw [if_neg (Int32.not_le.mpr c)]
    refine ⟨rc3_of H, S_answer hA hd H S hs ?_⟩
    cases a : ans α s with
    | none =>
      rw [a] at hK
      rw [oI_none, if_neg (by decide)]
      exact hK h σ H S
    | some v =>
      rw [a] at hK
      dsimp only at hK
      obtain ⟨v1, v2, v3, _⟩ := ans_some a
      rw [oI_some, if_pos (nI_pos' (by omega))]
      refine ⟨rc3_of H, S_answer hA hd H S hs ?_⟩
      rw [a, oI_some]
      refine ⟨rc3_of H, S_idle hA H S (by omega) ?_⟩
      cases i : idp α v with
      | none => exact absurd (idp_none.mp i) v3.2
      | some p =>
        obtain ⟨b, i1, i2, i3, i4⟩ := idp_some i
        rw [i1] at hK
        dsimp only at hK
        rw [i3] at hK
        dsimp only at hK
        have hp := (A_1 hA i3).2.1
        dsimp only [Option.map, opm]
        refine HU_f3 H (by omega) (fun h1 H1 => ?_)
        have S1 := SR3 (x := p) (v := some s) S
        rw [oI_some] at S1
        refine H_ans (σ := uV σ 6 p (nI s)) H1 ?_
        have ea0 := S_an S1
        have ea : sV (uV σ 6 p (nI s)) 0 1 = ii α 2 0 := ea0
        rw [ea]
        refine HU_ans (σ := uV σ 6 p (nI s)) H1 (fun h2 H2 => ?_)
        exact hK h2 _ H2 (SRan S1)
  · rw [if_neg c] at hK
    rw [if_pos (Int32.not_lt.mp c)]
    exact hK h σ H S
theorem S_callF : ∀ k i n (α : AS) (h : PH) (σ : SG), i + k = nn α 0 → k < n → AI α → DP α → HR Φ Z h t σ → SR α σ → (∀ h1 σ1, HR Φ Z h1 t σ1 → SR (afold aCall i k α) σ1 → w_X3_pass_L430 Z t K FU x1 (nI (nn α 0)) 0 h1) → w_X3_pass_L368 Z t K n x1 (nI (nn α 0)) (nI i) h := by
  intro k
  induction k with
  | zero =>
    intro i n α h σ h1 h2 hA hd H S hK
    obtain ⟨n, rfl⟩ : ∃ m, n = m + 1 := ⟨n - 1, by omega⟩
    have h6 := A_ns hA
    rw [show i = nn α 0 from by omega, w_X3_pass_L368, if_pos (nI_le (Nat.le_refl _) (by omega))]
    exact hK h σ H S
  | succ k ih =>
    intro i n α h σ h1 h2 hA hd H S hK
    obtain ⟨n, rfl⟩ : ∃ m, n = m + 1 := ⟨n - 1, by omega⟩
    refine S_call hA hd H S (by omega) (fun h3 σ3 H3 S3 => ?_)
    have hn0 : nn (aCall i α) 0 = nn α 0 := nn_call
    rw [nI_1, ← hn0]
    refine ih (i + 1) n (aCall i α) h3 σ3 (by omega) (by omega) (AI_call hA (by omega)) (DP_cong hd (fun j => nn_call)) H3 S3 (fun h4 σ4 H4 S4 => ?_)
    rw [hn0]
    exact hK h4 σ4 H4 S4
-- merging
def aMg (s β : Nat) (α : AS) : AS := if fb α s 2 = some β then (match oo α 1 (3 * s + β) with
  | none => α
  | some p => aO (aO α 0 (pl α s) (some p)) 1 (3 * s + β) none) else α
def mgR (Z : Nat → ClassId) (t : Nat) (κ : Int32 → Int32 → Int32 → Int32 → PH → Prop) (x1 x2 : Int32) (s β x5 : Nat) (h : PH) (b : Bool) : Prop := if b = true then (gR h 3 0 t fun b34 => ldI Z h b34 (nI s) fun v35 => pV h 2 0 x5 (.int v35) fun h36 => κ x1 x2 (nI s) (nI β + (-1)) h36) else κ x1 x2 (nI s) (nI β + (-1)) h
theorem S_first {κ : Int32 → Int32 → Int32 → Int32 → PH → Prop} {s β x5 : Nat} (hA : AI α) (H : HR Φ Z h t σ) (S : SR α σ) (hs : s < nn α 0) (hβ : β < 3) : ∀ k i n (fl : Bool), i + k = β → k < n → mgR Z t κ x1 x2 s β x5 h (fl && (ffind (fun m => kd α (3 * s + m) == 2) i k).isNone) → w_X3_pass_L490 Z t κ K n x1 x2 (nI s) (nI β) x5 (bI fl) (nI i) h := by
  have h6 := A_ns hA
  have hm := S_m S
  intro k
  induction k with
  | zero =>
    intro i n fl h1 h2 hR
    obtain ⟨n, rfl⟩ : ∃ m, n = m + 1 := ⟨n - 1, by omega⟩
    rw [show i = β from by omega, w_X3_pass_L490, if_pos (nI_le (Nat.le_refl _) (by omega))]
    rw [ffind] at hR
    unfold mgR at hR
    cases fl with
    | true => rw [if_neg (by decide)]; exact hR
    | false => rw [if_pos (show bI false = 0 from rfl)]; exact hR
  | succ k ih =>
    intro i n fl h1 h2 hR
    obtain ⟨n, rfl⟩ : ∃ m, n = m + 1 := ⟨n - 1, by omega⟩
    rw [w_X3_pass_L490, if_neg (nI_ge (by omega) (by omega))]
    cases fl with
    | false =>
      rw [if_pos (show bI false = 0 from rfl), nI_1]
      exact ih (i + 1) n false (by omega) (by omega) hR
    | true =>
      rw [if_neg (by decide)]
      rw [ffind] at hR
      refine ⟨rc3_of H, S_inb hA H S (by omega) (by omega) ?_⟩
      cases e : oo α 1 (3 * s + i) with
      | none =>
        rw [if_neg (by rw [kd_0 e]; decide)] at hR
        show w_X3_pass_L490 Z t κ K n x1 x2 (nI s) (nI β) x5 1 (nI i + 1) h
        rw [nI_1]
        exact ih (i + 1) n true (by omega) (by omega) hR
      | some p =>
        have hp := (A_1 hA e).2.1
        show rc3 h t ∧ _
        refine ⟨rc3_of H, S_inb hA H S (by omega) (by omega) ?_⟩
        rw [e]
        show gI h 2 3 (sB σ 0 p) _
        refine H_f3 H (by omega) ?_
        rw [S_go S hp, nI_1]
        cases g : oo α 2 p with
        | none =>
          rw [if_neg (by rw [kd_1 e g]; decide)] at hR
          rw [oI_none, if_neg (by decide)]
          exact ih (i + 1) n true (by omega) (by omega) hR
        | some g2 =>
          have hg := (A_2 hA g).1
          rw [if_pos (by rw [kd_2 e g]; rfl)] at hR
          rw [oI_some, if_pos (nI_pos' (by omega))]
          exact ih (i + 1) n false (by omega) (by omega) hR
theorem ffind_le {P : Nat → Bool} {β : Nat} (hβ : β < 3) (hP : P β = true) : (ffind P 0 β).isNone = true ↔ ffind P 0 3 = some β := by
  constructor
  · intro e
    have e1 : ffind P 0 β = none := Option.isNone_iff_eq_none.mp e
    cases f : ffind P 0 3 with
    | none =>
      have := ffind_none f β (Nat.zero_le _) (by omega)
      rw [hP] at this; cases this
    | some j =>
      obtain ⟨_, h2, h3, h4⟩ := ffind_some f
      have hj : ¬ j < β := fun z => by
        have := ffind_none e1 j (Nat.zero_le _) (by omega)
        rw [h3] at this; cases this
      have hj2 : ¬ β < j := fun z => by
        have := h4 β (Nat.zero_le _) z
        rw [hP] at this; cases this
      rw [show j = β from by omega]
  · intro e
    obtain ⟨_, _, _, h4⟩ := ffind_some e
    rw [Option.isNone_iff_eq_none]
    cases f : ffind P 0 β with
    | none => rfl
    | some j =>
      obtain ⟨_, h2, h3, _⟩ := ffind_some f
      have := h4 j (Nat.zero_le _) (by omega)
      rw [h3] at this; cases this
theorem S_mergeAt {κ : Int32 → Int32 → Int32 → PH → Prop} {s β n : Nat} (hA : AI α) (H : HR Φ Z h t σ) (S : SR α σ) (hs : s < nn α 0) (hβ : β < 3) (hfr : fb α s 2 = some β → oo α 0 (pl α s) = none) (hK : ∀ h1 σ1, HR Φ Z h1 t σ1 → SR (aMg s β α) σ1 → w_X3_pass_L454 Z t κ K n x1 x2 (nI s) (nI β + (-1)) h1) : w_X3_pass_L454 Z t κ K (n + 1) x1 x2 (nI s) (nI β) h := by
  have h6 := A_ns hA
  have hn := S_n S
  have hm := S_m S
  have hpl := A_pl hA hs
  rw [w_X3_pass_L454, if_neg (nI_pos (by omega))]
  refine ⟨rc3_of H, S_inb hA H S (by omega) hβ ?_⟩
  unfold aMg at hK
  have nof : kd α (3 * s + β) ≠ 2 → ¬ fb α s 2 = some β := fun z e => z (fb_some e).2.1
  cases e : oo α 1 (3 * s + β) with
  | none =>
    rw [if_neg (nof (by rw [kd_0 e]; decide))] at hK
    exact hK h σ H S
  | some p =>
    have hp := (A_1 hA e).2.1
    show gI h 2 3 (sB σ 0 p) _
    refine H_f3 H (by omega) ?_
    rw [S_go S hp]
    cases g : oo α 2 p with
    | none =>
      rw [if_neg (nof (by rw [kd_1 e g]; decide))] at hK
      rw [oI_none, if_neg (by decide)]
      exact hK h σ H S
    | some g2 =>
      have hg := (A_2 hA g).1
      have hk := kd_2 e g
      rw [oI_some, if_pos (nI_pos' (by omega))]
      refine S_first (κ := fun x1 x2 x3 x4 h => w_X3_pass_L454 Z t κ K n x1 x2 x3 x4 h) hA H S hs hβ β 0 FU true (Nat.zero_add _) (by unfold FU; omega) ?_
      unfold mgR
      have hiff := ffind_le (P := fun m => kd α (3 * s + m) == 2) hβ (by show (kd α (3 * s + β) == 2) = true; rw [hk]; rfl)
      by_cases c : fb α s 2 = some β
      · rw [if_pos c, e] at hK
        dsimp only at hK
        rw [if_pos (by rw [Bool.true_and]; exact hiff.mpr c)]
        refine H_place H (H_pl H (by omega) ?_)
        rw [S_pl S hs]
        exact HU_f0 H (by omega) (fun h1 H1 => hK h1 _ H1 (SR_out S (hfr c) hpl e))
      · rw [if_neg c] at hK
        rw [if_neg (by rw [Bool.true_and]; exact fun z => c (hiff.mp z))]
        exact hK h σ H S
theorem aMg_no {s β : Nat} (h : fb α s 2 ≠ some β) : aMg s β α = α := by unfold aMg; rw [if_neg h]
theorem aMg_is {s b : Nat} (h : fb α s 2 = some b) (hf : oo α 0 (pl α s) = none) : aMg s b α = aMerge s α := by
  unfold aMg aMerge
  rw [if_pos h, h]
  dsimp only
  rw [hf]
  cases oo α 1 (3 * s + b) <;> rfl
theorem aMg_after {s b β : Nat} (h : fb α s 2 = some b) (hf : oo α 0 (pl α s) = none) (hlt : β < b) : fb (aMerge s α) s 2 ≠ some β := by
  obtain ⟨h3, hk, hm⟩ := fb_some h
  intro e
  obtain ⟨_, hk2, _⟩ := fb_some e
  refine hm β hlt ?_
  rw [← hk2]
  obtain ⟨p, g, e1, e2⟩ := kd_e2 hk
  unfold aMerge
  rw [h]
  dsimp only
  rw [hf]
  dsimp only
  rw [e1]
  dsimp only
  unfold kd
  rw [oo_aO, if_neg (by omega), oo_aO, if_neg (by omega)]
  cases oo α 1 (3 * s + β) with
  | none => rfl
  | some q => rfl
theorem m1_3 : nI 2 + (-1) = nI 1 := by decide
theorem m1_2 : nI 1 + (-1) = nI 0 := by decide
theorem m1_1 : nI 0 + (-1) = -1 := by decide
theorem S_mergeC {κ : Int32 → Int32 → Int32 → PH → Prop} {s m : Nat} (hA : AI α) (H : HR Φ Z h t σ) (S : SR α σ) (hs : s < nn α 0) (e : oo α 0 (pl α s) = none) (fin : ∀ h1 σ1, HR Φ Z h1 t σ1 → SR (aMerge s α) σ1 → w_X3_pass_L454 Z t κ K m x1 x2 (nI s) (-1) h1) : w_X3_pass_L454 Z t κ K (m + 1 + 1 + 1) x1 x2 (nI s) (nI 2) h := by
  have hA' := AI_merge hA hs
  have hs2 : s < nn (aMerge s α) 0 := by rw [nn_merge]; exact hs
  cases f : fb α s 2 with
  | none =>
    have ea : aMerge s α = α := by unfold aMerge; rw [f]
    rw [ea] at fin
    refine S_mergeAt (β := 2) hA H S hs (by omega) (fun _ => e) (fun h1 σ1 H1 S1 => ?_)
    rw [aMg_no (by rw [f]; exact fun z => by cases z)] at S1
    rw [m1_3]
    refine S_mergeAt (β := 1) hA H1 S1 hs (by omega) (fun _ => e) (fun h2 σ2 H2 S2 => ?_)
    rw [aMg_no (by rw [f]; exact fun z => by cases z)] at S2
    rw [m1_2]
    refine S_mergeAt (β := 0) hA H2 S2 hs (by omega) (fun _ => e) (fun h3 σ3 H3 S3 => ?_)
    rw [aMg_no (by rw [f]; exact fun z => by cases z)] at S3
    rw [m1_1]
    exact fin h3 σ3 H3 S3
  | some b =>
    have hb := (fb_some f).1
    match b, hb, f with
    | 2, _, f =>
      refine S_mergeAt (β := 2) hA H S hs (by omega) (fun _ => e) (fun h1 σ1 H1 S1 => ?_)
      rw [aMg_is f e] at S1
      rw [m1_3]
      refine S_mergeAt (β := 1) hA' H1 S1 hs2 (by omega) (fun z => absurd z (aMg_after f e (by omega))) (fun h2 σ2 H2 S2 => ?_)
      rw [aMg_no (aMg_after f e (by omega))] at S2
      rw [m1_2]
      refine S_mergeAt (β := 0) hA' H2 S2 hs2 (by omega) (fun z => absurd z (aMg_after f e (by omega))) (fun h3 σ3 H3 S3 => ?_)
      rw [aMg_no (aMg_after f e (by omega))] at S3
      rw [m1_1]
      exact fin h3 σ3 H3 S3
    | 1, _, f =>
      refine S_mergeAt (β := 2) hA H S hs (by omega) (fun _ => e) (fun h1 σ1 H1 S1 => ?_)
      rw [aMg_no (by rw [f]; exact fun z => by cases z)] at S1
      rw [m1_3]
      refine S_mergeAt (β := 1) hA H1 S1 hs (by omega) (fun _ => e) (fun h2 σ2 H2 S2 => ?_)
      rw [aMg_is f e] at S2
      rw [m1_2]
      refine S_mergeAt (β := 0) hA' H2 S2 hs2 (by omega) (fun z => absurd z (aMg_after f e (by omega))) (fun h3 σ3 H3 S3 => ?_)
      rw [aMg_no (aMg_after f e (by omega))] at S3
      rw [m1_1]
      exact fin h3 σ3 H3 S3
    | 0, _, f =>
      refine S_mergeAt (β := 2) hA H S hs (by omega) (fun _ => e) (fun h1 σ1 H1 S1 => ?_)
      rw [aMg_no (by rw [f]; exact fun z => by cases z)] at S1
      rw [m1_3]
      refine S_mergeAt (β := 1) hA H1 S1 hs (by omega) (fun _ => e) (fun h2 σ2 H2 S2 => ?_)
      rw [aMg_no (by rw [f]; exact fun z => by cases z)] at S2
      rw [m1_2]
      refine S_mergeAt (β := 0) hA H2 S2 hs (by omega) (fun _ => e) (fun h3 σ3 H3 S3 => ?_)
      rw [aMg_is f e] at S3
      rw [m1_1]
      exact fin h3 σ3 H3 S3
theorem i2_nI : (2 : Int32) = nI 2 := by decide
theorem FU4 : ∃ m, FU = m + 1 + 1 + 1 + 1 := ⟨1996, by unfold FU; decide⟩
theorem S_merge {s n : Nat} (hA : AI α) (H : HR Φ Z h t σ) (S : SR α σ) (hs : s < nn α 0) (hK : ∀ h1 σ1, HR Φ Z h1 t σ1 → SR (aMerge s α) σ1 → w_X3_pass_L430 Z t K n x1 (nI (nn α 0)) (nI s + 1) h1) : w_X3_pass_L430 Z t K (n + 1) x1 (nI (nn α 0)) (nI s) h := by
  have h6 := A_ns hA
  have hn := S_n S
  have hpl := A_pl hA hs
  rw [w_X3_pass_L430, if_neg (nI_ge hs (by omega))]
  refine H_place H (H_pl H (by omega) ?_)
  rw [S_pl S hs]
  refine ⟨rc3_of H, S_slot hA H S hpl ?_⟩
  cases e : oo α 0 (pl α s) with
  | some p =>
    have ea : aMerge s α = α := by
      unfold aMerge
      cases fb α s 2 with
      | none => rfl
      | some b => dsimp only; rw [e]
    rw [ea] at hK
    exact hK h σ H S
  | none =>
    obtain ⟨m, hm⟩ := FU4
    dsimp only [Option.map, opm]
    rw [hm, i2_nI]
    refine S_mergeC (m := m + 1) (κ := fun x1 x2 x3 h => w_X3_pass_L430 Z t K n x1 x2 x3 h) hA H S hs e (fun h1 σ1 H1 S1 => ?_)
    rw [w_X3_pass_L454, if_pos (by decide)]
    exact hK h1 σ1 H1 S1
theorem S_mergeF : ∀ k i n (α : AS) (h : PH) (σ : SG), i + k = nn α 0 → k < n → AI α → HR Φ Z h t σ → SR α σ → (∀ h1 σ1, HR Φ Z h1 t σ1 → SR (afold aMerge i k α) σ1 → w_X3_pass_L578 Z t K FU x1 (sN σ1 3) (nI (nn α 0)) 0 h1) → w_X3_pass_L430 Z t K n x1 (nI (nn α 0)) (nI i) h := by
  intro k
  induction k with
  | zero =>
    intro i n α h σ h1 h2 hA H S hK
    obtain ⟨n, rfl⟩ : ∃ m, n = m + 1 := ⟨n - 1, by omega⟩
    have h6 := A_ns hA
    rw [show i = nn α 0 from by omega, w_X3_pass_L430, if_pos (nI_le (Nat.le_refl _) (by omega))]
    refine H_waits H (H_nW H ?_)
    rw [S_n S]
    exact hK h σ H S
  | succ k ih =>
    intro i n α h σ h1 h2 hA H S hK
    obtain ⟨n, rfl⟩ : ∃ m, n = m + 1 := ⟨n - 1, by omega⟩
    refine S_merge hA H S (by omega) (fun h3 σ3 H3 S3 => ?_)
    have hn0 : nn (aMerge i α) 0 = nn α 0 := nn_merge
    rw [nI_1, ← hn0]
    refine ih (i + 1) n (aMerge i α) h3 σ3 (by omega) (by omega) (AI_merge hA (by omega)) H3 S3 (fun h4 σ4 H4 S4 => ?_)
    rw [hn0]
    exact hK h4 σ4 H4 S4
-- the minute's end
def TS (σ : SG) (i j : Nat) (σ' : SG) : Prop := σ'.1 = σ.1 ∧ σ'.2.1 = σ.2.1 ∧ σ'.2.2.1 = σ.2.2.1 ∧ (∀ k, (sL σ' k).length = (sL σ k).length) ∧ ∀ (k x : Nat) (e e2 : RwT), (sL σ k)[x]? = some e → (sL σ' k)[x]? = some e2 → e2.1 = e.1 ∧ e2.2 0 = e.2 0 ∧ e2.2 2 = e.2 2 ∧ e2.2 1 = if k < i ∨ (k = i ∧ x < j) then e.2 1 + 1 else e.2 1
theorem S_tkI {κ : Int32 → Nat → Int32 → Int32 → PH → Prop} {i : Nat} (hi : i < sN σ 0) {x4 : Int32} : ∀ k j n (h : PH) (σ' : SG), j + k = (sL σ i).length → k < n → HR Φ Z h t σ' → TS σ i j σ' → (∀ h1 σ1, HR Φ Z h1 t σ1 → TS σ (i + 1) 0 σ1 → κ x1 (sN σ 3) x4 (nI i + 1) h1) → w_X3_pass_L603 Z t κ K n x1 (sN σ 3) x4 (nI i) (sB σ 1 i) (nI (sL σ i).length) (nI j) h := by
  intro k
  induction k with
  | zero =>
    intro j n h σ' h1 h2 H T hK
    obtain ⟨n, rfl⟩ : ∃ m, n = m + 1 := ⟨n - 1, by omega⟩
    have h9 := H_l9 H i
    rw [T.2.2.2.1 i] at h9
    rw [show j = (sL σ i).length from by omega] at T ⊢
    rw [w_X3_pass_L603, if_pos (nI_le (Nat.le_refl _) (by omega))]
    refine hK h σ' H ⟨T.1, T.2.1, T.2.2.1, T.2.2.2.1, fun k x e e2 z1 z2 => ?_⟩
    obtain ⟨a1, a2, a3, a4⟩ := T.2.2.2.2 k x e e2 z1 z2
    refine ⟨a1, a2, a3, a4.trans ?_⟩
    have hx := (List.getElem?_eq_some_iff.mp z1).1
    by_cases c : k < i ∨ (k = i ∧ x < (sL σ i).length)
    · rw [if_pos c, if_pos (by omega)]
    · rw [if_neg c, if_neg (fun z => by
        rcases z with z | z
        · by_cases d : k = i
          · subst d; exact c (Or.inr ⟨rfl, hx⟩)
          · exact c (Or.inl (by omega))
        · omega)]
  | succ k ih =>
    intro j n h σ' h1 h2 H T hK
    obtain ⟨n, rfl⟩ : ∃ m, n = m + 1 := ⟨n - 1, by omega⟩
    have h9 := H_l9 H i
    have hl := T.2.2.2.1 i
    have e0 : sN σ' 0 = sN σ 0 := congrFun T.1 0
    have eB : sB σ' 1 i = sB σ 1 i := congrFun (congrFun T.2.1 1) i
    rw [w_X3_pass_L603, if_neg (nI_ge (by omega) (by omega))]
    obtain ⟨e, he⟩ : ∃ e, (sL σ' i)[j]? = some e := ⟨_, List.getElem?_eq_getElem (by omega)⟩
    obtain ⟨e3, he3⟩ : ∃ e, (sL σ i)[j]? = some e := ⟨_, List.getElem?_eq_getElem (by omega)⟩
    obtain ⟨a1, a2, a3, a4⟩ := T.2.2.2.2 i j e3 e he3 he
    rw [if_neg (by omega)] at a4
    rw [← eB]
    refine H_row H (by omega) he (H_cell (j := 1) H (by omega) he (by omega) ?_)
    refine HU_cell (j := 1) H (by omega) he (by omega) (fun h3 H3 => ?_)
    rw [eB, nI_1]
    refine ih (j + 1) n h3 _ (by omega) (by omega) H3 ⟨T.1, T.2.1, T.2.2.1, fun k2 => ?_, fun k2 x f1 f2 z1 z2 => ?_⟩ hK
    · rw [sL_uL]
      by_cases c : k2 = i
      · rw [if_pos c, List.length_set, c]; exact hl
      · rw [if_neg c]; exact T.2.2.2.1 k2
    · rw [sL_uL] at z2
      by_cases c : k2 = i
      · rw [if_pos c] at z2
        by_cases d : x = j
        · subst d
          rw [List.getElem?_set_self (by omega)] at z2
          cases z2
          rw [c, he3] at z1
          cases z1
          refine ⟨a1, a2, a3, ?_⟩
          rw [if_pos (by omega)]
          show (if 1 = 1 then e.2 1 + 1 else e.2 1) = _
          rw [if_pos rfl, a4]
        · rw [List.getElem?_set_ne (Ne.symm d)] at z2
          obtain ⟨b1, b2, b3, b4⟩ := T.2.2.2.2 k2 x f1 f2 z1 (by rw [c]; exact z2)
          refine ⟨b1, b2, b3, b4.trans ?_⟩
          by_cases f : k2 < i ∨ (k2 = i ∧ x < j)
          · rw [if_pos f, if_pos (by omega)]
          · rw [if_neg f, if_neg (by omega)]
      · rw [if_neg c] at z2
        obtain ⟨b1, b2, b3, b4⟩ := T.2.2.2.2 k2 x f1 f2 z1 z2
        refine ⟨b1, b2, b3, b4.trans ?_⟩
        by_cases f : k2 < i ∨ (k2 = i ∧ x < j)
        · rw [if_pos f, if_pos (by omega)]
        · rw [if_neg f, if_neg (by omega)]
theorem S_tkO : ∀ k i n (h : PH) (σ' : SG), i + k = sN σ 0 → k < n → HR Φ Z h t σ' → TS σ i 0 σ' → (∀ h1 σ1, HR Φ Z h1 t (uV σ1 0 0 (sV σ 0 0 + 1)) → TS σ (sN σ 0) 0 σ1 → K x1 h1) → w_X3_pass_L578 Z t K n x1 (sN σ 3) (nI (sN σ 0)) (nI i) h := by
  intro k
  induction k with
  | zero =>
    intro i n h σ' h1 h2 H T hK
    obtain ⟨n, rfl⟩ : ∃ m, n = m + 1 := ⟨n - 1, by omega⟩
    have h6 := H_n6 H
    have e0 : sN σ' 0 = sN σ 0 := congrFun T.1 0
    have ev : sV σ' 0 0 = sV σ 0 0 := congrFun (congrFun T.2.2.1 0) 0
    rw [show i = sN σ 0 from by omega] at T ⊢
    rw [w_X3_pass_L578, if_pos (nI_le (Nat.le_refl _) (by omega))]
    refine H_min H ?_
    rw [ev]
    exact HU_min H (fun h1 H1 => hK h1 σ' H1 T)
  | succ k ih =>
    intro i n h σ' h1 h2 H T hK
    obtain ⟨n, rfl⟩ : ∃ m, n = m + 1 := ⟨n - 1, by omega⟩
    have h6 := H_n6 H
    have e0 : sN σ' 0 = sN σ 0 := congrFun T.1 0
    have e3 : sN σ' 3 = sN σ 3 := congrFun T.1 3
    have eB : sB σ' 1 i = sB σ 1 i := congrFun (congrFun T.2.1 1) i
    have hl := T.2.2.2.1 i
    have h9 := H_l9 H i
    rw [w_X3_pass_L578, if_neg (nI_ge (by omega) (by omega)), ← e3]
    refine H_w H (by omega) (H_nw H (by omega) ?_)
    rw [e3, eB, hl]
    refine S_tkI (κ := fun x1 x3 x4 x5 h => w_X3_pass_L578 Z t K n x1 x3 x4 x5 h) (by omega) (sL σ i).length 0 FU h σ' (Nat.zero_add _) (by unfold FU; omega) H T (fun h3 σ3 H3 T3 => ?_)
    show w_X3_pass_L578 Z t K n x1 (sN σ 3) (nI (sN σ 0)) (nI i + 1) h3
    rw [nI_1]
    exact ih (i + 1) n h3 σ3 (by omega) (by omega) H3 T3 hK
theorem i32_tick (a b : Int32) : (a + 1) - b = (a - b) + 1 := by rw [Int32.sub_eq_add_neg, Int32.sub_eq_add_neg, i32_arc]
theorem SR_tick {σ' : SG} (S : SR α σ) (T : TS σ (sN σ 0) 0 σ') : SR (aN α 2 (nn α 2 + 1)) (uV σ' 0 0 (sV σ 0 0 + 1)) := by
  obtain ⟨h0, h1, h2, h3, h4, h5, h6, h7, h8, h9, h10, h11, h12, h13⟩ := S
  obtain ⟨t1, t2, t3, t4, t5⟩ := T
  have eV : ∀ k p, sV σ' k p = sV σ k p := fun k p => congrFun (congrFun t3 k) p
  have eN : ∀ k, sN σ' k = sN σ k := fun k => congrFun t1 k
  have n0 : ∀ j, j ≠ 2 → nn (aN α 2 (nn α 2 + 1)) j = nn α j := fun j hj => by rw [nn_aN, if_neg hj]
  have pp1 : ∀ s, pl (aN α 2 (nn α 2 + 1)) s = pl α s := fun s => n0 (10 + s) (by omega)
  have r2 : nn (aN α 2 (nn α 2 + 1)) 2 = nn α 2 + 1 := rfl
  refine ⟨(eN 0).trans h0, (eN 1).trans h1, ?_, ((vne2 (by decide)).trans (eV 0 1)).trans h3, ((vne2 (by decide)).trans (eV 0 2)).trans h4, fun s hs => ((vne (by decide)).trans (eV 1 s)).trans ((h5 s hs).trans (by rw [pp1])), fun s hs => ((vne (by decide)).trans (eV 2 s)).trans (h6 s hs), fun s hs => (t4 s).trans (h7 s hs), fun s i e e2 hs z1 z2 => ?_, fun p hp => ((vne (by decide)).trans (eV 6 p)).trans (h9 p hp), fun p hp => ((vne (by decide)).trans (eV 7 p)).trans (h10 p hp), fun p hp => ((vne (by decide)).trans (eV 8 p)).trans (h11 p hp), fun p hp => ((vne (by decide)).trans (eV 9 p)).trans (h12 p hp), fun p hp => ?_⟩
  · rw [veq, h2, nI_1]; rfl
  · have z1 : (sL σ' s)[i]? = some e := z1
    have hs' : s < nn α 0 := hs
    have hi := (List.getElem?_eq_some_iff.mp z1).1
    rw [t4] at hi
    obtain ⟨e3, he3⟩ : ∃ e, (sL σ s)[i]? = some e := ⟨_, List.getElem?_eq_getElem hi⟩
    obtain ⟨a1, a2, a3, a4⟩ := t5 s i e3 e he3 z1
    obtain ⟨b1, b2, b3⟩ := h8 s i e3 e2 hs' he3 z2
    rw [if_pos (Or.inl (by omega))] at a4
    refine ⟨a2.trans b1, ?_, a3.trans b3⟩
    rw [a4, b2, r2, ← nI_1, i32_tick]
  · have : SLOC (aN α 2 (nn α 2 + 1)) σ' p := by
      rcases h13 p hp with ⟨x, a1, a2, a3⟩ | ⟨s, b, a1, a2, a3, a4, a5, a6⟩
      · exact Or.inl ⟨x, a1, a2, (eV 3 p).trans a3⟩
      · exact Or.inr ⟨s, b, a1, a2, a3, (eV 3 p).trans a4, (eV 4 p).trans a5, (eV 5 p).trans a6⟩
    exact SLOC_ne (by decide) (by decide) (by decide) (fun _ => rfl) (fun _ => rfl) this
theorem TA_cong {β : AS} (hn : nn β 0 = nn α 0) (hi : ∀ s, ii β 0 s = ii α 0 s) : TA β = TA α := by
  unfold TA
  rw [hn]
  exact isum_ext (fun m _ _ => hi m)
theorem ii0_B1 {s p k : Nat} {e : Nat × Nat × Nat} {q : List (Nat × Nat × Nat)} : ii (aB1 s p e q α) 0 k = ii α 0 k := by
  unfold aB1
  rw [ii_aQ, ii_aI, if_neg (fun z => absurd z.1 (by decide)), ii_aO, ii_aO]
theorem ii0_BdAt {s c k : Nat} : ii (aBdAt s c α) 0 k = ii α 0 k := by
  unfold aBdAt
  cases qq α s with
  | nil => rfl
  | cons a q =>
    dsimp only
    cases oo α 1 c with
    | none => rfl
    | some p =>
      dsimp only
      cases oo α 2 p with
      | some w => rfl
      | none => exact ii0_B1
theorem ii0_afB {s x : Nat} : ∀ k i (α : AS), ii (afB s i k α) 0 x = ii α 0 x := by
  intro k
  induction k with
  | zero => intro i α; rfl
  | succ k ih => intro i α; rw [afB, ih, ii0_BdAt]
theorem ii0_call {s x : Nat} : ii (aCall s α) 0 x = ii α 0 x := by
  unfold aCall
  by_cases c : com α s < nI (qq α s).length
  · rw [if_pos c]
    cases ans α s with
    | none => rfl
    | some v =>
      dsimp only
      cases fb α v 1 with
      | none => rfl
      | some b =>
        dsimp only
        cases oo α 1 (3 * v + b) with
        | none => rfl
        | some p => dsimp only; rw [ii_aI, if_neg (fun z => absurd z.1 (by decide)), ii_aO]
  · rw [if_neg c]
theorem ii0_merge {s x : Nat} : ii (aMerge s α) 0 x = ii α 0 x := by
  unfold aMerge
  cases fb α s 2 with
  | none => rfl
  | some b =>
    dsimp only
    cases oo α 0 (pl α s) with
    | some q => rfl
    | none =>
      dsimp only
      cases oo α 1 (3 * s + b) with
      | none => rfl
      | some p => rfl
theorem ii0_fold {step : Nat → AS → AS} {x : Nat} (hst : ∀ s α, ii (step s α) 0 x = ii α 0 x) : ∀ k i (α : AS), ii (afold step i k α) 0 x = ii α 0 x := by
  intro k
  induction k with
  | zero => intro i α; rfl
  | succ k ih => intro i α; rw [afold, ih, hst]
theorem TA_min (hA : AI α) : TA (aMin none α) = TA (m1 none α) := by
  obtain ⟨a1, b1⟩ := m1_ok (mk := none) hA
  have h : ∀ s, ii (aMin none α) 0 s = ii (m1 none α) 0 s := fun s => by
    unfold aMin
    rw [ii_aN]
    unfold m4
    rw [ii0_fold (fun _ _ => ii0_merge)]
    unfold m3
    rw [ii0_fold (fun _ _ => ii0_call)]
    unfold m2
    rw [ii0_fold (fun _ _ => by unfold aBoard; exact ii0_afB 3 0 _)]
  exact TA_cong (by rw [nn_min hA (by decide), b1]) h
/-- a minute of the law's simulation -/
theorem S_pass {K : Int32 → PH → Prop} (hA : AI α) (hd : DP α) (H : HR Φ Z h t σ) (S : SR α σ) (hK : ∀ h1 σ1, HR Φ Z h1 t σ1 → SR (aMin none α) σ1 → K (TA (aMin none α) - TA α) h1) : w_X3_pass Z t K h := by
  have h6 := A_ns hA
  have h12 := A_np hA
  have hn := S_n S
  have hm := S_m S
  have hF : nn α 0 < FU := by unfold FU; omega
  obtain ⟨a1, b1⟩ := m1_ok (mk := none) hA
  obtain ⟨a2, b2⟩ := m2_ok (mk := none) hA
  obtain ⟨a3, b3⟩ := m3_ok (mk := none) hA
  obtain ⟨a4, b4⟩ := m4_ok (mk := none) hA
  unfold w_X3_pass
  refine H_place H (H_nP H (H_pods H (H_nD H ?_)))
  rw [hn]
  refine S_mvL (σ := σ) (sN σ 1) 0 FU h σ (Nat.zero_add _) (by unfold FU; omega) H ⟨rfl, rfl, rfl, fun k p => by rw [if_neg (by omega)]⟩ (fun h1 σ1 H1 M1 => ?_)
  have S1 := SR_mv hA S M1
  refine S_offL (nn α 0) 0 FU 0 (aMv α) h1 σ1 (Nat.zero_add _) hF (AI_mv hA) H1 S1 (fun h2 σ2 y H2 S2 hy => ?_)
  have S2 : SR (m1 none α) σ2 := S2
  have hy : y + TA α = 0 + TA (m1 none α) := hy
  show w_X3_pass_L225 Z t K 8 y (nI (nn α 0)) 0 h2
  rw [← b1 0]
  refine S_boardF (nn (m1 none α) 0) 0 8 (m1 none α) h2 σ2 (Nat.zero_add _) (by rw [b1]; omega) a1 H2 S2 (fun h3 σ3 H3 S3 => ?_)
  rw [b1 0] at S3 ⊢
  have S3 : SR (m2 none α) σ3 := S3
  rw [← b2 0]
  refine S_callF (nn (m2 none α) 0) 0 FU (m2 none α) h3 σ3 (Nat.zero_add _) (by rw [b2]; exact hF) a2 (DP_cong hd b2) H3 S3 (fun h4 σ4 H4 S4 => ?_)
  rw [b2 0] at S4 ⊢
  have S4 : SR (m3 none α) σ4 := S4
  rw [← b3 0]
  refine S_mergeF (nn (m3 none α) 0) 0 FU (m3 none α) h4 σ4 (Nat.zero_add _) (by rw [b3]; exact hF) a3 H4 S4 (fun h5 σ5 H5 S5 => ?_)
  rw [b3 0] at S5 ⊢
  have S5 : SR (m4 none α) σ5 := S5
  have e5 : sN σ5 0 = nn α 0 := (S_n S5).trans (b4 0)
  rw [← e5]
  refine S_tkO (σ := σ5) (sN σ5 0) 0 FU h5 σ5 (Nat.zero_add _) (by rw [e5]; exact hF) H5 ⟨rfl, rfl, rfl, fun _ => rfl, fun k x e e2 z1 z2 => ?_⟩ (fun h6 σ6 H6 T6 => ?_)
  · rw [z1] at z2
    cases z2
    exact ⟨rfl, rfl, rfl, by rw [if_neg (by omega)]⟩
  · have S6 := SR_tick S5 T6
    have S6 : SR (aMin none α) (uV σ6 0 0 (sV σ5 0 0 + 1)) := by unfold aMin; rw [← b4 2]; exact S6
    have ey : y = TA (aMin none α) - TA α := by
      rw [TA_min hA]
      rw [Int32.zero_add] at hy
      rw [← hy, Int32.add_sub_cancel]
    rw [ey]
    exact hK h6 _ H6 S6
end SCAL
