-- the minute: the slots go on
theorem i32_arc (a b c : Int32) : a + b + c = a + c + b := by rw [Int32.add_assoc, Int32.add_comm b, ← Int32.add_assoc]
def mvS (v : Int32) : Int32 := if v < 0 then v else if v = 23 then 0 else v + 1
def MV (σ σ' : SG) (i : Nat) : Prop := σ'.1 = σ.1 ∧ σ'.2.1 = σ.2.1 ∧ σ'.2.2.2 = σ.2.2.2 ∧ ∀ k p, sV σ' k p = if k = 3 ∧ p < i then mvS (sV σ 3 p) else sV σ k p
theorem mvS_e : ∀ a : Fin 24, mvS (nI a.val) = nI ((a.val + 1) % 24) := by decide +kernel
section SOFF
variable {Φ : FR} {Z : Nat → ClassId} {h : PH} {t : Nat} {σ : SG} {α : AS} {K : Int32 → PH → Prop} {x1 : Int32}
theorem S_mvL {x2 : Int32} : ∀ k i n (h : PH) (σ' : SG), i + k = sN σ 1 → k < n → HR Φ Z h t σ' → MV σ σ' i → (∀ h1 σ1, HR Φ Z h1 t σ1 → MV σ σ1 (sN σ 1) → w_X3_pass_L75 Z t K FU x1 x2 0 h1) → w_X3_pass_L20 Z t K n x1 x2 (sN σ 5) (nI (sN σ 1)) (nI i) h := by
  intro k
  induction k with
  | zero =>
    intro i n h σ' h1 h2 H M hK
    obtain ⟨n, rfl⟩ : ∃ m, n = m + 1 := ⟨n - 1, by omega⟩
    have h12 := H_m12 H
    have e : sN σ' 1 = sN σ 1 := congrFun M.1 1
    rw [show i = sN σ 1 from by omega] at M ⊢
    rw [w_X3_pass_L20, if_pos (nI_le (Nat.le_refl _) (by omega))]
    exact hK h σ' H M
  | succ k ih =>
    intro i n h σ' h1 h2 H M hK
    obtain ⟨n, rfl⟩ : ∃ m, n = m + 1 := ⟨n - 1, by omega⟩
    have h12 := H_m12 H
    have e : sN σ' 1 = sN σ 1 := congrFun M.1 1
    have e5 : sN σ' 5 = sN σ 5 := congrFun M.1 5
    have hv : sV σ' 3 i = sV σ 3 i := by rw [M.2.2.2 3 i, if_neg (by omega)]
    have nxt : ∀ h1 (σ1 : SG), HR Φ Z h1 t σ1 → MV σ σ1 (i + 1) → w_X3_pass_L20 Z t K n x1 x2 (sN σ 5) (nI (sN σ 1)) (nI i + 1) h1 := fun h1 σ1 H1 M1 => by
      rw [nI_1]; exact ih (i + 1) n h1 σ1 (by omega) (by omega) H1 M1 hK
    have upM : ∀ v, v = mvS (sV σ 3 i) → MV σ (uV σ' 3 i v) (i + 1) := fun v ev => ⟨M.1, M.2.1, M.2.2.1, fun k2 p => by
      rw [sV_uV]
      by_cases c : k2 = 3 ∧ p = i
      · rw [if_pos c, if_pos (by omega), ev, c.2]
      · rw [if_neg c, M.2.2.2 k2 p]
        by_cases d : k2 = 3 ∧ p < i
        · rw [if_pos d, if_pos (by omega)]
        · rw [if_neg d, if_neg (by omega)]⟩
    rw [w_X3_pass_L20, if_neg (nI_ge (by omega) (by omega))]
    rw [← e5]
    refine H_p H (by omega) (H_f0 H (by omega) ?_)
    rw [e5, hv]
    by_cases c : sV σ 3 i < 0
    · rw [if_pos c]
      refine nxt h σ' H ⟨M.1, M.2.1, M.2.2.1, fun k2 p => ?_⟩
      rw [M.2.2.2 k2 p]
      by_cases d : k2 = 3 ∧ p < i
      · rw [if_pos d, if_pos (by omega)]
      · rw [if_neg d]
        by_cases f : k2 = 3 ∧ p < i + 1
        · rw [if_pos f]
          have : p = i := by omega
          subst this
          rw [f.1]
          unfold mvS
          rw [if_pos c]
        · rw [if_neg f]
    · rw [if_neg c]
      refine H_f0 H (by omega) ?_
      rw [hv]
      by_cases d : sV σ 3 i = 23
      · rw [if_pos d]
        exact HU_f0 H (by omega) (fun h1 H1 => nxt h1 _ H1 (upM 0 (by unfold mvS; rw [if_neg c, if_pos d])))
      · rw [if_neg d]
        refine H_f0 H (by omega) ?_
        rw [hv]
        exact HU_f0 H (by omega) (fun h1 H1 => nxt h1 _ H1 (upM _ (by unfold mvS; rw [if_neg c, if_neg d])))
theorem SR_mv {σ' : SG} (hA : AI α) (S : SR α σ) (M : MV σ σ' (sN σ 1)) : SR (aMv α) σ' := by
  obtain ⟨h0, h1, h2, h3, h4, h5, h6, h7, h8, h9, h10, h11, h12, h13⟩ := S
  obtain ⟨m1, m2, m3, m4⟩ := M
  have eN : ∀ k, sN σ' k = sN σ k := fun k => congrFun m1 k
  have eL : ∀ k, sL σ' k = sL σ k := fun k => congrFun m3 k
  have eV : ∀ k p, k ≠ 3 → sV σ' k p = sV σ k p := fun k p hk => by rw [m4, if_neg (fun z => hk z.1)]
  refine ⟨(eN 0).trans h0, (eN 1).trans h1, (eV 0 0 (by decide)).trans h2, (eV 0 1 (by decide)).trans h3, (eV 0 2 (by decide)).trans h4, fun s hs => (eV 1 s (by decide)).trans (h5 s hs), fun s hs => (eV 2 s (by decide)).trans (h6 s hs), fun s hs => by rw [eL]; exact h7 s hs, fun s i e e2 hs q1 q2 => by rw [eL] at q1; exact h8 s i e e2 hs q1 q2, fun p hp => (eV 6 p (by decide)).trans (h9 p hp), fun p hp => (eV 7 p (by decide)).trans (h10 p hp), fun p hp => (eV 8 p (by decide)).trans (h11 p hp), fun p hp => (eV 9 p (by decide)).trans (h12 p hp), fun p hp => ?_⟩
  have hp' : p < nn α 1 := hp
  rcases h13 p hp with ⟨y, a1, a2, a3⟩ | ⟨s, b, a1, a2, a3, a4, a5, a6⟩
  · refine Or.inl ⟨(y + 1) % 24, by omega, ?_, ?_⟩
    · show (if 0 = 0 ∧ (y + 1) % 24 < 24 then oo α 0 (((y + 1) % 24 + 23) % 24) else oo α 0 ((y + 1) % 24)) = some p
      rw [if_pos ⟨rfl, by omega⟩, show ((y + 1) % 24 + 23) % 24 = y from by omega]
      exact a2
    · rw [m4, if_pos ⟨rfl, by omega⟩, a3]
      exact mvS_e ⟨y, a1⟩
  · refine Or.inr ⟨s, b, a1, a2, a3, ?_, (eV 4 p (by decide)).trans a5, (eV 5 p (by decide)).trans a6⟩
    rw [m4, if_pos ⟨rfl, by omega⟩, a4]
    decide
-- pods go off
def TA (α : AS) : Int32 := isum (ii α 0) 0 (nn α 0)
theorem isum_up {f g : Nat → Int32} {s : Nat} (hs : g s = f s + 1) (ho : ∀ m, m ≠ s → g m = f m) : ∀ k i, isum g i k = isum f i k + (if i ≤ s ∧ s < i + k then 1 else 0) := by
  intro k
  induction k with
  | zero => intro i; rw [if_neg (by omega)]; rfl
  | succ k ih =>
    intro i
    rw [isum, isum, ih (i + 1)]
    by_cases c : i = s
    · subst c
      rw [hs, if_neg (by omega), if_pos (by omega), i32_az]
      rw [i32_arc]
    · rw [ho i c]
      by_cases d : i + 1 ≤ s ∧ s < i + 1 + k
      · rw [if_pos d, if_pos (by omega), Int32.add_assoc]
      · rw [if_neg d, if_neg (by omega), i32_az, i32_az]
theorem TA_up {s : Nat} (hs : s < nn α 0) : TA (aI α 0 s (ii α 0 s + 1)) = TA α + 1 := by
  unfold TA
  have := isum_up (f := ii α 0) (g := ii (aI α 0 s (ii α 0 s + 1)) 0) (s := s) (by rw [ii_aI, if_pos ⟨rfl, rfl⟩]) (fun m hm => by rw [ii_aI, if_neg (fun z => hm z.2)]) (nn α 0) 0
  rw [if_pos (by omega)] at this
  exact this
theorem S_unl {κ : Int32 → Int32 → Int32 → PH → Prop} {x2 x3 : Int32} {s x p b : Nat} (hA : AI α) (H : HR Φ Z h t σ) (S : SR α σ) (hs : s < 6) (hp : p < nn α 1) (hx : oo α 0 x = some p) (hb : b < 3) (hc : oo α 1 (3 * s + b) = none) (h3 : x3 = nI s) (hK : ∀ h1 σ1, HR Φ Z h1 t σ1 → SR (aI (aO (aBs α x (3 * s + b) p) 3 p none) 3 p (ii α 3 p + 1)) σ1 → κ x1 x2 (x3 + 1) h1) : w_X3_pass_L156 Z t κ K x1 x2 x3 (sB σ 0 p) (nI b) h := by
  have hm := S_m S
  have hp' : p < sN σ 1 := by omega
  have k175 : w_X3_pass_L175 Z t κ K x1 x2 x3 (sB σ 0 p) (nI b) h := by
    unfold w_X3_pass_L175
    refine HU_f0 H hp' (fun h1 H1 => ?_)
    refine HU_f1 (σ := uV σ 3 p (-1)) H1 hp' (fun h2 H2 => ?_)
    refine HU_f2 (σ := uV (uV σ 3 p (-1)) 4 p x3) H2 hp' (fun h3' H3 => ?_)
    refine HU_f3 (σ := uV (uV (uV σ 3 p (-1)) 4 p x3) 5 p (nI b)) H3 hp' (fun h4 H4 => ?_)
    refine HU_f4 (σ := uV (uV (uV (uV σ 3 p (-1)) 4 p x3) 5 p (nI b)) 6 p (-1)) H4 hp' (fun h5 H5 => ?_)
    refine H_f6 (σ := uV (uV (uV (uV (uV σ 3 p (-1)) 4 p x3) 5 p (nI b)) 6 p (-1)) 7 p 0) H5 hp' ?_
    refine HU_f6 (σ := uV (uV (uV (uV (uV σ 3 p (-1)) 4 p x3) 5 p (nI b)) 6 p (-1)) 7 p 0) H5 hp' (fun h6 H6 => ?_)
    refine hK h6 _ H6 ?_
    rw [h3]
    have S1 := SR4 (x := p) (v := none) (SR3 (x := p) (v := none) (SR_in hA S hx hs hb hc))
    have e9 := S_of S1 hp
    have S2 := SR6 (x := p) (v := ii α 3 p + 1) S1
    have e : sV (uV (uV (uV (uV (uV σ 3 p (-1)) 4 p (nI s)) 5 p (nI b)) 6 p (-1)) 7 p 0) 9 p = ii α 3 p := e9
    rw [e]
    exact S2
  unfold w_X3_pass_L156
  refine H_f4 H hp' ?_
  rw [S_ri S hp, if_neg (fun z => by
    obtain ⟨r, _, e⟩ := rk_2.mp z
    cases e)]
  exact k175
theorem S_off {s n : Nat} (hA : AI α) (H : HR Φ Z h t σ) (S : SR α σ) (hs : s < nn α 0) (hK : ∀ h1 σ1 y, HR Φ Z h1 t σ1 → SR (aOff none s α) σ1 → y + TA α = x1 + TA (aOff none s α) → w_X3_pass_L75 Z t K n y (nI (nn α 0)) (nI s + 1) h1) : w_X3_pass_L75 Z t K (n + 1) x1 (nI (nn α 0)) (nI s) h := by
  have h12 := A_np hA
  have h6 := A_ns hA
  have hpl := A_pl hA hs
  have hn := S_n S
  have hm := S_m S
  rw [w_X3_pass_L75, if_neg (nI_ge hs (by omega))]
  refine H_place H (H_pl H (by omega) ?_)
  rw [S_pl S hs]
  refine ⟨rc3_of H, S_slot hA H S hpl ?_⟩
  unfold aOff at hK
  cases e : oo α 0 (pl α s) with
  | none =>
    rw [e] at hK
    exact hK h σ x1 H S rfl
  | some p =>
    rw [e] at hK
    dsimp only at hK
    obtain ⟨_, hp⟩ := A_0 hA e
    show gI h 2 3 (sB σ 0 p) _
    refine H_f3 H (by omega) ?_
    rw [S_go S hp]
    have eg : oI (oo α 2 p) = nI s ↔ oo α 2 p = some s := oI_nI (by omega) (fun k hk => by have := A_2 hA hk; omega)
    by_cases g : oo α 2 p = some s
    · rw [if_pos g] at hK
      rw [if_pos (eg.mpr g)]
      refine ⟨rc3_of H, S_free hA H S (by omega) ?_⟩
      cases f : fb α s 0 with
      | none =>
        rw [f] at hK
        rw [oI_none, if_neg (by decide)]
        refine H_f5 H (by omega) (HU_f5 H (by omega) (fun h1 H1 => hK h1 _ x1 H1 ?_ rfl))
        rw [S_mi S hp]
        exact SR5 S
      | some b =>
        rw [f] at hK
        obtain ⟨hb, hk, _⟩ := fb_some f
        have hc := kd_e0 hk
        rw [oI_some, if_pos (nI_pos' (by omega))]
        refine H_f4 H (by omega) ?_
        rw [S_ri S hp]
        dsimp only at hK
        unfold aUn at hK
        cases r : oo α 3 p with
        | none =>
          rw [r] at hK
          dsimp only at hK
          rw [if_pos (rk_le0.mpr rfl)]
          refine S_unl hA H S (by omega) hp e hb hc rfl (fun h1 σ1 H1 S1 => hK h1 σ1 x1 H1 ?_ rfl)
          rw [aO_same (show oo (aBs α (pl α s) (3 * s + b) p) 3 p = none from r)] at S1
          exact S1
        | some z =>
          rw [r] at hK
          dsimp only at hK
          rw [if_neg (show ¬ (none : Option Nat) = some z from fun q => by cases q)] at hK
          rw [if_neg (fun q => by have := rk_le0.mp q; cases this)]
          refine H_arr H (H_ar H (by omega) (HU_ar H (by omega) (fun h1 H1 => ?_)))
          have S1 : SR (aI α 0 s (ii α 0 s + 1)) (uV σ 2 s (sV σ 2 s + 1)) := by rw [S_ar S hs]; exact SRar S
          have hA1 : AI (aI α 0 s (ii α 0 s + 1)) := AI_aI hA (Or.inl ⟨by decide, by decide⟩)
          refine S_unl (σ := uV σ 2 s (sV σ 2 s + 1)) hA1 H1 S1 (by omega) hp e hb hc rfl (fun h2 σ2 H2 S2 => hK h2 σ2 (x1 + 1) H2 S2 ?_)
          show x1 + 1 + TA α = x1 + TA (aI α 0 s (ii α 0 s + 1))
          rw [TA_up hs, Int32.add_assoc, Int32.add_comm 1]
    · rw [if_neg g] at hK
      rw [if_neg (fun z => g (eg.mp z))]
      exact hK h σ x1 H S rfl
theorem S_offL : ∀ k i n (x1 : Int32) (α : AS) (h : PH) (σ : SG), i + k = nn α 0 → k < n → AI α → HR Φ Z h t σ → SR α σ → (∀ h1 σ1 y, HR Φ Z h1 t σ1 → SR (afold (aOff none) i k α) σ1 → y + TA α = x1 + TA (afold (aOff none) i k α) → w_X3_pass_L225 Z t K 8 y (nI (nn α 0)) 0 h1) → w_X3_pass_L75 Z t K n x1 (nI (nn α 0)) (nI i) h := by
  intro k
  induction k with
  | zero =>
    intro i n x1 α h σ h1 h2 hA H S hK
    obtain ⟨n, rfl⟩ : ∃ m, n = m + 1 := ⟨n - 1, by omega⟩
    have h6 := A_ns hA
    rw [show i = nn α 0 from by omega, w_X3_pass_L75, if_pos (nI_le (Nat.le_refl _) (by omega))]
    exact hK h σ x1 H S rfl
  | succ k ih =>
    intro i n x1 α h σ h1 h2 hA H S hK
    obtain ⟨n, rfl⟩ : ∃ m, n = m + 1 := ⟨n - 1, by omega⟩
    refine S_off hA H S (by omega) (fun h3 σ1 y H1 S1 hy => ?_)
    have hA1 := AI_off (mk := none) hA (s := i) (by omega)
    have hn0 : nn (aOff none i α) 0 = nn α 0 := nn_off
    rw [nI_1, ← hn0]
    refine ih (i + 1) n y (aOff none i α) h3 σ1 (by omega) (by omega) hA1 H1 S1 (fun h4 σ2 y2 H2 S2 hy2 => ?_)
    rw [hn0]
    refine hK h4 σ2 y2 H2 S2 ?_
    have e1 : y2 + TA (aOff none i α) + TA α = y + TA (afold (aOff none) (i + 1) k (aOff none i α)) + TA α := by rw [hy2]
    have e2 : y2 + TA α + TA (aOff none i α) = x1 + TA (afold (aOff none) (i + 1) k (aOff none i α)) + TA (aOff none i α) := by
      rw [i32_arc, e1, i32_arc, hy, i32_arc]
    exact (Int32.add_left_inj _).mp e2
end SOFF
