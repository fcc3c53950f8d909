-- boarding
section SBRD
variable {Φ : FR} {Z : Nat → ClassId} {h : PH} {t : Nat} {σ : SG} {α : AS} {K : Int32 → PH → Prop} {x1 x2 : Int32}
theorem S_copyL {κ : Int32 → Int32 → Int32 → Option Nat → PH → Prop} {h0 : PH} {s q L : Nat} (H0 : HR Φ Z h0 t σ) (hs : s < sN σ 0) (hlen : (sL σ s).length = L + 1) (hq : q ∉ h0.1) (hK : ∀ h1, HR Φ Z h1 t (uB (uL σ s (sL σ s).tail) 1 s q) → w_X3_idle Z t (nI s) (fun r h => opm r (κ x1 x2 (nI s) none h) (fun b => κ x1 x2 (nI s) (some b) h)) h1) :
    ∀ k i n (h : PH) (f : Nat → Option Nat), i + k = L → k < n → EXT h0 h → at_ h q (.inl (Z 2, vQ L f)) → (∀ (j : Nat) (e : RwT), j < i → (sL σ s)[j + 1]? = some e → f j = some e.1) → w_X3_pass_L312 Z t κ K n x1 x2 (nI s) q (nI i) h := by
  have h9 := H_l9 H0 s
  have h6 := H_n6 H0
  intro k
  induction k with
  | zero =>
    intro i n h f h1 h2 E hat hf
    obtain ⟨n, rfl⟩ : ∃ m, n = m + 1 := ⟨n - 1, by omega⟩
    have H := HR_ext E H0
    rw [show i = L from by omega] at hf ⊢
    rw [w_X3_pass_L312]
    refine ⟨_, f, hat.1, hat.2, ?_⟩
    dsimp only
    rw [if_pos (nI_le (Nat.le_refl _) (by omega))]
    refine H_waits H ?_
    have tl : ∀ (i : Nat) (e : RwT), ((sL σ s).tail)[i]? = some e → (sL σ s)[i + 1]? = some e := fun i e z => by rw [List.getElem?_tail] at z; exact z
    have tlen : (sL σ s).tail.length = L := by rw [List.length_tail]; omega
    have hne : ∀ {a : Nat} {e : va_E}, at_ h0 a e → a ≠ q := fun k z => hq (by rw [← z]; exact k.1)
    obtain ⟨H1, H2, H4, ⟨f5, H5, g5⟩, ⟨f6, H6, g6⟩, H7, H8, H9, H10, H11, H12, H13, H14⟩ := H0
    refine HU_w (f := f) H hs (by rw [tlen]; exact hat) (fun i e z => ?_) (fun z => hne H5 z.symm) (fun i e z => ?_) (fun i j e e2 z1 z2 z3 => ?_) (fun i k j e e2 z1 z2 z3 z4 z5 => ?_) (by omega) (fun a ha i e z => (H14.2.2.2 a ha).2.2.2 s (i + 1) e hs (tl i e z)) (fun h1 Hh1 => ?_)
    · have hi := (List.getElem?_eq_some_iff.mp z).1
      exact hf i e (by omega) (tl i e z)
    · exact ⟨EXT_at E (H8 s hs (i + 1) e (tl i e z)), H13 s (i + 1) e hs (tl i e z)⟩
    · have := (H11 s (i + 1) e s (j + 1) e2 hs hs (tl i e z1) (tl j e2 z2) z3).2
      omega
    · exact z3 (H11 s (i + 1) e k j e2 hs z2 (tl i e z1) z4 z5).1.symm
    · exact ⟨rc3_of Hh1, hK h1 Hh1⟩
  | succ k ih =>
    intro i n h f h1 h2 E hat hf
    obtain ⟨n, rfl⟩ : ∃ m, n = m + 1 := ⟨n - 1, by omega⟩
    have H := HR_ext E H0
    obtain ⟨e, he⟩ : ∃ e, (sL σ s)[i + 1]? = some e := ⟨_, List.getElem?_eq_getElem (by omega)⟩
    rw [w_X3_pass_L312]
    refine ⟨_, f, hat.1, hat.2, ?_⟩
    dsimp only
    rw [if_neg (nI_ge (by omega) (by omega))]
    refine H_waits H (H_w H hs ?_)
    rw [nI_1]
    refine H_row H hs he ?_
    have hc := H.2.2.2.2.2.2.1 s hs (i + 1) e he
    refine ⟨_, f, hat.1, hat.2, in_lt (by omega) (by omega), ⟨_, _, hc.1, hc.2⟩, ?_⟩
    rw [nI_clamp (by omega)]
    refine ih (i + 1) n _ (va_up f i (some e.1)) (by omega) (by omega) (EXT_up E hq) (at_upS hat) (fun j e2 hj he2 => ?_)
    by_cases c : j = i
    · subst c
      rw [va_up_self]
      rw [he] at he2
      cases he2
      rfl
    · rw [va_up_ne _ _ c]
      exact hf j e2 (by omega) he2
theorem S_B1 {κ : Int32 → Int32 → Int32 → PH → Prop} {s p n : Nat} {e : Nat × Nat × Nat} {q : List (Nat × Nat × Nat)} (hA : AI α) (H : HR Φ Z h t σ) (S : SR α σ) (hs : s < nn α 0) (hq : qq α s = e :: q) (hi : idp α s = some p) (hK : ∀ h1 σ1, HR Φ Z h1 t σ1 → SR (aB1 s p e q α) σ1 → w_X3_pass_L237 Z t κ K n x1 x2 (nI s) ((idp (aB1 s p e q α) s).map (sB σ1 0)) h1) : w_X3_pass_L237 Z t κ K (n + 1) x1 x2 (nI s) (some (sB σ 0 p)) h := by
  have hn := S_n S
  have hm := S_m S
  have h6 := A_ns hA
  have hs' : s < sN σ 0 := by omega
  obtain ⟨b, i1, i2, i3, i4⟩ := idp_some hi
  obtain ⟨_, hp, _, i5⟩ := A_1 hA i3
  have hp' : p < sN σ 1 := by omega
  have hlen := S_len S hs
  have hl9 := A_len hA s
  rw [hq, List.length_cons] at hlen hl9
  obtain ⟨r, hr⟩ : ∃ r, (sL σ s)[0]? = some r := ⟨_, List.getElem?_eq_getElem (by omega)⟩
  obtain ⟨q0, q1, q2⟩ := S_q S hs hr (e2 := e) (by rw [hq]; rfl)
  rw [w_X3_pass_L237]
  show gR h 3 1 t _
  refine H_waits H (H_w H hs' (H_nw H hs' ?_))
  rw [hlen, if_neg (nI_nle (by omega) (by omega))]
  refine H_waits H (H_w H hs' (H_row (i := 0) H hs' hr (H_cell (j := 0) H hs' hr (by omega) ?_)))
  rw [q0]
  refine HU_f3 H hp' (fun h1 H1 => ?_)
  refine H_cell (σ := uV σ 6 p (nI e.1)) (j := 2) H1 hs' hr (by omega) ?_
  rw [q2]
  refine HU_f4 (σ := uV σ 6 p (nI e.1)) H1 hp' (fun h2 H2 => ?_)
  have e10 : (1 : Int32) + 0 = rk none (some e.2.2) := rfl
  rw [e10] at H2
  have S2 := SR4 (x := p) (v := some e.2.2) (SR3 (x := p) (v := some e.1) S)
  rw [oI_some, aO_comm (by decide)] at S2
  refine H_brd (σ := uV (uV σ 6 p (nI e.1)) 7 p (rk none (some e.2.2))) H2 ?_
  refine H_cell (σ := uV (uV σ 6 p (nI e.1)) 7 p (rk none (some e.2.2))) (j := 1) H2 hs' hr (by omega) ?_
  rw [q1]
  have eb0 := S_bd S2
  have eb : sV (uV (uV σ 6 p (nI e.1)) 7 p (rk none (some e.2.2))) 0 2 = ii α 2 1 := eb0
  rw [eb]
  refine HU_brd (σ := uV (uV σ 6 p (nI e.1)) 7 p (rk none (some e.2.2))) H2 (fun h3 H3 => ?_)
  have S3 := SRbd (v := ii α 2 1 + (nI (nn α 2) - nI e.2.1)) S2
  generalize hσ : uV (uV (uV σ 6 p (nI e.1)) 7 p (rk none (some e.2.2))) 0 2 (ii α 2 1 + (nI (nn α 2) - nI e.2.1)) = σ3 at H3 S3
  have l3 : sL σ3 s = sL σ s := by rw [← hσ]; rfl
  have n3 : sN σ3 0 = sN σ 0 := by rw [← hσ]; rfl
  refine H_waits H3 (H_w H3 (by omega) (H_nw H3 (by omega) ?_))
  rw [l3, hlen, nI_pred]
  refine ⟨nI_pos (by omega), by rw [nI_clamp (by omega)]; omega, fun qa hqa => ?_⟩
  rw [nI_clamp (by omega)]
  refine S_copyL (L := q.length) H3 (by omega) (by rw [l3]; exact hlen) hqa (fun h5 H5 => ?_) q.length 0 FU _ (fun _ => none) (Nat.zero_add _) (by unfold FU; omega) (EXT_ad EXT_rf hqa) at_adS (fun j _ hj => absurd hj (Nat.not_lt_zero j))
  have S5 : SR (aB1 s p e q α) (uB (uL σ3 s (sL σ3 s).tail) 1 s qa) := by
    refine SR_queue (q := q) S3 (by rw [List.length_tail, l3, hlen]; rfl) (fun i e1 e2 z1 z2 => ?_)
    rw [List.getElem?_tail, l3] at z1
    exact S_q S hs z1 (by rw [hq]; exact z2)
  have hA5 : AI (aB1 s p e q α) := AI_B1 hA hq i3 (by omega)
  refine S_idle hA5 H5 S5 (by omega) ?_
  have := hK h5 _ H5 S5
  cases z : idp (aB1 s p e q α) s with
  | none => rw [z] at this; exact this
  | some w => rw [z] at this; exact this
theorem BdAt_nil {s c : Nat} (e : qq α s = []) : aBdAt s c α = α := by unfold aBdAt; rw [e]
theorem BdAt_no {s c : Nat} (e : kd α c ≠ 1) : aBdAt s c α = α := by
  unfold aBdAt
  cases qq α s with
  | nil => rfl
  | cons a q =>
    dsimp only
    cases f : oo α 1 c with
    | none => rfl
    | some p =>
      dsimp only
      cases g : oo α 2 p with
      | some w => rfl
      | none => exact absurd (kd_1 f g) e
theorem afB_same {s : Nat} : ∀ k i, (qq α s = [] ∨ ∀ m, m < i + k → kd α (3 * s + m) ≠ 1) → afB s i k α = α := by
  intro k
  induction k with
  | zero => intro i _; rfl
  | succ k ih =>
    intro i c
    have e : aBdAt s (3 * s + i) α = α := by
      rcases c with c | c
      · exact BdAt_nil c
      · exact BdAt_no (c i (by omega))
    rw [afB, e]
    exact ih (i + 1) (by
      rcases c with c | c
      · exact Or.inl c
      · exact Or.inr (fun m hm => c m (by omega)))
theorem S_boardL {κ : Int32 → Int32 → Int32 → PH → Prop} {s : Nat} : ∀ k i n (α : AS) (h : PH) (σ : SG), i + k = 3 → k < n → AI α → HR Φ Z h t σ → SR α σ → s < nn α 0 → (qq α s = [] ∨ ∀ m, m < i → kd α (3 * s + m) ≠ 1) → (∀ h1 σ1, HR Φ Z h1 t σ1 → SR (afB s i k α) σ1 → κ x1 x2 (nI s + 1) h1) → w_X3_pass_L237 Z t κ K n x1 x2 (nI s) ((idp α s).map (sB σ 0)) h := by
  intro k
  induction k with
  | zero =>
    intro i n α h σ h1 h2 hA H S hs hm hK
    obtain ⟨n, rfl⟩ : ∃ m, n = m + 1 := ⟨n - 1, by omega⟩
    have hn := S_n S
    have h9 := A_len hA s
    have hs' : s < sN σ 0 := by omega
    have kk := hK h σ H S
    cases z : idp α s with
    | none => rw [w_X3_pass_L237]; exact kk
    | some p =>
      rw [w_X3_pass_L237]
      show gR h 3 1 t _
      refine H_waits H (H_w H hs' (H_nw H hs' ?_))
      rw [S_len S hs]
      rcases hm with c | c
      · rw [c, if_pos (by decide)]; exact kk
      · obtain ⟨b, i1, i2, _, _⟩ := idp_some z
        exact absurd (fb_some i1).2.1 (c b (by omega))
  | succ k ih =>
    intro i n α h σ h1 h2 hA H S hs hm hK
    by_cases c : kd α (3 * s + i) = 1 ∧ qq α s ≠ []
    · obtain ⟨c1, c2⟩ := c
      have hm2 : ∀ m, m < i → kd α (3 * s + m) ≠ 1 := hm.resolve_left c2
      obtain ⟨p, g1, g2⟩ := kd_e1 c1
      obtain ⟨n, rfl⟩ : ∃ m, n = m + 1 := ⟨n - 1, by omega⟩
      have hfb := fb_is (by omega) c1 hm2
      have hid : idp α s = some p := by unfold idp; rw [hfb]; exact g1
      obtain ⟨a, q, hq⟩ : ∃ a q, qq α s = a :: q := by
        cases z : qq α s with
        | nil => exact absurd z c2
        | cons a q => exact ⟨a, q, rfl⟩
      have ea : aBdAt s (3 * s + i) α = aB1 s p a q α := by
        unfold aBdAt
        rw [hq]
        dsimp only
        rw [g1]
        dsimp only
        rw [g2]
      rw [hid]
      refine S_B1 hA H S hs hq hid (fun h3 σ3 H3 S3 => ?_)
      rw [afB, ea] at hK
      refine ih (i + 1) n (aB1 s p a q α) h3 σ3 (by omega) (by omega) (AI_B1 hA hq g1 (by omega)) H3 S3 hs (Or.inr (fun z hz => ?_)) hK
      have k0 : ∀ x, oo (aB1 s p a q α) 1 x = oo α 1 x := fun x => rfl
      have k1 : ∀ y, oo (aB1 s p a q α) 2 y = if 2 = 2 ∧ y = p then some a.1 else oo α 2 y := fun y => rfl
      by_cases d : z = i
      · subst d
        rw [kd_2 (p := p) (g := a.1) (by rw [k0]; exact g1) (by rw [k1, if_pos ⟨rfl, rfl⟩])]
        decide
      · intro f
        obtain ⟨w, f1, f2⟩ := kd_e1 f
        rw [k0] at f1
        rw [k1] at f2
        by_cases d2 : 2 = 2 ∧ w = p
        · rw [if_pos d2] at f2; cases f2
        · rw [if_neg d2] at f2
          exact hm2 z (by omega) (kd_1 f1 f2)
    · have e : aBdAt s (3 * s + i) α = α := by
        by_cases c1 : kd α (3 * s + i) = 1
        · exact BdAt_nil (Classical.not_not.mp (fun z => c ⟨c1, z⟩))
        · exact BdAt_no c1
      rw [afB, e] at hK
      refine ih (i + 1) n α h σ (by omega) (by omega) hA H S hs ?_ hK
      by_cases c2 : qq α s = []
      · exact Or.inl c2
      · refine Or.inr (fun m hm' => ?_)
        by_cases d : m = i
        · rw [d]; exact fun z => c ⟨z, c2⟩
        · exact hm.resolve_left c2 m (by omega)
theorem S_boardF : ∀ k i n (α : AS) (h : PH) (σ : SG), i + k = nn α 0 → k < n → AI α → HR Φ Z h t σ → SR α σ → (∀ h1 σ1, HR Φ Z h1 t σ1 → SR (afold aBoard i k α) σ1 → w_X3_pass_L368 Z t K FU x1 (nI (nn α 0)) 0 h1) → w_X3_pass_L225 Z t K n x1 (nI (nn α 0)) (nI i) h := by
  intro k
  induction k with
  | zero =>
    intro i n α h σ h1 h2 hA H S hK
    obtain ⟨n, rfl⟩ : ∃ m, n = m + 1 := ⟨n - 1, by omega⟩
    have h6 := A_ns hA
    rw [show i = nn α 0 from by omega, w_X3_pass_L225, if_pos (nI_le (Nat.le_refl _) (by omega))]
    exact hK h σ H S
  | succ k ih =>
    intro i n α h σ h1 h2 hA H S hK
    obtain ⟨n, rfl⟩ : ∃ m, n = m + 1 := ⟨n - 1, by omega⟩
    have h6 := A_ns hA
    rw [w_X3_pass_L225, if_neg (nI_ge (by omega) (by omega))]
    refine ⟨rc3_of H, S_idle hA H S (by omega) ?_⟩
    obtain ⟨hA1, hn1⟩ := AI_board (α := α) (s := i) 3 0 α rfl hA
    have := S_boardL (κ := fun x1 x2 x3 h => w_X3_pass_L225 Z t K n x1 x2 x3 h) (K := K) (x1 := x1) (x2 := nI (nn α 0)) (s := i) 3 0 5 α h σ rfl (by decide) hA H S (by omega) (Or.inr (fun m hm => absurd hm (Nat.not_lt_zero m))) (fun h3 σ3 H3 S3 => by
      show w_X3_pass_L225 Z t K n x1 (nI (nn α 0)) (nI i + 1) h3
      have hn0 : nn (aBoard i α) 0 = nn α 0 := hn1 0
      rw [nI_1, ← hn0]
      refine ih (i + 1) n (aBoard i α) h3 σ3 (by omega) (by omega) hA1 H3 S3 (fun h4 σ4 H4 S4 => ?_)
      rw [hn0]
      exact hK h4 σ4 H4 S4)
    cases z : idp α i with
    | none => rw [z] at this; exact this
    | some p => rw [z] at this; exact this
end SBRD
