-- waited, arrived, riding
def wl (t : Nat) : List (Nat × Nat × Nat) → Int32
  | [] => 0
  | e :: q => (nI t - nI e.2.1) + wl t q
theorem isum_sh {g : Nat → Int32} : ∀ k i, isum g (i + 1) k = isum (fun j => g (j + 1)) i k := by
  intro k
  induction k with
  | zero => intro i; rfl
  | succ k ih => intro i; rw [isum, isum, ih]
theorem wl_isum {t : Nat} : ∀ l : List (Nat × Nat × Nat), isum (fun k => match l[k]? with | none => 0 | some e => nI t - nI e.2.1) 0 l.length = wl t l := by
  intro l
  induction l with
  | nil => rfl
  | cons e q ih =>
    rw [List.length_cons, isum, isum_sh, wl, ← ih]
    rfl
theorem wv_wl {α : AS} {s : Nat} : isum (wv α s) 0 (qq α s).length = wl (nn α 2) (qq α s) := wl_isum (qq α s)
theorem wl_tick {t : Nat} : ∀ l : List (Nat × Nat × Nat), wl (t + 1) l = wl t l + nI l.length := by
  intro l
  induction l with
  | nil => rfl
  | cons e q ih =>
    rw [wl, wl, ih, List.length_cons, ← nI_1, ← nI_1]
    grind
def WS (α : AS) : Int32 := isum (fun s => wl (nn α 2) (qq α s)) 0 (nn α 0)
theorem WS_eq {α : AS} : isum (fun s => isum (wv α s) 0 (qq α s).length) 0 (nn α 0) = WS α := isum_ext (fun m _ _ => wv_wl)
def wb (α : AS) : Int32 := WS α + ii α 2 1
theorem isum_rep {f g : Nat → Int32} {s : Nat} : ∀ k i, i ≤ s → s < i + k → (∀ m, m ≠ s → g m = f m) → isum g i k = isum f i k + (g s - f s) := by
  intro k
  induction k with
  | zero => intro i h1 h2 _; omega
  | succ k ih =>
    intro i h1 h2 h
    rw [isum, isum]
    by_cases c : i = s
    · subst c
      have : isum g (i + 1) k = isum f (i + 1) k := isum_ext (fun m a _ => h m (by omega))
      rw [this]
      grind
    · rw [h i c, ih (i + 1) (by omega) (by omega) h]
      grind
theorem wb_B1 {α : AS} {s p : Nat} {e : Nat × Nat × Nat} {q : List (Nat × Nat × Nat)} (hs : s < nn α 0) (hq : qq α s = e :: q) : wb (aB1 s p e q α) = wb α := by
  have h1 : WS (aB1 s p e q α) = WS α + (wl (nn α 2) q - wl (nn α 2) (qq α s)) := by
    have := isum_rep (f := fun x => wl (nn α 2) (qq α x)) (g := fun x => wl (nn α 2) (if x = s then q else qq α x)) (s := s) (nn α 0) 0 (Nat.zero_le _) (by omega) (fun m hm => by rw [if_neg hm])
    rw [if_pos rfl] at this
    exact this
  have h2 : ii (aB1 s p e q α) 2 1 = ii α 2 1 + (nI (nn α 2) - nI e.2.1) := rfl
  unfold wb
  rw [h1, h2, hq, wl]
  grind
theorem wb_bd {α : AS} {s c : Nat} (hA : AI α) : wb (aBdAt s c α) = wb α := by
  rcases bd_cases (s := s) (c := c) (α := α) with e | ⟨e, q, p, c1, _, _, r⟩
  · rw [e]
  · rw [r]
    exact wb_B1 (A_q hA (s := s) (e := e) (by rw [c1]; exact List.mem_cons_self)).2.2.2 c1
theorem wb_afB {s : Nat} : ∀ k i (α : AS), i + k = 3 → AI α → wb (afB s i k α) = wb α := by
  intro k
  induction k with
  | zero => intro i α _ _; rfl
  | succ k ih =>
    intro i α h1 hA
    rw [afB, ih (i + 1) _ (by omega) (AI_BdAt hA (by omega)), wb_bd hA]
theorem fold_eqA {β : Type} (f : AS → β) {step : Nat → AS → AS} (hS : ST step) (hst : ∀ s α, AI α → s < nn α 0 → f (step s α) = f α) : ∀ k i α, i + k = nn α 0 → AI α → f (afold step i k α) = f α := by
  intro k
  induction k with
  | zero => intro i α _ _; rfl
  | succ k ih =>
    intro i α h1 hA
    obtain ⟨a, b⟩ := hS i α hA (by omega)
    rw [afold, ih (i + 1) _ (by rw [b]; omega) a, hst i α hA (by omega)]
theorem wb_off : ∀ s α, wb (aOff none s α) = wb α := off_eq wb (fun _ _ _ => rfl) (fun _ _ _ => rfl) (fun _ _ _ => rfl) (fun _ _ _ _ => rfl)
theorem wb_call : ∀ s α, wb (aCall s α) = wb α := fun s α => by
  rcases call_cases (s := s) (α := α) with e | ⟨v, b, p, _, _, _, _, e⟩
  · rw [e]
  · rw [e]; rfl
theorem wb_merge : ∀ s α, wb (aMerge s α) = wb α := fun s α => by
  rcases merge_cases (s := s) (α := α) with e | ⟨b, p, _, _, _, e⟩
  · rw [e]
  · rw [e]; rfl
theorem wb_min {α : AS} (hA : AI α) : WS (aMin none α) + ii (aMin none α) 2 1 = WS α + ii α 2 1 + vC (aMin none α) 3 := by
  obtain ⟨a1, b1⟩ := m1_ok (mk := none) hA
  have e4 : wb (m4 none α) = wb α := by
    unfold m4
    rw [fold_eq wb wb_merge]
    unfold m3
    rw [fold_eq wb wb_call]
    unfold m2
    rw [fold_eqA wb (step := aBoard) ST_board (fun s β hB _ => wb_afB 3 0 β rfl hB) (nn α 0) 0 _ (by rw [b1, Nat.zero_add]) a1]
    unfold m1
    rw [fold_eq wb wb_off]
    rfl
  obtain ⟨a4, b4⟩ := m4_ok (mk := none) hA
  have e5 : WS (aMin none α) = WS (m4 none α) + vC (aMin none α) 3 := by
    show isum (fun s => wl (nn α 2 + 1) (qq (m4 none α) s)) 0 (nn (m4 none α) 0) = isum (fun s => wl (nn (m4 none α) 2) (qq (m4 none α) s)) 0 (nn (m4 none α) 0) + isum (fun s => nI (qq (m4 none α) s).length) 0 (nn (m4 none α) 0)
    rw [← isum_add, b4 2]
    exact isum_ext (fun m _ _ => wl_tick _)
  have e6 : ii (aMin none α) 2 1 = ii (m4 none α) 2 1 := rfl
  unfold wb at e4
  rw [e5, e6, ← e4]
  grind
-- riding
def rcn (α : AS) : Nat → Nat
  | 0 => 0
  | n + 1 => rcn α n + (if oo α 3 n = none then 0 else 1)
theorem rcn_isum {α : AS} : ∀ n, isum (fun p => bI (decide (oo α 3 p ≠ none))) 0 n = nI (rcn α n) := by
  intro n
  induction n with
  | zero => rfl
  | succ n ih =>
    rw [isum_last, ih, Nat.zero_add, rcn, ← nI_add]
    by_cases c : oo α 3 n = none
    · rw [if_pos c]; simp [c, bI]; exact nI_0.symm
    · rw [if_neg c]; simp [c, bI]; rfl
theorem rcn_le {α : AS} : ∀ n, rcn α n ≤ n := by
  intro n
  induction n with
  | zero => exact Nat.le_refl _
  | succ n ih =>
    rw [rcn]
    by_cases c : oo α 3 n = none
    · rw [if_pos c]; omega
    · rw [if_neg c]; omega
theorem rcn_ext {α β : AS} : ∀ n, (∀ p, p < n → oo β 3 p = oo α 3 p) → rcn β n = rcn α n := by
  intro n
  induction n with
  | zero => intro _; rfl
  | succ n ih =>
    intro h
    rw [rcn, rcn, ih (fun p hp => h p (by omega)), h n (by omega)]
theorem rcn_less {α β : AS} {p : Nat} (h0 : oo β 3 p = none) (h1 : oo α 3 p ≠ none) (ho : ∀ q, q ≠ p → oo β 3 q = oo α 3 q) : ∀ n, p < n → rcn β n + 1 = rcn α n := by
  intro n
  induction n with
  | zero => intro h; omega
  | succ n ih =>
    intro h
    rw [rcn, rcn]
    by_cases c : p = n
    · subst c
      rw [if_pos h0, if_neg h1, rcn_ext p (fun q hq => ho q (by omega))]
    · rw [ho n (Ne.symm c)]
      have := ih (by omega)
      omega
def OW (α β : AS) : Prop := ∃ d, TA β = TA α + nI d ∧ d + rcn β (nn β 1) = rcn α (nn α 1)
theorem OW_off {α β : AS} {s : Nat} (hA : AI β) (hs : s < nn β 0) (h : OW α β) : OW α (aOff none s β) := by
  obtain ⟨d, d1, d2⟩ := h
  rcases off_cases (s := s) (α := β) with e | ⟨p, e⟩ | ⟨p, b, x1, x2, x3, e⟩
  · rw [e]; exact ⟨d, d1, d2⟩
  · rw [e]; exact ⟨d, d1, by rw [rcn_ext (α := β) (β := aI β 1 p (ii β 1 p + 1)) _ (fun _ _ => rfl)]; exact d2⟩
  · rw [e]
    cases r : oo β 3 p with
    | none =>
      rw [un_none r]
      exact ⟨d, d1, by rw [rcn_ext (α := β) (β := aI (aBs β (pl β s) (3 * s + b) p) 3 p (ii β 3 p + 1)) _ (fun _ _ => rfl)]; exact d2⟩
    | some z =>
      rw [un_some r]
      have hp := (A_0 hA x1).2
      refine ⟨d + 1, ?_, ?_⟩
      · have := TA_up (α := β) hs
        have e2 : TA (aI (aI (aO (aBs β (pl β s) (3 * s + b) p) 3 p none) 0 s (ii β 0 s + 1)) 3 p (ii β 3 p + 1)) = TA (aI β 0 s (ii β 0 s + 1)) := rfl
        rw [e2, this, d1, ← nI_1]
        grind
      · have hl := rcn_less (α := β) (β := aI (aI (aO (aBs β (pl β s) (3 * s + b) p) 3 p none) 0 s (ii β 0 s + 1)) 3 p (ii β 3 p + 1)) (p := p) (by
          show (if 3 = 3 ∧ p = p then none else _) = none
          rw [if_pos ⟨rfl, rfl⟩]) (by rw [r]; exact fun y => by cases y) (fun q hq => by
          show (if 3 = 3 ∧ q = p then none else oo β 3 q) = _
          rw [if_neg (fun y => hq y.2)]) (nn β 1) hp
        show d + 1 + rcn _ (nn β 1) = _
        omega
theorem OW_min {α : AS} (hA : AI α) : ∃ d, d ≤ rcn α (nn α 1) ∧ TA (aMin none α) = TA α + nI d := by
  have h : OW α (m1 none α) := fold_inv (W := OW α) ST_off (fun i β hB hi hw => OW_off hB hi hw) (nn α 0) 0 (aMv α) (Nat.zero_add _) (AI_mv hA) ⟨0, by rw [nI_0, i32_az]; rfl, by rw [Nat.zero_add]; exact rcn_ext _ (fun p _ => rfl)⟩
  obtain ⟨d, d1, d2⟩ := h
  exact ⟨d, by omega, by rw [TA_min hA]; exact d1⟩
-- what stays zero
theorem Z0_off {s : Nat} {α : AS} (hs : s < nn α 0) (h : Z0 α) : Z0 (aOff none s α) := by
  rcases off_cases (s := s) (α := α) with e | ⟨p, e⟩ | ⟨p, b, x1, x2, x3, e⟩
  · rw [e]; exact h
  · rw [e]; exact h
  · rw [e]
    cases r : oo α 3 p with
    | none => rw [un_none r]; exact h
    | some z =>
      rw [un_some r]
      intro x hx
      have hx : nn α 0 ≤ x := hx
      rw [ii_aI, if_neg (fun y => absurd y.1 (by decide)), ii_aI, if_neg (fun y => by omega)]
      exact h x hx
theorem Z0_min {α : AS} (hA : AI α) (h : Z0 α) : Z0 (aMin none α) := by
  obtain ⟨a1, b1⟩ := m1_ok (mk := none) hA
  have h1 : Z0 (m1 none α) := fold_inv (W := Z0) ST_off (fun i β hB hi hw => Z0_off hi hw) (nn α 0) 0 (aMv α) (Nat.zero_add _) (AI_mv hA) h
  intro x hx
  rw [nn_min hA (by decide)] at hx
  have : ii (aMin none α) 0 x = ii (m1 none α) 0 x := by
    unfold aMin
    rw [ii_aN]
    unfold m4
    rw [ii0_fold (fun _ _ => ii0_merge)]
    unfold m3
    rw [ii0_fold (fun _ _ => ii0_call)]
    unfold m2
    rw [ii0_fold (fun _ _ => by unfold aBoard; exact ii0_afB 3 0 _)]
  rw [this]
  exact h1 x (by rw [b1]; exact hx)
-- where a pod is when its goal is another one
def W3 (p g : Nat) (α : AS) : Prop := oo α 2 p = some g ∨ (oo α 2 p ≠ some g ∧ ((∃ c, oo α 1 c = some p ∧ c / 3 = g) ∨ oo α 0 (pl α g) = some p))
theorem W3_merge {p g s : Nat} {α : AS} (hA : AI α) (h : W3 p g α) : W3 p g (aMerge s α) := by
  rcases merge_cases (s := s) (α := α) with e | ⟨b, q, m1, m2, m3, e⟩
  · rw [e]; exact h
  · rw [e]
    have hb := (fb_some m1).1
    rcases h with h | ⟨h, h3⟩
    · exact Or.inl h
    · refine Or.inr ⟨h, ?_⟩
      have e0 : ∀ x, oo (aO (aO α 0 (pl α s) (some q)) 1 (3 * s + b) none) 0 x = if x = pl α s then some q else oo α 0 x := fun x => by
        rw [oo_aO, if_neg (fun y => absurd y.1 (by decide)), oo_aO]
        by_cases d : x = pl α s
        · rw [if_pos ⟨rfl, d⟩, if_pos d]
        · rw [if_neg (fun y => d y.2), if_neg d]
      have e1 : ∀ c, oo (aO (aO α 0 (pl α s) (some q)) 1 (3 * s + b) none) 1 c = if c = 3 * s + b then none else oo α 1 c := fun c => by
        rw [oo_aO]
        by_cases d : c = 3 * s + b
        · rw [if_pos ⟨rfl, d⟩, if_pos d]
        · rw [if_neg (fun y => d y.2), if_neg d, oo_aO, if_neg (fun y => absurd y.1 (by decide))]
      have ep : pl (aO (aO α 0 (pl α s) (some q)) 1 (3 * s + b) none) g = pl α g := rfl
      rw [ep, e0]
      rcases h3 with ⟨c, c1, c2⟩ | h3
      · by_cases d : c = 3 * s + b
        · subst d
          rw [m3] at c1
          have hsg : s = g := by omega
          subst hsg
          rw [if_pos rfl]
          exact Or.inr c1
        · refine Or.inl ⟨c, ?_, c2⟩
          rw [e1, if_neg d]; exact c1
      · refine Or.inr ?_
        by_cases d : pl α g = pl α s
        · rw [d, m2] at h3; cases h3
        · rw [if_neg d]; exact h3
theorem W3_min {p g : Nat} {α : AS} (hA : AI α) (h : oo α 2 p = some g) : W3 p g (aMin none α) := by
  obtain ⟨a1, b1⟩ := m1_ok (mk := none) hA
  obtain ⟨a2, b2⟩ := m2_ok (mk := none) hA
  obtain ⟨a3, b3⟩ := m3_ok (mk := none) hA
  have w0 : W1 p g (ii α 3 p) (aMv α) := Or.inl ⟨h, rfl⟩
  have w1 : W1 p g (ii α 3 p) (m1 none α) := fold_inv (W := W1 p g (ii α 3 p)) ST_off (fun i β hB hi hw => W_off hB hi hw) (nn α 0) 0 (aMv α) (Nat.zero_add _) (AI_mv hA) w0
  have w2 : W1 p g (ii α 3 p) (m2 none α) := fold_inv (W := W1 p g (ii α 3 p)) ST_board (fun i β hB hi hw => fB_inv (s := i) (W := W1 p g (ii α 3 p)) (fun c γ hC hc hv => W_BdAt hC hc hv) 3 0 β rfl hB hw) (nn α 0) 0 (m1 none α) (by rw [b1, Nat.zero_add]) a1 w1
  have w3 : W1 p g (ii α 3 p) (m3 none α) := fold_inv (W := W1 p g (ii α 3 p)) ST_call (fun i β hB hi hw => W_call hB hi hw) (nn α 0) 0 (m2 none α) (by rw [b2, Nat.zero_add]) a2 w2
  have w3b : W3 p g (m3 none α) := w3.imp (fun q => q.1) (fun q => ⟨q.1, Or.inl q.2.2⟩)
  have w4 : W3 p g (m4 none α) := fold_inv (W := W3 p g) ST_merge (fun i β hB hi hw => W3_merge hB hw) (nn α 0) 0 (m3 none α) (by rw [b3, Nat.zero_add]) a3 w3b
  have ep : pl (aMin none α) g = pl (m4 none α) g := by
    show nn (aN (m4 none α) 2 (nn α 2 + 1)) (10 + g) = _
    rw [nn_aN, if_neg (by omega)]
    rfl
  rcases w4 with w | ⟨w, v⟩
  · exact Or.inl w
  · refine Or.inr ⟨w, ?_⟩
    rw [ep]
    exact v
-- a minute and what stays so
theorem DP_min {α : AS} (hA : AI α) (hd : DP α) : DP (aMin none α) := fun i j hi hj he => by
  have ep : ∀ s, pl (aMin none α) s = pl α s := fun s => nn_min hA (by omega)
  rw [nn_min hA (by decide)] at hi hj
  rw [ep, ep] at he
  exact hd i j hi hj he
theorem LI_min {Φ : FR} {Z : Nat → ClassId} {B t : Nat} {α : AS} {σ σ1 : SG} {S S' : RS} {h h1 : PH} (L : LI Φ Z B t α σ S h) (hB : B < 1000000) (hC : RC (aMin none α) S') (H1 : HR Φ Z h1 t σ1) (S1 : SR (aMin none α) σ1) : LI Φ Z (B + 1) t (aMin none α) σ1 S' h1 := by
  obtain ⟨hA, hd, hz, _, _, _, b1, b2, c, c1, c2⟩ := L
  have h6 := A_ns hA
  obtain ⟨d, d1, d2, _⟩ := ac_min hA
  refine ⟨AI_min hA (by omega), DP_min hA hd, Z0_min hA hz, hC, H1, S1, by show nn α 2 + 1 ≤ _; omega, by rw [nn_min hA (by decide)]; omega, c + d, by omega, ?_⟩
  have d2 : ii (aMin none α) 2 0 = ii α 2 0 + nI d := d2
  rw [d2, c2, nI_add]
