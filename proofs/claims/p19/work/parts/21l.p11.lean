-- pure part 11: when
/-- what one minute does to a pod that has a goal g, its offs being o -/
def W1 (p g : Nat) (o : Int32) (α : AS) : Prop := (oo α 2 p = some g ∧ ii α 3 p = o) ∨ (oo α 2 p ≠ some g ∧ ii α 3 p = o + 1 ∧ ∃ c, oo α 1 c = some p ∧ c / 3 = g)
theorem fold_inv {step : Nat → AS → AS} {W : AS → Prop} (hst : ST step) (hW : ∀ i α, AI α → i < nn α 0 → W α → W (step i α)) : ∀ k i α, i + k = nn α 0 → AI α → W α → W (afold step i k α) := by
  intro k
  induction k with
  | zero => intro i α _ _ h; exact h
  | succ k ih =>
    intro i α h1 hA h
    obtain ⟨a, b⟩ := hst i α hA (by omega)
    exact ih (i + 1) (step i α) (by rw [b]; omega) a (hW i α hA (by omega) h)
theorem W_un {mk : Option Nat} {p g s x q c : Nat} {o : Int32} {α : AS} (hA : AI α) (hx : oo α 0 x = some q) (hc : oo α 1 c = none) (hg : oo α 2 q = some s) (hs : c / 3 = s) (h : W1 p g o α) : W1 p g o (aUn mk s x q c α) := by
  have e1 : ∀ y, oo (aUn mk s x q c α) 1 y = if 1 = 1 ∧ y = c then some q else oo α 1 y := fun y => by
    unfold aUn
    split
    · rfl
    · split <;> rfl
  have e2 : ∀ y, oo (aUn mk s x q c α) 2 y = if 2 = 2 ∧ y = q then none else oo α 2 y := fun y => by
    unfold aUn
    split
    · rfl
    · split <;> rfl
  have e3 : ∀ y, ii (aUn mk s x q c α) 3 y = if 3 = 3 ∧ y = q then ii α 3 q + 1 else ii α 3 y := fun y => by
    unfold aUn
    split
    · rfl
    · split <;> rfl
  unfold W1
  rw [e2, e3]
  rcases h with ⟨h1, h2⟩ | ⟨h1, h2, c2, h3, h4⟩
  · by_cases d : p = q
    · subst d
      rw [if_pos ⟨rfl, rfl⟩, if_pos ⟨rfl, rfl⟩]
      refine Or.inr ⟨(fun e => by cases e), by rw [h2], c, by rw [e1, if_pos ⟨rfl, rfl⟩], ?_⟩
      rw [h1] at hg
      rw [hs, Option.some.inj hg]
    · rw [if_neg (fun e => d e.2), if_neg (fun e => d e.2)]
      exact Or.inl ⟨h1, h2⟩
  · have d : p ≠ q := fun d => by rw [d] at h3; exact A_01 hA hx h3
    rw [if_neg (fun e => d e.2), if_neg (fun e => d e.2)]
    refine Or.inr ⟨h1, h2, c2, ?_, h4⟩
    rw [e1, if_neg (fun e => by rw [e.2, hc] at h3; cases h3)]
    exact h3
theorem W_off {mk : Option Nat} {p g s : Nat} {o : Int32} {α : AS} (hA : AI α) (hs : s < nn α 0) (h : W1 p g o α) : W1 p g o (aOff mk s α) := by
  unfold aOff
  cases e : oo α 0 (pl α s) with
  | none => exact h
  | some q =>
    dsimp only
    by_cases c : oo α 2 q = some s
    · rw [if_pos c]
      cases f : fb α s 0 with
      | none => exact h
      | some b =>
        obtain ⟨hb, hk, _⟩ := fb_some f
        exact W_un hA e (kd_e0 hk) c (by omega) h
    · rw [if_neg c]; exact h
theorem W_B1 {p g s c q : Nat} {o : Int32} {e : Nat × Nat × Nat} {l : List (Nat × Nat × Nat)} {α : AS} (hA : AI α) (hq : qq α s = e :: l) (hc : oo α 1 c = some q) (hg : oo α 2 q = none) (hs : c / 3 = s) (h : W1 p g o α) : W1 p g o (aB1 s q e l α) := by
  obtain ⟨_, b2, _, _⟩ := A_q hA (s := s) (e := e) (by rw [hq]; exact List.mem_cons_self)
  have e1 : ∀ y, oo (aB1 s q e l α) 1 y = oo α 1 y := fun y => rfl
  have e2 : ∀ y, oo (aB1 s q e l α) 2 y = if 2 = 2 ∧ y = q then some e.1 else oo α 2 y := fun y => rfl
  have e3 : ∀ y, ii (aB1 s q e l α) 3 y = ii α 3 y := fun y => rfl
  unfold W1
  rw [e2, e3]
  by_cases d : p = q
  · subst d
    rw [if_pos ⟨rfl, rfl⟩]
    rcases h with ⟨h1, h2⟩ | ⟨h1, h2, c2, h3, h4⟩
    · rw [hg] at h1; cases h1
    · refine Or.inr ⟨fun z => ?_, h2, c2, h3, h4⟩
      have := A_11 hA h3 hc
      have := Option.some.inj z
      omega
  · rw [if_neg (fun e => d e.2)]
    exact h
theorem W_BdAt {p g s c : Nat} {o : Int32} {α : AS} (hA : AI α) (hs : c / 3 = s) (h : W1 p g o α) : W1 p g o (aBdAt s c α) := by
  unfold aBdAt
  cases e : qq α s with
  | nil => exact h
  | cons a l =>
    dsimp only
    cases f : oo α 1 c with
    | none => exact h
    | some q =>
      dsimp only
      cases z : oo α 2 q with
      | some w => exact h
      | none => exact W_B1 hA e f z hs h
theorem fB_inv {s : Nat} {W : AS → Prop} (hW : ∀ c α, AI α → c / 3 = s → W α → W (aBdAt s c α)) : ∀ k i α, i + k = 3 → AI α → W α → W (afB s i k α) := by
  intro k
  induction k with
  | zero => intro i α _ _ h; exact h
  | succ k ih =>
    intro i α h1 hA h
    exact ih (i + 1) (aBdAt s (3 * s + i) α) (by omega) (AI_BdAt hA (by omega)) (hW (3 * s + i) α hA (by omega) h)
theorem W_call {p g s : Nat} {o : Int32} {α : AS} (hA : AI α) (hs : s < nn α 0) (h : W1 p g o α) : W1 p g o (aCall s α) := by
  unfold aCall
  by_cases c : com α s < nI (qq α s).length
  · rw [if_pos c]
    cases e : ans α s with
    | none => exact h
    | some v =>
      obtain ⟨hv, hne, b, hb⟩ := ans_ok e
      obtain ⟨hb3, hk, _⟩ := fb_some hb
      obtain ⟨q, q1, q2⟩ := kd_e1 hk
      dsimp only
      rw [hb]
      dsimp only
      rw [q1]
      show W1 p g o (aI (aO α 2 q (some s)) 2 0 (ii α 2 0 + 1))
      unfold W1
      rw [I_oo, oo_aO, show ii (aI (aO α 2 q (some s)) 2 0 (ii α 2 0 + 1)) 3 p = ii α 3 p from rfl]
      by_cases d : p = q
      · subst d
        rw [if_pos ⟨rfl, rfl⟩]
        rcases h with ⟨h1, h2⟩ | ⟨h1, h2, c2, h3, h4⟩
        · rw [q2] at h1; cases h1
        · refine Or.inr ⟨fun z => ?_, h2, c2, h3, h4⟩
          have := A_11 hA h3 q1
          have := Option.some.inj z
          omega
      · rw [if_neg (fun e => d e.2)]
        exact h
  · rw [if_neg c]; exact h
def W2 (p g : Nat) (o : Int32) (α : AS) : Prop := (oo α 2 p = some g ∧ ii α 3 p = o) ∨ (oo α 2 p ≠ some g ∧ ii α 3 p = o + 1)
theorem W_merge {p g s : Nat} {o : Int32} {α : AS} (h : W2 p g o α) : W2 p g o (aMerge s α) := by
  have e2 : oo (aMerge s α) 2 p = oo α 2 p := by
    unfold aMerge
    split
    · rfl
    · split
      · rfl
      · split <;> rfl
  have e3 : ii (aMerge s α) 3 p = ii α 3 p := by
    unfold aMerge
    split
    · rfl
    · split
      · rfl
      · split <;> rfl
  unfold W2
  rw [e2, e3]
  exact h
theorem W_min {mk : Option Nat} {p g : Nat} {α : AS} (hA : AI α) (h : oo α 2 p = some g) : W2 p g (ii α 3 p) (aMin mk α) := by
  obtain ⟨a1, b1⟩ := m1_ok (mk := mk) hA
  obtain ⟨a2, b2⟩ := m2_ok (mk := mk) hA
  obtain ⟨a3, b3⟩ := m3_ok (mk := mk) hA
  have w0 : W1 p g (ii α 3 p) (aMv α) := Or.inl ⟨h, rfl⟩
  have w1 : W1 p g (ii α 3 p) (m1 mk α) := fold_inv (W := W1 p g (ii α 3 p)) ST_off (fun i β hB hi hw => W_off hB hi hw) (nn α 0) 0 (aMv α) (Nat.zero_add _) (AI_mv hA) w0
  have w2 : W1 p g (ii α 3 p) (m2 mk α) := fold_inv (W := W1 p g (ii α 3 p)) ST_board (fun i β hB hi hw => fB_inv (s := i) (W := W1 p g (ii α 3 p)) (fun c γ hC hc hv => W_BdAt hC hc hv) 3 0 β rfl hB hw) (nn α 0) 0 (m1 mk α) (by rw [b1, Nat.zero_add]) a1 w1
  have w3 : W1 p g (ii α 3 p) (m3 mk α) := fold_inv (W := W1 p g (ii α 3 p)) ST_call (fun i β hB hi hw => W_call hB hi hw) (nn α 0) 0 (m2 mk α) (by rw [b2, Nat.zero_add]) a2 w2
  have w3b : W2 p g (ii α 3 p) (m3 mk α) := w3.imp id (fun q => ⟨q.1, q.2.1⟩)
  have w4 : W2 p g (ii α 3 p) (m4 mk α) := fold_inv (W := W2 p g (ii α 3 p)) ST_merge (fun i β hB hi hw => W_merge hw) (nn α 0) 0 (m3 mk α) (by rw [b3, Nat.zero_add]) a3 w3b
  exact w4
theorem ne_succ {o : Int32} : ¬ o + 1 = o := fun e => by
  have : o + 1 - o = o - o := by rw [e]
  rw [Int32.add_comm, Int32.add_sub_cancel, Int32.sub_self] at this
  exact absurd this (by decide)
