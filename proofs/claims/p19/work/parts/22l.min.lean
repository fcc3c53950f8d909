-- what a minute does, on α
theorem fold_eq {β : Type} (f : AS → β) {step : Nat → AS → AS} (hst : ∀ s α, f (step s α) = f α) : ∀ k i α, f (afold step i k α) = f α := by
  intro k
  induction k with
  | zero => intro i α; rfl
  | succ k ih => intro i α; rw [afold, ih, hst]
theorem afB_eq {β : Type} (f : AS → β) {s : Nat} (hst : ∀ c α, f (aBdAt s c α) = f α) : ∀ k i α, f (afB s i k α) = f α := by
  intro k
  induction k with
  | zero => intro i α; rfl
  | succ k ih => intro i α; rw [afB, ih, hst]
theorem off_cases {s : Nat} {α : AS} : aOff none s α = α ∨ (∃ p, aOff none s α = aI α 1 p (ii α 1 p + 1)) ∨ ∃ p b, oo α 0 (pl α s) = some p ∧ fb α s 0 = some b ∧ oo α 2 p = some s ∧ aOff none s α = aUn none s (pl α s) p (3 * s + b) α := by
  unfold aOff
  cases e : oo α 0 (pl α s) with
  | none => exact Or.inl rfl
  | some p =>
    dsimp only
    by_cases c : oo α 2 p = some s
    · rw [if_pos c]
      cases f : fb α s 0 with
      | none => exact Or.inr (Or.inl ⟨p, rfl⟩)
      | some b => exact Or.inr (Or.inr ⟨p, b, rfl, rfl, c, rfl⟩)
    · rw [if_neg c]; exact Or.inl rfl
theorem un_none {s x p c : Nat} {α : AS} (h : oo α 3 p = none) : aUn none s x p c α = aI (aBs α x c p) 3 p (ii α 3 p + 1) := by unfold aUn; rw [h]
theorem un_some {s x p c r : Nat} {α : AS} (h : oo α 3 p = some r) : aUn none s x p c α = aI (aI (aO (aBs α x c p) 3 p none) 0 s (ii α 0 s + 1)) 3 p (ii α 3 p + 1) := by unfold aUn; rw [h]; rfl
/-- what no going off touches -/
theorem off_eq {β : Type} (f : AS → β) (h1 : ∀ α p v, f (aI α 1 p v) = f α) (h3 : ∀ α p v, f (aI α 3 p v) = f α) (h0 : ∀ α p v, f (aI α 0 p v) = f α) (ho : ∀ α k j v, f (aO α k j v) = f α) : ∀ s α, f (aOff none s α) = f α := by
  intro s α
  rcases off_cases (s := s) (α := α) with e | ⟨p, e⟩ | ⟨p, b, _, _, _, e⟩
  · rw [e]
  · rw [e, h1]
  · rw [e]
    cases r : oo α 3 p with
    | none => rw [un_none r, h3]; unfold aBs; rw [ho, ho, ho]
    | some z => rw [un_some r, h3, h0, ho]; unfold aBs; rw [ho, ho, ho]
theorem call_cases {s : Nat} {α : AS} : aCall s α = α ∨ ∃ v b p, com α s < nI (qq α s).length ∧ ans α s = some v ∧ fb α v 1 = some b ∧ oo α 1 (3 * v + b) = some p ∧ aCall s α = aI (aO α 2 p (some s)) 2 0 (ii α 2 0 + 1) := by
  unfold aCall
  by_cases c : com α s < nI (qq α s).length
  · rw [if_pos c]
    cases e : ans α s with
    | none => exact Or.inl rfl
    | some v =>
      dsimp only
      cases f : fb α v 1 with
      | none => exact Or.inl rfl
      | some b =>
        dsimp only
        cases g : oo α 1 (3 * v + b) with
        | none => exact Or.inl rfl
        | some p => exact Or.inr ⟨v, b, p, c, rfl, f, g, rfl⟩
  · rw [if_neg c]; exact Or.inl rfl
theorem merge_cases {s : Nat} {α : AS} : aMerge s α = α ∨ ∃ b p, fb α s 2 = some b ∧ oo α 0 (pl α s) = none ∧ oo α 1 (3 * s + b) = some p ∧ aMerge s α = aO (aO α 0 (pl α s) (some p)) 1 (3 * s + b) none := by
  unfold aMerge
  cases e : fb α s 2 with
  | none => exact Or.inl rfl
  | some b =>
    dsimp only
    cases f : oo α 0 (pl α s) with
    | some q => exact Or.inl rfl
    | none =>
      dsimp only
      cases g : oo α 1 (3 * s + b) with
      | none => exact Or.inl rfl
      | some p => exact Or.inr ⟨b, p, rfl, rfl, g, rfl⟩
theorem bd_cases {s c : Nat} {α : AS} : aBdAt s c α = α ∨ ∃ e q p, qq α s = e :: q ∧ oo α 1 c = some p ∧ oo α 2 p = none ∧ aBdAt s c α = aB1 s p e q α := by
  unfold aBdAt
  cases e : qq α s with
  | nil => exact Or.inl rfl
  | cons a q =>
    dsimp only
    cases f : oo α 1 c with
    | none => exact Or.inl rfl
    | some p =>
      dsimp only
      cases g : oo α 2 p with
      | some w => exact Or.inl rfl
      | none => exact Or.inr ⟨a, q, p, rfl, rfl, g, rfl⟩
-- answered
def ac (α : AS) : Int32 := ii α 2 0
theorem ac_off : ∀ s α, ac (aOff none s α) = ac α := off_eq ac (fun _ _ _ => rfl) (fun _ _ _ => rfl) (fun _ _ _ => rfl) (fun _ _ _ _ => rfl)
theorem ac_bd : ∀ s c α, ac (aBdAt s c α) = ac α := fun s c α => by
  rcases bd_cases (s := s) (c := c) (α := α) with e | ⟨e, q, p, _, _, _, r⟩
  · rw [e]
  · rw [r]; rfl
theorem ac_merge : ∀ s α, ac (aMerge s α) = ac α := fun s α => by
  rcases merge_cases (s := s) (α := α) with e | ⟨b, p, _, _, _, r⟩
  · rw [e]
  · rw [r]; rfl
def act (α : AS) (s : Nat) : Prop := com α s < nI (qq α s).length ∧ ans α s ≠ none
theorem call_act {s : Nat} {α : AS} (h : act α s) : ac (aCall s α) = ac α + 1 := by
  obtain ⟨h1, h2⟩ := h
  unfold aCall
  rw [if_pos h1]
  cases e : ans α s with
  | none => exact absurd e h2
  | some v =>
    obtain ⟨_, _, v3, _⟩ := ans_some e
    dsimp only
    cases f : fb α v 1 with
    | none => exact absurd f v3.2
    | some b =>
      dsimp only
      obtain ⟨q, q1, _⟩ := kd_e1 (fb_some f).2.1
      rw [q1]
      rfl
theorem calls {α : AS} : ∀ k i β, ∃ d, d ≤ k ∧ ac (afold aCall i k β) = ac β + nI d ∧ (d = 0 → afold aCall i k β = β ∧ ∀ s, i ≤ s → s < i + k → ¬ act β s) := by
  intro k
  induction k with
  | zero => intro i β; exact ⟨0, Nat.le_refl _, by rw [nI_0, i32_az]; rfl, fun _ => ⟨rfl, fun s a b => by omega⟩⟩
  | succ k ih =>
    intro i β
    obtain ⟨d, d1, d2, d3⟩ := ih (i + 1) (aCall i β)
    rcases call_cases (s := i) (α := β) with e | ⟨v, b, p, c1, c2, c3, c4, e⟩
    · have na : ¬ act β i := fun h => by
        have := call_act h
        rw [e] at this
        exact ne_succ this.symm
      refine ⟨d, by omega, ?_, fun z => ?_⟩
      · rw [afold, d2, e]
      · obtain ⟨f1, f2⟩ := d3 z
        rw [e] at f1 f2
        refine ⟨by rw [afold, e]; exact f1, fun s a b => ?_⟩
        by_cases u : s = i
        · rw [u]; exact na
        · exact f2 s (by omega) (by omega)
    · refine ⟨d + 1, by omega, ?_, fun z => by omega⟩
      have : ac (aCall i β) = ac β + 1 := by rw [e]; rfl
      rw [afold, d2, this, ← nI_1 d]
      grind
theorem cand_iff {α : AS} {m : Nat} : cand α m ↔ (qq α m).length = 0 ∧ ∃ b, b < 3 ∧ kd α (3 * m + b) = 1 := by
  unfold cand
  constructor
  · rintro ⟨h1, h2⟩
    cases e : fb α m 1 with
    | none => exact absurd e h2
    | some b => exact ⟨h1, b, (fb_some e).1, (fb_some e).2.1⟩
  · rintro ⟨h1, b, h2, h3⟩
    refine ⟨h1, fun e => fb_none e b h2 h3⟩
theorem ans_iff {α : AS} {x : Nat} : ans α x ≠ none ↔ ∃ m, m < nn α 0 ∧ m ≠ x ∧ cand α m := by
  constructor
  · intro h
    cases e : ans α x with
    | none => exact absurd e h
    | some j =>
      obtain ⟨a, b, c, _⟩ := ans_some e
      exact ⟨j, a, b, c⟩
  · rintro ⟨m, a, b, c⟩ e
    exact ans_none e m a b c
theorem kd_1e {α : AS} {c : Nat} : kd α c = 1 ↔ ∃ p, oo α 1 c = some p ∧ oo α 2 p = none := by
  constructor
  · exact kd_e1
  · rintro ⟨p, a, b⟩; exact kd_1 a b
theorem act_merge {s x : Nat} {α : AS} (h : act (aMerge s α) x) : act α x := by
  rcases merge_cases (s := s) (α := α) with e | ⟨b, p, m1, m2, m3, r⟩
  · rw [e] at h; exact h
  · rw [r] at h
    obtain ⟨h1, h2⟩ := h
    refine ⟨h1, ?_⟩
    rw [ans_iff] at h2 ⊢
    obtain ⟨m, a1, a2, a3⟩ := h2
    refine ⟨m, a1, a2, ?_⟩
    rw [cand_iff] at a3 ⊢
    obtain ⟨b1, c, b2, b3⟩ := a3
    refine ⟨b1, c, b2, ?_⟩
    rw [kd_1e] at b3 ⊢
    obtain ⟨q, q1, q2⟩ := b3
    refine ⟨q, ?_, q2⟩
    rw [oo_aO] at q1
    by_cases d : 1 = 1 ∧ 3 * m + c = 3 * s + b
    · rw [if_pos d] at q1; cases q1
    · rw [if_neg d, oo_aO, if_neg (fun z => absurd z.1 (by decide))] at q1; exact q1
theorem act_mergeF {x : Nat} : ∀ k i (α : AS), act (afold aMerge i k α) x → act α x := by
  intro k
  induction k with
  | zero => intro i α h; exact h
  | succ k ih => intro i α h; exact act_merge (ih (i + 1) (aMerge i α) h)
theorem act_tick {x v : Nat} {α : AS} (h : act (aN α 2 v) x) : act α x := by
  obtain ⟨h1, h2⟩ := h
  refine ⟨h1, ?_⟩
  rw [ans_iff] at h2 ⊢
  obtain ⟨m, a1, a2, a3⟩ := h2
  exact ⟨m, a1, a2, a3⟩
theorem ac_min {α : AS} (hA : AI α) : ∃ d, d ≤ nn α 0 ∧ ac (aMin none α) = ac α + nI d ∧ ((∃ s, s < nn α 0 ∧ act (aMin none α) s) → d ≠ 0) := by
  obtain ⟨a2, b2⟩ := m2_ok (mk := none) hA
  obtain ⟨d, d1, d2, d3⟩ := calls (α := α) (nn α 0) 0 (m2 none α)
  have e2 : ac (m2 none α) = ac α := by
    unfold m2
    rw [fold_eq ac (step := aBoard) (fun s β => afB_eq ac (ac_bd s) 3 0 β)]
    unfold m1
    rw [fold_eq ac ac_off]
    rfl
  refine ⟨d, d1, ?_, fun ⟨s, hs, h⟩ z => ?_⟩
  · show ac (m4 none α) = _
    unfold m4
    rw [fold_eq ac ac_merge]
    unfold m3
    rw [d2, e2]
  · obtain ⟨f1, f2⟩ := d3 z
    have h := act_tick h
    have h := act_mergeF _ _ _ h
    unfold m3 at h
    rw [f1] at h
    exact f2 s (Nat.zero_le _) (by omega) h
-- nobody waits beside an idle pod
def NI (α : AS) (s : Nat) : Prop := qq α s ≠ [] → ∀ b, b < 3 → kd α (3 * s + b) ≠ 1
theorem NI_mono {α β : AS} {s : Nat} (hq : qq β s = qq α s) (h1 : ∀ c p, oo β 1 c = some p → oo α 1 c = some p) (h2 : ∀ p, oo β 2 p = none → oo α 2 p = none) (h : NI α s) : NI β s := fun hne b hb hk => by
  rw [hq] at hne
  rw [kd_1e] at hk
  obtain ⟨p, p1, p2⟩ := hk
  exact h hne b hb (kd_1e.mpr ⟨p, h1 _ _ p1, h2 _ p2⟩)
theorem NI_B1 {α : AS} {s x p : Nat} {e : Nat × Nat × Nat} {q : List (Nat × Nat × Nat)} (hx : x ≠ s) (h : NI α x) : NI (aB1 s p e q α) x := by
  refine NI_mono (α := α) ?_ (fun c r z => z) (fun r z => ?_) h
  · show (if x = s then q else qq α x) = _
    rw [if_neg hx]
  · have z : (if 2 = 2 ∧ r = p then some e.1 else oo α 2 r) = none := z
    by_cases c : r = p
    · rw [if_pos ⟨rfl, c⟩] at z; cases z
    · rw [if_neg (fun y => c y.2)] at z; exact z
theorem NI_bd {α : AS} {s c x : Nat} (hx : x ≠ s) (h : NI α x) : NI (aBdAt s c α) x := by
  rcases bd_cases (s := s) (c := c) (α := α) with e | ⟨e, q, p, _, _, _, r⟩
  · rw [e]; exact h
  · rw [r]; exact NI_B1 hx h
theorem NI_afB {s x : Nat} (hx : x ≠ s) : ∀ k i (α : AS), NI α x → NI (afB s i k α) x := by
  intro k
  induction k with
  | zero => intro i α h; exact h
  | succ k ih => intro i α h; exact ih (i + 1) _ (NI_bd hx h)
theorem NI_afBs {s : Nat} : ∀ k i (α : AS), i + k = 3 → AI α → (qq α s ≠ [] → ∀ b, b < i → kd α (3 * s + b) ≠ 1) → NI (afB s i k α) s := by
  intro k
  induction k with
  | zero => intro i α h1 _ h; exact fun hne b hb => h hne b (by omega)
  | succ k ih =>
    intro i α h1 hA h
    refine ih (i + 1) _ (by omega) (AI_BdAt hA (by omega)) ?_
    rcases bd_cases (s := s) (c := 3 * s + i) (α := α) with e | ⟨e, q, p, c1, c2, c3, r⟩
    · rw [e]
      intro hne b hb
      by_cases d : b = i
      · subst d
        intro hk
        obtain ⟨p, p1, p2⟩ := kd_1e.mp hk
        cases f : qq α s with
        | nil => exact hne f
        | cons a l =>
          unfold aBdAt at e
          rw [f] at e
          dsimp only at e
          rw [p1] at e
          dsimp only at e
          rw [p2] at e
          dsimp only at e
          have : qq (aB1 s p a l α) s = qq α s := by rw [e]
          rw [f] at this
          have : (if s = s then l else qq α s) = a :: l := this
          rw [if_pos rfl] at this
          have := congrArg List.length this
          rw [List.length_cons] at this
          omega
      · exact h hne b (by omega)
    · rw [r]
      intro hne b hb hk
      obtain ⟨z, z1, z2⟩ := kd_1e.mp hk
      have z1 : oo α 1 (3 * s + b) = some z := z1
      have z2 : (if 2 = 2 ∧ z = p then some e.1 else oo α 2 z) = none := z2
      by_cases d : z = p
      · rw [if_pos ⟨rfl, d⟩] at z2; cases z2
      · rw [if_neg (fun y => d y.2)] at z2
        by_cases f : b = i
        · subst f
          rw [c2] at z1
          exact d (Option.some.inj z1).symm
        · exact h (by rw [c1]; exact fun y => by cases y) b (by omega) (kd_1e.mpr ⟨z, z1, z2⟩)
theorem NI_boards : ∀ k i (α : AS), i + k = nn α 0 → AI α → (∀ s, s < i → NI α s) → ∀ s, s < i + k → NI (afold aBoard i k α) s := by
  intro k
  induction k with
  | zero => intro i α h1 _ h s hs; exact h s hs
  | succ k ih =>
    intro i α h1 hA h s hs
    obtain ⟨a, b⟩ := AI_board (α := α) (s := i) 3 0 α rfl hA
    refine ih (i + 1) (aBoard i α) (by show i + 1 + k = nn (afB i 0 3 α) 0; rw [b]; omega) a (fun x hx => ?_) s (by omega)
    by_cases c : x = i
    · subst c
      exact NI_afBs 3 0 α rfl hA (fun _ b hb => absurd hb (Nat.not_lt_zero b))
    · exact NI_afB c 3 0 α (h x (by omega))
theorem NI_min {α : AS} (hA : AI α) {s : Nat} (hs : s < nn α 0) : NI (aMin none α) s := by
  obtain ⟨a1, b1⟩ := m1_ok (mk := none) hA
  have h2 : NI (m2 none α) s := NI_boards (nn α 0) 0 (m1 none α) (by rw [b1, Nat.zero_add]) a1 (fun s h => absurd h (Nat.not_lt_zero s)) s (by omega)
  have hc : ∀ i (β : AS), NI β s → NI (aCall i β) s := fun i β h => by
    rcases call_cases (s := i) (α := β) with e | ⟨v, b, p, _, _, _, _, e⟩
    · rw [e]; exact h
    · rw [e]
      refine NI_mono (α := β) rfl (fun c r z => z) (fun r z => ?_) h
      have z : (if 2 = 2 ∧ r = p then some i else oo β 2 r) = none := z
      by_cases c : r = p
      · rw [if_pos ⟨rfl, c⟩] at z; cases z
      · rw [if_neg (fun y => c y.2)] at z; exact z
  have hm : ∀ i (β : AS), NI β s → NI (aMerge i β) s := fun i β h => by
    rcases merge_cases (s := i) (α := β) with e | ⟨b, p, _, _, _, e⟩
    · rw [e]; exact h
    · rw [e]
      refine NI_mono (α := β) rfl (fun c r z => ?_) (fun r z => z) h
      rw [oo_aO] at z
      by_cases d : 1 = 1 ∧ c = 3 * i + b
      · rw [if_pos d] at z; cases z
      · rw [if_neg d, oo_aO, if_neg (fun z => absurd z.1 (by decide))] at z; exact z
  have fd : ∀ {step : Nat → AS → AS} (_ : ∀ i β, NI β s → NI (step i β) s) k i β, NI β s → NI (afold step i k β) s := fun {step} hst k => by
    induction k with
    | zero => intro i β h; exact h
    | succ k ih => intro i β h; exact ih (i + 1) _ (hst i β h)
  have h4 : NI (m4 none α) s := fd hm _ _ _ (fd hc _ _ _ h2)
  exact NI_mono (α := m4 none α) rfl (fun c r z => z) (fun r z => z) h4
