-- pure part 12: takes
def IN (r : Nat) (α : AS) : Prop := ∃ p, oo α 3 p = some r
def QU (r s : Nat) (α : AS) : Prop := ∃ e, e ∈ qq α s ∧ e.2.2 = r
def UQ (r s0 : Nat) (α : AS) : Prop := (∀ p q, oo α 3 p = some r → oo α 3 q = some r → p = q) ∧ (∀ p s e, oo α 3 p = some r → e ∈ qq α s → e.2.2 ≠ r) ∧ (∀ s e, e ∈ qq α s → e.2.2 = r → s = s0) ∧ (∀ s, (qq α s).Pairwise (fun a b => ¬ (a.2.2 = r ∧ b.2.2 = r)))
def KK (r s0 t : Nat) (α : AS) : Prop := nn α 2 = t ∧ UQ r s0 α ∧ ((ii α 4 0 = -1 ∧ (IN r α ∨ QU r s0 α)) ∨ (ii α 4 0 = nI t + 1 ∧ ¬ IN r α ∧ ¬ QU r s0 α))
theorem K_same {r s0 t : Nat} {α β : AS} (h : KK r s0 t α) (hn : nn β 2 = nn α 2) (h3 : ∀ p, oo β 3 p = oo α 3 p) (hq : ∀ s, qq β s = qq α s) (h4 : ii β 4 0 = ii α 4 0) : KK r s0 t β := by
  obtain ⟨a, ⟨b1, b2, b3, b4⟩, c⟩ := h
  refine ⟨hn.trans a, ⟨fun p q => ?_, fun p s e => ?_, fun s e => ?_, fun s => ?_⟩, ?_⟩
  · rw [h3, h3]; exact b1 p q
  · rw [h3, hq]; exact b2 p s e
  · rw [hq]; exact b3 s e
  · rw [hq]; exact b4 s
  · have e1 : IN r β ↔ IN r α := ⟨fun ⟨p, e⟩ => ⟨p, by rw [← h3]; exact e⟩, fun ⟨p, e⟩ => ⟨p, by rw [h3]; exact e⟩⟩
    have e2 : QU r s0 β ↔ QU r s0 α := ⟨fun ⟨p, e, f⟩ => ⟨p, by rw [← hq]; exact e, f⟩, fun ⟨p, e, f⟩ => ⟨p, by rw [hq]; exact e, f⟩⟩
    rw [h4, e1, e2]
    exact c
theorem K_un {r s0 t s x q c : Nat} {α : AS} (h : KK r s0 t α) : KK r s0 t (aUn (some r) s x q c α) := by
  unfold aUn
  cases e : oo α 3 q with
  | none => exact K_same h rfl (fun _ => rfl) (fun _ => rfl) rfl
  | some z =>
    dsimp only
    obtain ⟨a, ⟨b1, b2, b3, b4⟩, d⟩ := h
    have sub : ∀ p, (if 3 = 3 ∧ p = q then none else oo α 3 p) = some r → p ≠ q ∧ oo α 3 p = some r := fun p hp => by
      by_cases f : 3 = 3 ∧ p = q
      · rw [if_pos f] at hp; cases hp
      · rw [if_neg f] at hp; exact ⟨fun g => f ⟨rfl, g⟩, hp⟩
    by_cases m : some r = some z
    · rw [if_pos m]
      have m := Option.some.inj m
      subst m
      refine ⟨a, ⟨fun p p2 h1 h2 => b1 p p2 (sub p h1).2 (sub p2 h2).2, fun p s2 f h1 h2 => b2 p s2 f (sub p h1).2 h2, b3, b4⟩, Or.inr ⟨?_, ?_, ?_⟩⟩
      · show nI (nn α 2) + 1 = nI t + 1
        rw [a]
      · rintro ⟨p, hp⟩
        obtain ⟨f1, f2⟩ := sub p hp
        exact f1 (b1 p q f2 e)
      · rintro ⟨f, h1, h2⟩
        exact b2 q s0 f e h1 h2
    · rw [if_neg m]
      have hz : z ≠ r := fun g => m (by rw [g])
      have e1 : (∃ p, (if 3 = 3 ∧ p = q then none else oo α 3 p) = some r) ↔ IN r α := by
        constructor
        · rintro ⟨p, hp⟩; exact ⟨p, (sub p hp).2⟩
        · rintro ⟨p, hp⟩
          refine ⟨p, ?_⟩
          rw [if_neg (fun f => by rw [f.2, e] at hp; exact hz (Option.some.inj hp))]
          exact hp
      refine ⟨a, ⟨fun p p2 h1 h2 => b1 p p2 (sub p h1).2 (sub p2 h2).2, fun p s2 f h1 h2 => b2 p s2 f (sub p h1).2 h2, b3, b4⟩, ?_⟩
      rcases d with ⟨d1, d2⟩ | ⟨d1, d2, d3⟩
      · exact Or.inl ⟨d1, d2.imp e1.mpr id⟩
      · exact Or.inr ⟨d1, fun g => d2 (e1.mp g), d3⟩
theorem K_off {r s0 t s : Nat} {α : AS} (h : KK r s0 t α) : KK r s0 t (aOff (some r) s α) := by
  unfold aOff
  cases e : oo α 0 (pl α s) with
  | none => exact h
  | some q =>
    dsimp only
    by_cases c : oo α 2 q = some s
    · rw [if_pos c]
      cases f : fb α s 0 with
      | none => exact K_same h rfl (fun _ => rfl) (fun _ => rfl) rfl
      | some b => exact K_un h
    · rw [if_neg c]; exact h
theorem K_B1 {r s0 t s q : Nat} {e : Nat × Nat × Nat} {l : List (Nat × Nat × Nat)} {α : AS} (hq : qq α s = e :: l) (hg : oo α 3 q = none) (h : KK r s0 t α) : KK r s0 t (aB1 s q e l α) := by
  obtain ⟨a, ⟨b1, b2, b3, b4⟩, d⟩ := h
  have he : e ∈ qq α s := by rw [hq]; exact List.mem_cons_self
  have e3 : ∀ y, oo (aB1 s q e l α) 3 y = if 3 = 3 ∧ y = q then some e.2.2 else oo α 3 y := fun y => rfl
  have eq : ∀ s2, qq (aB1 s q e l α) s2 = if s2 = s then l else qq α s2 := fun s2 => rfl
  have mem : ∀ s2 f, f ∈ qq (aB1 s q e l α) s2 → f ∈ qq α s2 := fun s2 f hf => by
    rw [eq] at hf
    by_cases c : s2 = s
    · rw [if_pos c] at hf; rw [c, hq]; exact List.mem_cons_of_mem _ hf
    · rw [if_neg c] at hf; exact hf
  have pw : ∀ s2, (qq (aB1 s q e l α) s2).Pairwise (fun a b => ¬ (a.2.2 = r ∧ b.2.2 = r)) := fun s2 => by
    rw [eq]
    by_cases c : s2 = s
    · rw [if_pos c]; have := b4 s; rw [hq] at this; exact (List.pairwise_cons.mp this).2
    · rw [if_neg c]; exact b4 s2
  have hd : ∀ f, f ∈ l → ¬ (e.2.2 = r ∧ f.2.2 = r) := fun f hf => by
    have := b4 s; rw [hq] at this; exact (List.pairwise_cons.mp this).1 f hf
  have sub : ∀ p, oo (aB1 s q e l α) 3 p = some r → (p = q ∧ e.2.2 = r) ∨ (p ≠ q ∧ oo α 3 p = some r) := fun p hp => by
    rw [e3] at hp
    by_cases f : 3 = 3 ∧ p = q
    · rw [if_pos f] at hp; exact Or.inl ⟨f.2, Option.some.inj hp⟩
    · rw [if_neg f] at hp; exact Or.inr ⟨fun g => f ⟨rfl, g⟩, hp⟩
  have h4 : ii (aB1 s q e l α) 4 0 = ii α 4 0 := rfl
  by_cases c : e.2.2 = r
  · have hs := b3 s e he c
    have no : ∀ p, oo α 3 p ≠ some r := fun p hp => b2 p s e hp he c
    refine ⟨a, ⟨fun p p2 h1 h2 => ?_, fun p s2 f h1 h2 h5 => ?_, fun s2 f hf => b3 s2 f (mem s2 f hf), pw⟩, ?_⟩
    · rcases sub p h1 with ⟨u, _⟩ | ⟨_, u⟩
      · rcases sub p2 h2 with ⟨v, _⟩ | ⟨_, v⟩
        · rw [u, v]
        · exact absurd v (no p2)
      · exact absurd u (no p)
    · have h6 := b3 s2 f (mem s2 f h2) h5
      rw [eq, if_pos (by rw [h6, hs])] at h2
      exact hd f h2 ⟨c, h5⟩
    · rw [h4]
      rcases d with ⟨d1, d2⟩ | ⟨d1, d2, d3⟩
      · refine Or.inl ⟨d1, Or.inl ⟨q, ?_⟩⟩
        rw [e3, if_pos ⟨rfl, rfl⟩, c]
      · exact absurd ⟨e, by rw [← hs]; exact he, c⟩ d3
  · have e1 : IN r (aB1 s q e l α) ↔ IN r α := by
      constructor
      · rintro ⟨p, hp⟩
        rcases sub p hp with ⟨_, u⟩ | ⟨_, u⟩
        · exact absurd u c
        · exact ⟨p, u⟩
      · rintro ⟨p, hp⟩
        refine ⟨p, ?_⟩
        rw [e3, if_neg (fun f => by rw [f.2, hg] at hp; cases hp)]
        exact hp
    have e2 : QU r s0 (aB1 s q e l α) ↔ QU r s0 α := by
      constructor
      · rintro ⟨f, h1, h2⟩; exact ⟨f, mem s0 f h1, h2⟩
      · rintro ⟨f, h1, h2⟩
        refine ⟨f, ?_, h2⟩
        rw [eq]
        by_cases g : s0 = s
        · rw [if_pos g]
          rw [g, hq] at h1
          rcases List.mem_cons.mp h1 with k | k
          · rw [k] at h2; exact absurd h2 c
          · exact k
        · rw [if_neg g]; exact h1
    refine ⟨a, ⟨fun p p2 h1 h2 => ?_, fun p s2 f h1 h2 h5 => ?_, fun s2 f hf => b3 s2 f (mem s2 f hf), pw⟩, by rw [h4, e1, e2]; exact d⟩
    · rcases sub p h1 with ⟨_, u⟩ | ⟨_, u⟩
      · exact absurd u c
      · rcases sub p2 h2 with ⟨_, v⟩ | ⟨_, v⟩
        · exact absurd v c
        · exact b1 p p2 u v
    · rcases sub p h1 with ⟨_, u⟩ | ⟨_, u⟩
      · exact absurd u c
      · exact b2 p s2 f u (mem s2 f h2) h5
theorem K_BdAt {r s0 t s c : Nat} {α : AS} (hA : AI α) (h : KK r s0 t α) : KK r s0 t (aBdAt s c α) := by
  unfold aBdAt
  cases e : qq α s with
  | nil => exact h
  | cons a l =>
    dsimp only
    cases f : oo α 1 c with
    | none => exact h
    | some q =>
      dsimp only
      cases z : oo α 2 q with
      | some w => exact h
      | none => exact K_B1 e (A_23 hA z) h
theorem K_call {r s0 t s : Nat} {α : AS} (h : KK r s0 t α) : KK r s0 t (aCall s α) := by
  unfold aCall
  split
  · split
    · exact h
    · split
      · exact h
      · split
        · exact h
        · exact K_same h rfl (fun _ => rfl) (fun _ => rfl) rfl
  · exact h
theorem K_merge {r s0 t s : Nat} {α : AS} (h : KK r s0 t α) : KK r s0 t (aMerge s α) := by
  unfold aMerge
  split
  · exact h
  · split
    · exact h
    · split
      · exact h
      · exact K_same h rfl (fun _ => rfl) (fun _ => rfl) rfl
theorem K_min {r s0 t : Nat} {α : AS} (hA : AI α) (h : KK r s0 t α) : KK r s0 t (m4 (some r) α) := by
  obtain ⟨a1, b1⟩ := m1_ok (mk := some r) hA
  obtain ⟨a2, b2⟩ := m2_ok (mk := some r) hA
  obtain ⟨a3, b3⟩ := m3_ok (mk := some r) hA
  have w0 : KK r s0 t (aMv α) := K_same h rfl (fun _ => rfl) (fun _ => rfl) rfl
  have w1 : KK r s0 t (m1 (some r) α) := fold_inv (W := KK r s0 t) ST_off (fun i β hB hi hw => K_off hw) (nn α 0) 0 (aMv α) (Nat.zero_add _) (AI_mv hA) w0
  have w2 : KK r s0 t (m2 (some r) α) := fold_inv (W := KK r s0 t) ST_board (fun i β hB hi hw => fB_inv (s := i) (W := KK r s0 t) (fun c γ hC hc hv => K_BdAt hC hv) 3 0 β rfl hB hw) (nn α 0) 0 (m1 (some r) α) (by rw [b1, Nat.zero_add]) a1 w1
  have w3 : KK r s0 t (m3 (some r) α) := fold_inv (W := KK r s0 t) ST_call (fun i β hB hi hw => K_call hw) (nn α 0) 0 (m2 (some r) α) (by rw [b2, Nat.zero_add]) a2 w2
  exact fold_inv (W := KK r s0 t) ST_merge (fun i β hB hi hw => K_merge hw) (nn α 0) 0 (m3 (some r) α) (by rw [b3, Nat.zero_add]) a3 w3
-- who is under way
def uw2 (S : RS) (α : AS) (s r : Nat) : Int32 := match ffind (fun x => decide (S.2 5 x = nI r)) (9 * s) (qq α s).length with | none => 0 | some _ => 1
theorem C_uw {α : AS} {S : RS} {s r : Nat} (hA : AI α) (h : RC α S) (hs : s < nn α 0) (hr : r < 2 ^ 30) : f_X0_isUnderWay S (nI s) (nI r) = some (match ffind (fun p => decide (oo α 3 p = some r)) 0 (nn α 1) with | none => uw2 S α s r | some _ => 1) := by
  have h6 := A_ns hA
  have h12 := A_np hA
  have hln := A_len hA s
  unfold f_X0_isUnderWay
  have hq : f_X0_isUnderWay_L47 S FU (nI r) (nI (9 * s + (qq α s).length)) (nI (9 * s)) = some (uw2 S α s r) := by
    have := g_search (F := fun n x => f_X0_isUnderWay_L47 S n (nI r) (nI (9 * s + (qq α s).length)) x) (P := fun x => decide (S.2 5 x = nI r)) (r := fun _ => (1 : Int32)) (d := 0) (N := 9 * s + (qq α s).length) (fun n i hi => by
      show f_X0_isUnderWay_L47 S (n + 1) (nI r) (nI (9 * s + (qq α s).length)) (nI i) = _
      rw [f_X0_isUnderWay_L47, if_neg (nI_ge hi (by omega)), c_read (by omega) (by decide), ob_v, nI_1]
      by_cases e : S.2 5 i = nI r
      · rw [if_pos e, if_pos (by simp [e])]
      · rw [if_neg e, if_neg (by simp [e])])
      (fun n => by
        show f_X0_isUnderWay_L47 S (n + 1) (nI r) (nI (9 * s + (qq α s).length)) (nI (9 * s + (qq α s).length)) = _
        rw [f_X0_isUnderWay_L47, if_pos (nI_le (Nat.le_refl _) (by omega))]) (qq α s).length (9 * s) FU rfl (by unfold FU; omega)
    rw [this]
    unfold uw2
    cases ffind (fun x => decide (S.2 5 x = nI r)) (9 * s) (qq α s).length <;> rfl
  have := g_search (F := fun n x => f_X0_isUnderWay_L2 S n (nI s) (nI r) x) (P := fun p => decide (oo α 3 p = some r)) (r := fun _ => (1 : Int32)) (d := uw2 S α s r) (N := nn α 1) (fun n i hi => by
    show f_X0_isUnderWay_L2 S (n + 1) (nI s) (nI r) (nI i) = _
    rw [f_X0_isUnderWay_L2, C_np h, if_neg (nI_ge hi (by omega)), c_rider h (by omega), ob_v, nI_1]
    by_cases e : oo α 3 i = some r
    · rw [if_pos (by rw [e, oI_some]), if_pos (by simp [e])]
    · rw [if_neg (fun q => e ((oI_nI (by omega) (fun k hk => by have := A_3 hA hk; have := A_nr hA; omega)).mp q)), if_neg (by simp [e])])
    (fun n => by
      show f_X0_isUnderWay_L2 S (n + 1) (nI s) (nI r) (nI (nn α 1)) = _
      rw [f_X0_isUnderWay_L2, C_np h, if_pos (nI_le (Nat.le_refl _) (by omega)), c_wait hA h (by omega), ob_v, i9s, nI_add, hq]) (nn α 1) 0 FU (by omega) (by unfold FU; omega)
  rw [nI_0] at this
  rw [this]
  cases ffind (fun p => decide (oo α 3 p = some r)) 0 (nn α 1) <;> rfl
theorem C_uw1 {α : AS} {S : RS} {s r : Nat} (hA : AI α) (h : RC α S) (hs : s < nn α 0) (hr : r < 2 ^ 30) (hw : IN r α ∨ QU r s α) : f_X0_isUnderWay S (nI s) (nI r) = some 1 := by
  have h6 := A_ns hA
  rw [C_uw hA h hs hr]
  cases e : ffind (fun p => decide (oo α 3 p = some r)) 0 (nn α 1) with
  | some p => rfl
  | none =>
    rcases hw with ⟨p, hp⟩ | ⟨f, h1, h2⟩
    · have := ffind_none e p (Nat.zero_le _) (by have := (A_3 hA hp).2; omega)
      rw [hp] at this
      simp at this
    · unfold uw2
      obtain ⟨k, hk⟩ := List.getElem?_of_mem h1
      obtain ⟨d, _, _⟩ := C_5 h (s := s) (by omega) hk
      have hkl : k < (qq α s).length := (List.getElem?_eq_some_iff.mp hk).1
      cases g : ffind (fun x => decide (S.2 5 x = nI r)) (9 * s) (qq α s).length with
      | some p => rfl
      | none =>
        have := ffind_none g (9 * s + k) (by omega) (by omega)
        rw [d, h2] at this
        simp at this
theorem C_uw0 {α : AS} {S : RS} {s r : Nat} (hA : AI α) (h : RC α S) (hs : s < nn α 0) (hr : r < 2 ^ 30) (h1 : ¬ IN r α) (h2 : ¬ QU r s α) : f_X0_isUnderWay S (nI s) (nI r) = some 0 := by
  have h6 := A_ns hA
  rw [C_uw hA h hs hr]
  cases e : ffind (fun p => decide (oo α 3 p = some r)) 0 (nn α 1) with
  | some p => exact absurd ⟨p, of_decide_eq_true (ffind_some e).2.2.1⟩ h1
  | none =>
    unfold uw2
    cases g : ffind (fun x => decide (S.2 5 x = nI r)) (9 * s) (qq α s).length with
    | none => rfl
    | some x =>
      exfalso
      obtain ⟨x1, x2, x3, _⟩ := ffind_some g
      have x3 : S.2 5 x = nI r := of_decide_eq_true x3
      have hk : x - 9 * s < (qq α s).length := by omega
      have he := List.getElem?_eq_getElem hk
      obtain ⟨d, _, _⟩ := C_5 h (s := s) (by omega) he
      rw [show 9 * s + (x - 9 * s) = x from by omega, x3] at d
      have hm : (qq α s)[x - 9 * s] ∈ qq α s := List.getElem_mem hk
      have := (A_q hA hm).2.2.1
      have := A_nr hA
      exact h2 ⟨_, hm, (nI_inj (by omega) (by omega) d).symm⟩
theorem takes_L {S M1 : RS} {r s0 t0 : Nat} (hM1 : M1.2 3 0 = nI t0) (ht0 : t0 < 2 ^ 28) (hr : r < 2 ^ 30) : ∀ k i n m α T M, i + k = 200 → k < n → k < m → AI α → nn α 2 = t0 + i → s0 < nn α 0 → RC α T → RM (some r) α M → UQ r s0 α → ii α 4 0 = -1 → (IN r α ∨ QU r s0 α) →
    ∃ v T' M', f_X1_takes_L45 n (nI s0) (nI r) (nI (i + 1)) S T = some (v, S, T') ∧ f_X2_takes_L73 M1 m (nI i) M = some (v, M') ∧ M'.2 = M1.2 ∧ M'.1 0 = 0 ∧ M'.1 1 = nI (nn α 0) ∧ M'.1 2 = nI (nn α 1) := by
  intro k
  induction k with
  | zero =>
    intro i n m α T M h1 h2 h3 hA ht hs hC hM hu hk hw
    obtain ⟨n, rfl⟩ : ∃ z, n = z + 1 := ⟨n - 1, by omega⟩
    obtain ⟨m, rfl⟩ : ∃ z, m = z + 1 := ⟨m - 1, by omega⟩
    have : i = 200 := by omega
    subst this
    have e6 : M.2 3 (3 : Int32).toNatClampNeg = -1 := (M_mk hM).trans hk
    have y0 := M_th hM
    have y1 := M_ns hM
    have y2 := M_np hM
    rw [f_X1_takes_L45, if_pos (by decide), f_X2_takes_L73, if_pos (by decide)]
    unfold f_X2_takes_L101 f_X2_takes_L127
    rw [e6, if_pos rfl, lt_e]
    exact ⟨_, T, _, rfl, rfl, rfl, y0, y1, y2⟩
  | succ k ih =>
    intro i n m α T M h1 h2 h3 hA ht hs hC hM hu hk hw
    obtain ⟨n, rfl⟩ : ∃ z, n = z + 1 := ⟨n - 1, by omega⟩
    obtain ⟨m, rfl⟩ : ∃ z, m = z + 1 := ⟨m - 1, by omega⟩
    have e6 : M.2 3 (3 : Int32).toNatClampNeg = -1 := (M_mk hM).trans hk
    obtain ⟨T1, q1, q2⟩ := C_min (mk := some r) hA hC
    obtain ⟨M2, q3, q4⟩ := M_min hA hM
    have hA' := AI_min (mk := some r) hA (by omega)
    have n0 : nn (aMin (some r) α) 0 = nn α 0 := nn_min hA (by decide)
    have n1 : nn (aMin (some r) α) 1 = nn α 1 := nn_min hA (by decide)
    have hK : KK r s0 (nn α 2) α := ⟨rfl, hu, Or.inl ⟨hk, hw⟩⟩
    obtain ⟨_, k2, k3⟩ := K_min hA hK
    rw [f_X1_takes_L45, if_neg (show ¬ (200 : Int32) < nI (i + 1) from by rw [show (200 : Int32) = nI 200 from by decide]; exact nI_nlt (by omega) (by omega)), q1, ob_v]
    rw [f_X2_takes_L73, if_neg (show ¬ (200 : Int32) ≤ nI i from by rw [show (200 : Int32) = nI 200 from by decide]; exact nI_ge (by omega) (by decide)), e6, if_pos rfl, q3, ob_v, nI_1, nI_1]
    rcases k3 with ⟨w1, w2⟩ | ⟨w1, w2, w3⟩
    · rw [C_uw1 hA' q2 (by rw [n0]; exact hs) hr w2, ob_v, if_neg (by decide)]
      have := ih (i + 1) n m (aMin (some r) α) T1 M2 (by omega) (by omega) (by omega) hA' (by show nn α 2 + 1 = _; omega) (by rw [n0]; exact hs) q2 q4 k2 w1 w2
      rw [n0, n1] at this
      exact this
    · rw [C_uw0 hA' q2 (by rw [n0]; exact hs) hr w2 w3, ob_v, if_pos rfl]
      have e7 : M2.2 3 (3 : Int32).toNatClampNeg = nI (nn α 2) + 1 := (M_mk q4).trans w1
      have hne : ¬ nI (nn α 2) + 1 = -1 := by rw [nI_1]; exact nI_ne_m1 (by omega)
      have z0 := M_th q4
      have z1 := M_ns q4
      have z2 := M_np q4
      rw [n0] at z1
      rw [n1] at z2
      have hv : nI (nn α 2) + 1 - M1.2 3 (0 : Int32).toNatClampNeg = nI (i + 1) := by
        have : M1.2 3 (0 : Int32).toNatClampNeg = nI t0 := hM1
        rw [this, nI_1, pk_sub (by omega), show nn α 2 + 1 - t0 = i + 1 from by omega]
      have hL : f_X2_takes_L101 M1 M2 = some (nI (i + 1), (M2.1, M1.2)) := by
        unfold f_X2_takes_L101 f_X2_takes_L127
        rw [e7, if_neg hne, hv, lt_e]
      refine ⟨nI (i + 1), T1, (M2.1, M1.2), rfl, ?_, rfl, z0, z1, z2⟩
      obtain ⟨m, rfl⟩ : ∃ z, m = z + 1 := ⟨m - 1, by omega⟩
      rw [f_X2_takes_L73, e7, if_neg hne, hL]
      split <;> rfl
theorem a_takes {α : AS} {j : Nat} {S T M : RS} (h : PK α j S M) (hj : j < 600) (x y : Int32) : AgM cdIA (RelP (j + 1)) S (f_X1_takes S T x y) (f_X2_takes M x y) := by
  obtain ⟨hA, hC, hM, ht, hr⟩ := id h
  have h6 := A_ns hA
  unfold f_X1_takes f_X2_takes
  rw [lt_e]
  rcases n_two (T := T) hA hC hM x y with ⟨s, g, hs, hg, hne, rfl, rfl, e1, e2, e3⟩ | ⟨e1, e2⟩ | ⟨e0, e1, e2, e3⟩
  · have hl9 := A_len hA s
    rw [e1, obx_y, e2, ob_v, if_neg (show ¬ (1 : Int32) = 0 from by decide), e3, ob_v, if_neg (show ¬ (1 : Int32) = 0 from by decide), if_neg (fun q => hne (nI_inj (by omega) (by omega) q).symm), c_wait hA hC (by omega), ob_v, m_st1 (by omega), ob_v, M_h1 hM (by omega)]
    by_cases c : (qq α s).length = 9
    · rw [c, if_neg (by decide), if_pos (by decide), okx_v]
      exact agK rfl rfl hA hC hM (by omega) (by omega)
    · rw [if_pos (show nI (qq α s).length < 9 from by rw [i32_9]; exact nI_lt (by omega) (by omega)), if_neg (show ¬ nI (qq α s).length = 9 from fun q => c (nI_inj (by omega) (by decide) (show nI (qq α s).length = nI 9 from q)))]
      obtain ⟨T1, g1, g2⟩ := C_copy (T := T) hA hC
      have hA1 : AI (aI α 4 0 (-1)) := AI_aI hA (Or.inl ⟨by decide, by decide⟩)
      have g2 : RC (aI α 4 0 (-1)) T1 := RCi4 g2
      have hM1 : RM (some (nn α 3)) (aI α 4 0 (-1)) (mN (sI M 0 0) 3 (-1)) := RMn3 (RM_mark hA hM (Nat.le_refl _))
      obtain ⟨T2, q1, q2⟩ := C_push (s := s) (g := g) hA1 g2 (by omega) (by show (qq α s).length < 9; omega)
      obtain ⟨M2, q3, q4, q5, _⟩ := M_push (s := s) (g := g) hA1 hM1 (by omega) (by show (qq α s).length < 9; omega)
      have em : mkI (some (nn α 3)) (nn (aI α 4 0 (-1)) 3) = 1 := if_pos rfl
      rw [em] at q3
      have q1 : f_X0_addRider T1 (nI s) (nI g) = some (nI (nn α 3), T2) := q1
      have hA2 : AI (aPush s g (aI α 4 0 (-1))) := AI_push (s := s) (g := g) hA1 hs hg hne (by show (qq α s).length < 9; omega) (by show nn α 3 + 1 < _; omega)
      have hnr : ∀ p, oo α 3 p ≠ some (nn α 3) := fun p hp => by have := (A_3 hA hp).1; omega
      have hnq : ∀ s2 e, e ∈ qq α s2 → e.2.2 ≠ nn α 3 := fun s2 e he => by have := (A_q hA he).2.2.1; omega
      have eq : ∀ s2, qq (aPush s g (aI α 4 0 (-1))) s2 = if s2 = s then qq α s ++ [(g, nn α 2, nn α 3)] else qq α s2 := fun s2 => rfl
      have hu : UQ (nn α 3) s (aPush s g (aI α 4 0 (-1))) := by
        refine ⟨fun p q h1 _ => absurd h1 (hnr p), fun p _ _ h1 => absurd h1 (hnr p), fun s2 e he h2 => ?_, fun s2 => ?_⟩
        · rw [eq] at he
          by_cases d : s2 = s
          · exact d
          · rw [if_neg d] at he; exact absurd h2 (hnq s2 e he)
        · have hp : ∀ s3, (qq α s3).Pairwise (fun a b => ¬ (a.2.2 = nn α 3 ∧ b.2.2 = nn α 3)) := fun s3 => List.Pairwise.imp_of_mem (R := fun _ _ => True) (fun ha _ _ q => hnq s3 _ ha q.1) (List.pairwise_of_forall (fun _ _ => trivial))
          rw [eq]
          by_cases d : s2 = s
          · rw [if_pos d]
            refine List.pairwise_append.mpr ⟨hp s, List.pairwise_singleton _ _, fun a ha b _ q => hnq s a ha q.1⟩
          · rw [if_neg d]; exact hp s2
      have hqu : QU (nn α 3) s (aPush s g (aI α 4 0 (-1))) := ⟨(g, nn α 2, nn α 3), by rw [eq, if_pos rfl]; exact List.mem_append_right _ List.mem_cons_self, rfl⟩
      have n0 : nn (aPush s g (aI α 4 0 (-1))) 0 = nn α 0 := by unfold aPush; rw [nn_aN, if_neg (by decide)]; rfl
      have n1 : nn (aPush s g (aI α 4 0 (-1))) 1 = nn α 1 := by unfold aPush; rw [nn_aN, if_neg (by decide)]; rfl
      have n2 : nn (aPush s g (aI α 4 0 (-1))) 2 = nn α 2 := by unfold aPush; rw [nn_aN, if_neg (by decide)]; rfl
      obtain ⟨v, T', M', w1, w2, w3, w4, w5, w6⟩ := takes_L (S := S) (M1 := sI M 0 0) (r := nn α 3) (s0 := s) (t0 := nn α 2) (M_t hM) (by omega) (by omega) 200 0 FU FU (aPush s g (aI α 4 0 (-1))) T2 M2 rfl (by decide) (by decide) hA2 (by rw [n2]; rfl) (by rw [n0]; exact hs) q2 q4 hu rfl (Or.inr hqu)
      rw [nI_0] at w2
      have w1 : f_X1_takes_L45 FU (nI s) (nI (nn α 3)) 1 S T2 = some (v, S, T') := w1
      rw [n0] at w5
      rw [n1] at w6
      have q3 : f_X2_line (sR (sI M 0 0) 3 (upd ((sI M 0 0).2 3) (3 : Int32).toNatClampNeg (-1))) (nI s) (nI g) 1 = some M2 := q3
      rw [g1, ob_v, q1, ob2_v, w1, okx_v, lt_e, q3, ob_v, w2]
      exact agK rfl rfl hA hC (RM_cong hM w3 w4 w5 w6) (by omega) (by omega)
  · rw [e1, obx_n]
    rcases e2 with e2 | ⟨e2, e3⟩
    · rw [e2, ob_v, if_pos rfl]
      exact agE h rfl rfl (by decide) (by decide)
    · rw [e2, ob_v, if_neg (show ¬ (1 : Int32) = 0 from by decide), e3, ob_v, if_pos rfl]
      exact agE h rfl rfl (by decide) (by decide)
  · rw [e1, obx_n, e2, ob_v, if_neg (show ¬ (1 : Int32) = 0 from by decide), e3, ob_v, if_neg (show ¬ (1 : Int32) = 0 from by decide), if_pos e0]
    exact agE h rfl rfl (by decide) (by decide)
