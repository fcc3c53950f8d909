-- pure part 11: when
/-- what one minute does to a pod that has a goal g, its offs being o -/
def W1 (p g : Nat) (o : Int32) (α : AS) : Prop := (oo α 2 p = some g ∧ ii α 3 p = o) ∨ (oo α 2 p ≠ some g ∧ ii α 3 p = o + 1 ∧ ∃ c, oo α 1 c = some p ∧ c / 3 = g)
theorem fold_inv {step : Nat → AS → AS} {W : AS → Prop} (hst : ST step) (hW : ∀ i α, AI α → i < nn α 0 → W α → W (step i α)) : ∀ k i α, i + k = nn α 0 → AI α → W α → W (afold step i k α) := by
  intro k
  induction k with
  | zero => intro i α _ _ h; exact h
  | succ k ih =>
    intro i α h1 hA h
    obtain ⟨a, b⟩ := hst i α hA (by omega)
    exact ih (i + 1) (step i α) (by rw [b]; omega) a (hW i α hA (by omega) h)
theorem W_un {mk : Option Nat} {p g s x q c : Nat} {o : Int32} {α : AS} (hA : AI α) (hx : oo α 0 x = some q) (hc : oo α 1 c = none) (hg : oo α 2 q = some s) (hs : c / 3 = s) (h : W1 p g o α) : W1 p g o (aUn mk s x q c α) := by
  have e1 : ∀ y, oo (aUn mk s x q c α) 1 y = if 1 = 1 ∧ y = c then some q else oo α 1 y := fun y => by
    unfold aUn
    split
    · rfl
    · split <;> rfl
  have e2 : ∀ y, oo (aUn mk s x q c α) 2 y = if 2 = 2 ∧ y = q then none else oo α 2 y := fun y => by
    unfold aUn
    split
    · rfl
    · split <;> rfl
  have e3 : ∀ y, ii (aUn mk s x q c α) 3 y = if 3 = 3 ∧ y = q then ii α 3 q + 1 else ii α 3 y := fun y => by
    unfold aUn
    split
    · rfl
    · split <;> rfl
  unfold W1
  rw [e2, e3]
  rcases h with ⟨h1, h2⟩ | ⟨h1, h2, c2, h3, h4⟩
  · by_cases d : p = q
    · subst d
      rw [if_pos ⟨rfl, rfl⟩, if_pos ⟨rfl, rfl⟩]
      refine Or.inr ⟨(fun e => by cases e), by rw [h2], c, by rw [e1, if_pos ⟨rfl, rfl⟩], ?_⟩
      rw [h1] at hg
      rw [hs, Option.some.inj hg]
    · rw [if_neg (fun e => d e.2), if_neg (fun e => d e.2)]
      exact Or.inl ⟨h1, h2⟩
  · have d : p ≠ q := fun d => by rw [d] at h3; exact A_01 hA hx h3
    rw [if_neg (fun e => d e.2), if_neg (fun e => d e.2)]
    refine Or.inr ⟨h1, h2, c2, ?_, h4⟩
    rw [e1, if_neg (fun e => by rw [e.2, hc] at h3; cases h3)]
    exact h3
theorem W_off {mk : Option Nat} {p g s : Nat} {o : Int32} {α : AS} (hA : AI α) (hs : s < nn α 0) (h : W1 p g o α) : W1 p g o (aOff mk s α) := by
  unfold aOff
  cases e : oo α 0 (pl α s) with
  | none => exact h
  | some q =>
    dsimp only
    by_cases c : oo α 2 q = some s
    · rw [if_pos c]
      cases f : fb α s 0 with
      | none => exact h
      | some b =>
        obtain ⟨hb, hk, _⟩ := fb_some f
        exact W_un hA e (kd_e0 hk) c (by omega) h
    · rw [if_neg c]; exact h
theorem W_B1 {p g s c q : Nat} {o : Int32} {e : Nat × Nat × Nat} {l : List (Nat × Nat × Nat)} {α : AS} (hA : AI α) (hq : qq α s = e :: l) (hc : oo α 1 c = some q) (hg : oo α 2 q = none) (hs : c / 3 = s) (h : W1 p g o α) : W1 p g o (aB1 s q e l α) := by
  obtain ⟨_, b2, _, _⟩ := A_q hA (s := s) (e := e) (by rw [hq]; exact List.mem_cons_self)
  have e1 : ∀ y, oo (aB1 s q e l α) 1 y = oo α 1 y := fun y => rfl
  have e2 : ∀ y, oo (aB1 s q e l α) 2 y = if 2 = 2 ∧ y = q then some e.1 else oo α 2 y := fun y => rfl
  have e3 : ∀ y, ii (aB1 s q e l α) 3 y = ii α 3 y := fun y => rfl
  unfold W1
  rw [e2, e3]
  by_cases d : p = q
  · subst d
    rw [if_pos ⟨rfl, rfl⟩]
    rcases h with ⟨h1, h2⟩ | ⟨h1, h2, c2, h3, h4⟩
    · rw [hg] at h1; cases h1
    · refine Or.inr ⟨fun z => ?_, h2, c2, h3, h4⟩
      have := A_11 hA h3 hc
      have := Option.some.inj z
      omega
  · rw [if_neg (fun e => d e.2)]
    exact h
theorem W_BdAt {p g s c : Nat} {o : Int32} {α : AS} (hA : AI α) (hs : c / 3 = s) (h : W1 p g o α) : W1 p g o (aBdAt s c α) := by
  unfold aBdAt
  cases e : qq α s with
  | nil => exact h
  | cons a l =>
    dsimp only
    cases f : oo α 1 c with
    | none => exact h
    | some q =>
      dsimp only
      cases z : oo α 2 q with
      | some w => exact h
      | none => exact W_B1 hA e f z hs h
theorem fB_inv {s : Nat} {W : AS → Prop} (hW : ∀ c α, AI α → c / 3 = s → W α → W (aBdAt s c α)) : ∀ k i α, i + k = 3 → AI α → W α → W (afB s i k α) := by
  intro k
  induction k with
  | zero => intro i α _ _ h; exact h
  | succ k ih =>
    intro i α h1 hA h
    exact ih (i + 1) (aBdAt s (3 * s + i) α) (by omega) (AI_BdAt hA (by omega)) (hW (3 * s + i) α hA (by omega) h)
theorem W_call {p g s : Nat} {o : Int32} {α : AS} (hA : AI α) (hs : s < nn α 0) (h : W1 p g o α) : W1 p g o (aCall s α) := by
  unfold aCall
  by_cases c : com α s < nI (qq α s).length
  · rw [if_pos c]
    cases e : ans α s with
    | none => exact h
    | some v =>
      obtain ⟨hv, hne, b, hb⟩ := ans_ok e
      obtain ⟨hb3, hk, _⟩ := fb_some hb
      obtain ⟨q, q1, q2⟩ := kd_e1 hk
      dsimp only
      rw [hb]
      dsimp only
      rw [q1]
      show W1 p g o (aI (aO α 2 q (some s)) 2 0 (ii α 2 0 + 1))
      unfold W1
      rw [I_oo, oo_aO, show ii (aI (aO α 2 q (some s)) 2 0 (ii α 2 0 + 1)) 3 p = ii α 3 p from rfl]
      by_cases d : p = q
      · subst d
        rw [if_pos ⟨rfl, rfl⟩]
        rcases h with ⟨h1, h2⟩ | ⟨h1, h2, c2, h3, h4⟩
        · rw [q2] at h1; cases h1
        · refine Or.inr ⟨fun z => ?_, h2, c2, h3, h4⟩
          have := A_11 hA h3 q1
          have := Option.some.inj z
          omega
      · rw [if_neg (fun e => d e.2)]
        exact h
  · rw [if_neg c]; exact h
def W2 (p g : Nat) (o : Int32) (α : AS) : Prop := (oo α 2 p = some g ∧ ii α 3 p = o) ∨ (oo α 2 p ≠ some g ∧ ii α 3 p = o + 1)
theorem W_merge {p g s : Nat} {o : Int32} {α : AS} (h : W2 p g o α) : W2 p g o (aMerge s α) := by
  have e2 : oo (aMerge s α) 2 p = oo α 2 p := by
    unfold aMerge
    split
    · rfl
    · split
      · rfl
      · split <;> rfl
  have e3 : ii (aMerge s α) 3 p = ii α 3 p := by
    unfold aMerge
    split
    · rfl
    · split
      · rfl
      · split <;> rfl
  unfold W2
  rw [e2, e3]
  exact h
theorem W_min {mk : Option Nat} {p g : Nat} {α : AS} (hA : AI α) (h : oo α 2 p = some g) : W2 p g (ii α 3 p) (aMin mk α) := by
  obtain ⟨a1, b1⟩ := m1_ok (mk := mk) hA
  obtain ⟨a2, b2⟩ := m2_ok (mk := mk) hA
  obtain ⟨a3, b3⟩ := m3_ok (mk := mk) hA
  have w0 : W1 p g (ii α 3 p) (aMv α) := Or.inl ⟨h, rfl⟩
  have w1 : W1 p g (ii α 3 p) (m1 mk α) := fold_inv (W := W1 p g (ii α 3 p)) ST_off (fun i β hB hi hw => W_off hB hi hw) (nn α 0) 0 (aMv α) (Nat.zero_add _) (AI_mv hA) w0
  have w2 : W1 p g (ii α 3 p) (m2 mk α) := fold_inv (W := W1 p g (ii α 3 p)) ST_board (fun i β hB hi hw => fB_inv (s := i) (W := W1 p g (ii α 3 p)) (fun c γ hC hc hv => W_BdAt hC hc hv) 3 0 β rfl hB hw) (nn α 0) 0 (m1 mk α) (by rw [b1, Nat.zero_add]) a1 w1
  have w3 : W1 p g (ii α 3 p) (m3 mk α) := fold_inv (W := W1 p g (ii α 3 p)) ST_call (fun i β hB hi hw => W_call hB hi hw) (nn α 0) 0 (m2 mk α) (by rw [b2, Nat.zero_add]) a2 w2
  have w3b : W2 p g (ii α 3 p) (m3 mk α) := w3.imp id (fun q => ⟨q.1, q.2.1⟩)
  have w4 : W2 p g (ii α 3 p) (m4 mk α) := fold_inv (W := W2 p g (ii α 3 p)) ST_merge (fun i β hB hi hw => W_merge hw) (nn α 0) 0 (m3 mk α) (by rw [b3, Nat.zero_add]) a3 w3b
  exact w4
theorem ne_succ {o : Int32} : ¬ o + 1 = o := fun e => by
  have : o + 1 - o = o - o := by rw [e]
  rw [Int32.add_comm, Int32.add_sub_cancel, Int32.sub_self] at this
  exact absurd this (by decide)
theorem RM_cong {mk : Option Nat} {α : AS} {M M' : RS} (h : RM mk α M) (h2 : M'.2 = M.2) (h0 : M'.1 0 = 0) (h1 : M'.1 1 = nI (nn α 0)) (h3 : M'.1 2 = nI (nn α 1)) : RM mk α M' := by
  obtain ⟨a, b⟩ := M'
  have h2 : b = M.2 := h2
  subst h2
  exact ⟨⟨h0, h1⟩, h3, h.2.2⟩
theorem when_L {S M1 : RS} {p g : Nat} {o : Int32} (hp : p < 12) : ∀ k i n m α T M, i + k = 200 → k < n → k < m → AI α → nn α 2 + k < 2 ^ 29 → p < nn α 1 → oo α 2 p = some g → g < 6 → ii α 3 p = o → RC α T → RM none α M →
    ∃ v T' M', f_X1_when_L34 n (nI p) (nI g) (nI (i + 1)) S T = some (v, S, T') ∧ f_X2_when_L47 M1 m (nI p) o (nI i) M = some (v, M') ∧ M'.2 = M1.2 ∧ M'.1 0 = 0 ∧ M'.1 1 = nI (nn α 0) ∧ M'.1 2 = nI (nn α 1) := by
  intro k
  induction k with
  | zero =>
    intro i n m α T M h1 h2 h3 hA ht hpn hg hg6 ho hC hM
    obtain ⟨n, rfl⟩ : ∃ z, n = z + 1 := ⟨n - 1, by omega⟩
    obtain ⟨m, rfl⟩ : ∃ z, m = z + 1 := ⟨m - 1, by omega⟩
    have : i = 200 := by omega
    subst this
    have e6 := M_f6 hM hpn
    rw [f_X1_when_L34, if_pos (by decide), f_X2_when_L47, if_pos (by decide)]
    unfold f_X2_when_L76 f_X2_when_L93
    rw [m_po6 hp, ob_v, e6, ho, if_pos rfl, lt_e]
    have y0 := M_th hM
    have y1 := M_ns hM
    have y2 := M_np hM
    exact ⟨_, T, _, rfl, rfl, rfl, y0, y1, y2⟩
  | succ k ih =>
    intro i n m α T M h1 h2 h3 hA ht hpn hg hg6 ho hC hM
    obtain ⟨n, rfl⟩ : ∃ z, n = z + 1 := ⟨n - 1, by omega⟩
    obtain ⟨m, rfl⟩ : ∃ z, m = z + 1 := ⟨m - 1, by omega⟩
    have e6 := M_f6 hM hpn
    obtain ⟨T1, q1, q2⟩ := C_min (mk := none) hA hC
    obtain ⟨M2, q3, q4⟩ := M_min hA hM
    have hA' := AI_min (mk := none) hA (by omega)
    have n0 : nn (aMin none α) 0 = nn α 0 := nn_min hA (by decide)
    have n1 : nn (aMin none α) 1 = nn α 1 := nn_min hA (by decide)
    have hw := W_min (mk := none) hA hg
    rw [f_X1_when_L34, if_neg (show ¬ (200 : Int32) < nI (i + 1) from by rw [show (200 : Int32) = nI 200 from by decide]; exact nI_nlt (by omega) (by omega)), q1, ob_v, c_goal q2 hp, ob_v]
    rw [f_X2_when_L47, if_neg (show ¬ (200 : Int32) ≤ nI i from by rw [show (200 : Int32) = nI 200 from by decide]; exact nI_ge (by omega) (by decide)), m_po6 hp, ob_v, e6, ho, if_pos rfl, q3, ob_v, nI_1, nI_1]
    rcases hw with ⟨w1, w2⟩ | ⟨w1, w2⟩
    · rw [if_pos (by rw [w1, oI_some])]
      have := ih (i + 1) n m (aMin none α) T1 M2 (by omega) (by omega) (by omega) hA' (by show nn α 2 + 1 + k < _; omega) (by rw [n1]; exact hpn) w1 hg6 (w2.trans ho) q2 q4
      rw [n0, n1] at this
      exact this
    · have h12 := A_np hA'
      have h6 := A_ns hA'
      rw [if_neg (fun q => w1 ((oI_nI (by omega) (fun z hz => by have := A_2 hA' hz; omega)).mp q))]
      have e7 := M_f6 q4 (p := p) (by rw [n1]; exact hpn)
      have hne : ¬ fl M2 p 6 = o := fun q => by rw [e7, w2, ho] at q; exact ne_succ q
      have z0 := M_th q4
      have z1 := M_ns q4
      have z2 := M_np q4
      rw [n0] at z1
      rw [n1] at z2
      have hL : f_X2_when_L76 M1 (nI p) o (nI (i + 1)) M2 = some (nI (i + 1), (M2.1, M1.2)) := by
        unfold f_X2_when_L76 f_X2_when_L93
        rw [m_po6 hp, ob_v, if_neg hne, lt_e]
      refine ⟨nI (i + 1), T1, (M2.1, M1.2), rfl, ?_, rfl, z0, z1, z2⟩
      obtain ⟨m, rfl⟩ : ∃ z, m = z + 1 := ⟨m - 1, by omega⟩
      rw [f_X2_when_L47, m_po6 hp, ob_v, if_neg hne, hL]
      split <;> rfl
theorem a_when {α : AS} {j : Nat} {S T M : RS} (h : PK α j S M) (hj : j < 600) (x : Int32) : AgM cdI (RelP (j + 1)) S (f_X1_when S T x) (f_X2_when M x) := by
  obtain ⟨hA, hC, hM, ht, hr⟩ := id h
  have h12 := A_np hA
  have h6 := A_ns hA
  unfold f_X1_when f_X2_when
  rw [lt_e]
  rcases n_pod (T := T) hA hC hM x with ⟨p, hp, rfl, e1, e2⟩ | ⟨e1, e2⟩
  · rw [e1, obx_y, e2, ob_v, if_neg (show ¬ (1 : Int32) = 0 from by decide), c_goal hC (by omega), ob_v, m_po3 (by omega), ob_v, M_f3 hM hp]
    cases e : oo α 2 p with
    | none =>
      rw [oI_none, if_pos rfl, if_pos rfl, okx_v]
      exact agK rfl rfl hA hC hM (by omega) (by omega)
    | some g =>
      have hg := A_2 hA e
      obtain ⟨T1, g1, g2⟩ := C_copy (T := T) hA hC
      rw [oI_some, if_neg (nI_ne_m1 (by omega)), if_neg (nI_ne_m1 (by omega)), g1, ob_v, m_po6 (by omega), ob_v, M_f6 hM hp]
      obtain ⟨v, T', M', w1, w2, w3, w4, w5, w6⟩ := when_L (S := S) (M1 := sI M 0 0) (p := p) (g := g) (o := ii α 3 p) (by omega) 200 0 FU FU α T1 (sI M 0 0) rfl (by decide) (by decide) hA (by omega) hp e (by omega) rfl g2 hM
      rw [nI_0] at w2
      have w1 : f_X1_when_L34 FU (nI p) (nI g) 1 S T1 = some (v, S, T') := w1
      rw [w1, okx_v, w2]
      exact agK rfl rfl hA hC (RM_cong hM w3 w4 w5 w6) (by omega) (by omega)
  · rw [e1, obx_n, e2, ob_v, if_pos rfl]
    exact agE h rfl rfl (by decide) (by decide)
