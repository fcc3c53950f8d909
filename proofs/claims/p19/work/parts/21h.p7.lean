def aB1 (s p : Nat) (e : Nat × Nat × Nat) (q : List (Nat × Nat × Nat)) (α : AS) : AS := aQ (aI (aO (aO α 3 p (some e.2.2)) 2 p (some e.1)) 2 1 (ii α 2 1 + (nI (nn α 2) - nI e.2.1))) s q
def aBdAt (s c : Nat) (α : AS) : AS := match qq α s with
  | [] => α
  | e :: q => match oo α 1 c with
    | none => α
    | some p => match oo α 2 p with
      | none => aB1 s p e q α
      | some _ => α
def afB (s : Nat) : Nat → Nat → AS → AS
  | _, 0, α => α
  | i, k + 1, α => afB s (i + 1) k (aBdAt s (3 * s + i) α)
def aBoard (s : Nat) (α : AS) : AS := afB s 0 3 α
theorem AI_B1 {α : AS} {s c p : Nat} {e : Nat × Nat × Nat} {q : List (Nat × Nat × Nat)} (hA : AI α) (hq : qq α s = e :: q) (hc : oo α 1 c = some p) (hs : c / 3 = s) : AI (aB1 s p e q α) := by
  obtain ⟨_, hp, _, _⟩ := A_1 hA hc
  obtain ⟨b1, b2, b3, _⟩ := A_q hA (s := s) (e := e) (by rw [hq]; exact List.mem_cons_self)
  have h1 := AI_g1 (p := p) (g := e.1) hA b1 hp (fun c2 h2 => by rw [A_11 hA h2 hc, hs]; exact b2.symm)
  have h2 := AI_r1 (p := p) (r := e.2.2) h1 b3 hp (by rw [oo_aO, if_pos ⟨rfl, rfl⟩]; exact fun q => by cases q)
  rw [aO_comm (by decide)] at h2
  have h3 := AI_aI (k := 2) (j := 1) (v := ii α 2 1 + (nI (nn α 2) - nI e.2.1)) h2 (Or.inl ⟨by decide, by decide⟩)
  exact AI_pop (e := e) h3 hq
theorem AI_BdAt {α : AS} {s c : Nat} (hA : AI α) (hs : c / 3 = s) : AI (aBdAt s c α) := by
  unfold aBdAt
  cases e : qq α s with
  | nil => exact hA
  | cons a q =>
    dsimp only
    cases f : oo α 1 c with
    | none => exact hA
    | some p =>
      dsimp only
      cases g : oo α 2 p with
      | some z => exact hA
      | none => exact AI_B1 hA e f hs
theorem nn_BdAt {α : AS} {s c k : Nat} : nn (aBdAt s c α) k = nn α k := by
  unfold aBdAt
  split
  · rfl
  · split
    · rfl
    · split <;> rfl
theorem AI_board {α : AS} {s : Nat} : ∀ k i α, i + k = 3 → AI α → AI (afB s i k α) ∧ ∀ j, nn (afB s i k α) j = nn α j := by
  intro k
  induction k with
  | zero => intro i α _ h; exact ⟨h, fun _ => rfl⟩
  | succ k ih =>
    intro i α h1 hA
    obtain ⟨a, b⟩ := ih (i + 1) (aBdAt s (3 * s + i) α) (by omega) (AI_BdAt hA (by omega))
    exact ⟨a, fun j => (b j).trans nn_BdAt⟩
theorem C_B1 {α : AS} {S : RS} {s p : Nat} {e : Nat × Nat × Nat} {q : List (Nat × Nat × Nat)} (hA : AI α) (h : RC α S) (hs : s < nn α 0) (hq : qq α s = e :: q) (hp : p < 12) : ∃ S', f_X0_boardFirst S (nI s) (nI p) = some S' ∧ RC (aB1 s p e q α) S' := by
  have h6 := A_ns hA
  have hl := A_len hA s
  rw [hq, List.length_cons] at hl
  obtain ⟨d5, d6, d7⟩ := C_5 h (s := s) (k := 0) (e := e) (by omega) (by rw [hq]; rfl)
  rw [Nat.add_zero] at d5 d6 d7
  have h1 := RC8 (x := p) (v := some e.1) (RC9 (x := p) (v := some e.2.2) h)
  simp only [oI_some] at h1
  have h2 := RCw (v := ii α 2 1 + (nI (nn α 2) - nI e.2.1)) h1
  unfold f_X0_boardFirst
  rw [i9s, c_read (by omega) (by decide), ob_v, d5, c_write (by omega) (by decide), ob_v, lt_e, c_read (by omega) (by decide), ob_v]
  rw [show (sR S 9 (upd (S.2 9) p (nI e.2.2))).2 6 = S.2 6 from rfl, d6]
  unfold f_X0_setGoal f_X0_waitedBy
  rw [c_write (by omega) (by decide), ob_v, lt_e, ob_v, i9s, i32_az, c_read (by omega) (by decide), ob_v, ob_v, lt_e]
  generalize hg : sR (sR S 9 (upd (S.2 9) p (nI e.2.2))) 8 (upd ((sR S 9 (upd (S.2 9) p (nI e.2.2))).2 8) p (nI e.1)) = S9 at h1 h2 ⊢
  have g7 : S9.2 7 = S.2 7 := by rw [← hg]; rfl
  have hA2 : AI (aI α 2 1 (ii α 2 1)) := AI_aI hA (Or.inl ⟨by decide, by decide⟩)
  have w1 := C_t h1
  have w1 : S9.1 0 = nI (nn α 2) := w1
  have w2 := C_wt h1
  have w2 : S9.1 5 = ii α 2 1 := w2
  rw [g7, d7, w1, w2]
  generalize hz : sI S9 5 (ii α 2 1 + (nI (nn α 2) - nI e.2.1)) = S12 at h2 ⊢
  have hw : f_X0_waitingAt S12 (nI s) = some (nI (q.length + 1)) := by
    unfold f_X0_waitingAt
    rw [c_read (by omega) (by decide), ob_v, C_4 h2 (by omega)]
    show some (if 0 < nI (qq α s).length then nI (qq α s).length else 0) = _
    rw [hq, List.length_cons, if_pos (by rw [i32_0]; exact nI_lt (by omega) (by omega))]
  rw [hw, ob_v, nI_pred]
  obtain ⟨S', e0, e1, e2, e3⟩ := c_popL (S0 := S12) (s := s) (L := q.length) (by omega) (by omega) q.length 0 FU S12 (by omega) (by unfold FU; omega) rfl (fun _ _ _ _ => rfl) (fun j y _ => by rw [if_neg (by omega)])
  rw [Nat.add_zero] at e0
  refine ⟨_, e0, ?_⟩
  have hl2 : ∀ s2, (qq α s2).length ≤ 9 := A_len hA
  exact RC_pop (e := e) (α := aI (aO (aO α 3 p (some e.2.2)) 2 p (some e.1)) 2 1 (ii α 2 1 + (nI (nn α 2) - nI e.2.1))) hl2 h2 hq rfl (by omega) e1 e2 e3
theorem C_BdAt {α : AS} {S : RS} {s c : Nat} (hA : AI α) (h : RC α S) (hs : s < nn α 0) (hc : c < 3 * s + 3) : ∃ S', (∀ n, f_X0_letBoard_L4 (n + 1) (nI s) (nI c) S = f_X0_letBoard_L4 n (nI s) (nI (c + 1)) S') ∧ RC (aBdAt s c α) S' := by
  have h6 := A_ns hA
  have h12 := A_np hA
  have hl := A_len hA s
  unfold aBdAt
  cases e : qq α s with
  | nil =>
    refine ⟨S, fun n => ?_, h⟩
    rw [f_X0_letBoard_L4, i3, if_neg (nI_ge hc (by omega)), c_wait hA h (by omega), ob_v, e, if_pos (by decide), nI_1]
  | cons a q =>
    dsimp only
    rw [e, List.length_cons] at hl
    have hw : ∀ n, f_X0_letBoard_L4 (n + 1) (nI s) (nI c) S = ob (f_X0_berthHolds S (nI c)) fun v6 => if v6 = 1 then ob (f_X0_read 18 (S.2 1) (nI c)) fun v9 => ob (f_X0_boardFirst S (nI s) v9) fun S11 => f_X0_letBoard_L4 n (nI s) (nI c + 1) S11 else f_X0_letBoard_L4 n (nI s) (nI c + 1) S := fun n => by
      rw [f_X0_letBoard_L4, i3, if_neg (nI_ge hc (by omega)), c_wait hA h (by omega), ob_v, e, List.length_cons, if_neg (nI_nle (by omega) (by omega))]
    cases f : oo α 1 c with
    | none =>
      refine ⟨S, fun n => ?_, h⟩
      rw [hw n, c_holds hA h (by omega), ob_v, kd_0 f, if_neg (by decide), nI_1]
    | some p =>
      obtain ⟨_, hp, _, _⟩ := A_1 hA f
      dsimp only
      cases g : oo α 2 p with
      | some z =>
        refine ⟨S, fun n => ?_, h⟩
        rw [hw n, c_holds hA h (by omega), ob_v, kd_2 f g, if_neg (by decide), nI_1]
      | none =>
        obtain ⟨S', e1, e2⟩ := C_B1 (p := p) hA h hs e (by omega)
        refine ⟨S', fun n => ?_, e2⟩
        rw [hw n, c_holds hA h (by omega), ob_v, kd_1 f g, if_pos (by decide), c_berth h (by omega), ob_v, f, oI_some, e1, ob_v, nI_1]
theorem C_boardL {s : Nat} : ∀ k i α S, i + k = 3 → AI α → RC α S → s < nn α 0 → ∃ S', (∀ n, f_X0_letBoard_L4 (n + k) (nI s) (nI (3 * s + i)) S = f_X0_letBoard_L4 n (nI s) (nI (3 * s + 3)) S') ∧ RC (afB s i k α) S' := by
  intro k
  induction k with
  | zero => intro i α S h1 _ h _; refine ⟨S, fun n => ?_, h⟩; rw [show i = 3 from by omega]; rfl
  | succ k ih =>
    intro i α S h1 hA h hs
    obtain ⟨S1, e1, e2⟩ := C_BdAt (c := 3 * s + i) hA h hs (by omega)
    obtain ⟨S2, e3, e4⟩ := ih (i + 1) _ S1 (by omega) (AI_BdAt hA (by omega)) e2 (by rw [nn_BdAt]; exact hs)
    refine ⟨S2, fun n => ?_, e4⟩
    rw [show n + (k + 1) = n + k + 1 from rfl, e1 (n + k), ← e3 n]
    rfl
theorem C_board {α : AS} {S : RS} {s : Nat} (hA : AI α) (h : RC α S) (hs : s < nn α 0) : ∃ S', f_X0_letBoard S (nI s) = some S' ∧ RC (aBoard s α) S' := by
  have h6 := A_ns hA
  obtain ⟨S1, e1, e2⟩ := C_boardL (s := s) 3 0 α S rfl hA h hs
  refine ⟨S1, ?_, e2⟩
  unfold f_X0_letBoard
  rw [i3s, show FU = 1996 + 1 + 3 from rfl]
  rw [show nI (3 * s) = nI (3 * s + 0) from rfl, e1 (1996 + 1), f_X0_letBoard_L4, i3, if_pos (nI_le (Nat.le_refl _) (by omega))]
theorem M_B1 {mk : Option Nat} {α : AS} {M : RS} {s b p : Nat} {e : Nat × Nat × Nat} {q : List (Nat × Nat × Nat)} (hA : AI α) (h : RM mk α M) (hs : s < nn α 0) (hq : qq α s = e :: q) (hb : fb α s 1 = some b) (hc : oo α 1 (3 * s + b) = some p) : ∃ M', (∀ n, f_X2_board_L0 (n + 1) (nI s) M = f_X2_board_L0 n (nI s) M') ∧ RM mk (aB1 s p e q α) M' := by
  have h6 := A_ns hA
  have h12 := A_np hA
  have hl := A_len hA s
  rw [hq, List.length_cons] at hl
  obtain ⟨_, hp, _, _⟩ := A_1 hA hc
  obtain ⟨d0, d1, d2⟩ := M_q h (s := s) (k := 0) (e := e) (by omega) (by rw [hq]; rfl)
  have hpb : pB α s (some b) = nI p := by show oI (oo α 1 (3 * s + b)) = nI p; rw [hc]; rfl
  have h1 := RM4 (x := p) (v := some e.2.2) (RM3 (x := p) (v := some e.1) h)
  simp only [oI_some] at h1
  rw [aO_comm (by decide)] at h1
  have hr : rk mk (some e.2.2) = 1 + mkI mk e.2.2 := by
    unfold rk mkI
    by_cases c : mk = some e.2.2
    · simp only [c, if_true]; rfl
    · simp only [c, if_false]; rfl
  rw [hr] at h1
  have h2 := RMn2 (v := ii α 2 1 + (nI (nn α 2) - nI e.2.1)) h1
  have hl2 : ∀ s2, (qq α s2).length ≤ 9 := A_len hA
  have h3 := RM_pop (e := e) (q := q) (s := s) (α := aI (aO (aO α 3 p (some e.2.2)) 2 p (some e.1)) 2 1 (ii α 2 1 + (nI (nn α 2) - nI e.2.1))) hl2 h2 hq rfl (by omega)
  refine ⟨_, fun n => ?_, h3⟩
  rw [f_X2_board_L0, m_st1 (by omega), ob_v, M_h1 h (by omega), hq, List.length_cons, if_neg (nI_nle (by omega) (by omega)), m_first hA h (by omega) (Or.inl ⟨rfl, rfl⟩), ob_v, hb, hpb, if_neg (nI_ne_m1 (by omega)), ob_v, m_pe00 (by omega), ob_v, d0, m_put3 (by omega), ob_v, m_pe02 (by omega), ob_v, pp_mF, d2, m_put4 (by omega), ob_v, m_pe01 (by omega), ob_v, pp_mF, pp_mF, d1]
  have ew0 := M_wt h1
  have ew : (mF (mF M p 3 (nI e.1)) p 4 (1 + mkI mk e.2.2)).2 3 (2 : Int32).toNatClampNeg = ii α 2 1 := ew0
  rw [ew]
  show lt (mN (mF (mF M p 3 (nI e.1)) p 4 (1 + mkI mk e.2.2)) 2 (ii α 2 1 + (nI (nn α 2) - nI e.2.1))) _ = _
  generalize mN (mF (mF M p 3 (nI e.1)) p 4 (1 + mkI mk e.2.2)) 2 (ii α 2 1 + (nI (nn α 2) - nI e.2.1)) = M2 at h2 ⊢
  rw [lt_e, m_st1 (by omega), ob_v, M_h1 h2 (by omega)]
  rw [show (qq (aI (aO (aO α 3 p (some e.2.2)) 2 p (some e.1)) 2 1 (ii α 2 1 + (nI (nn α 2) - nI e.2.1))) s).length = q.length + 1 from by show (qq α s).length = _; rw [hq]; rfl]
  rw [nI_pred, ix1, if_neg (nI_bad (by omega) (by decide)), nI_clamp (by omega), lt_e]
  have x1 : 3 * ((9 * nI s) + 1) = nI (27 * s + 3) := by rw [show (1 : Int32) = nI 1 from by decide, x9, i32_3, pk_mul, show 3 * (9 * s + 1) = 27 * s + 3 from by omega]
  have x2 : (27 : Int32) * nI s = nI (27 * s) := by rw [show (27 : Int32) = nI 27 from by decide, pk_mul]
  have x4 : (3 : Int32) * nI q.length = nI (3 * q.length) := by rw [i32_3, pk_mul]
  have hcp : ¬ cpbad (3 * ((9 * nI s) + 1)) (27 * nI s) (3 * nI q.length) 162 162 := by
    rw [x1, x2, x4]
    rintro (c | c | c | c | c)
    · exact nI_pos (by omega) c
    · exact nI_pos (by omega) c
    · exact nI_pos (by omega) c
    · rw [nI_clamp (by omega), nI_clamp (by omega)] at c; omega
    · rw [nI_clamp (by omega), nI_clamp (by omega)] at c; omega
  rw [if_neg hcp, lt_e, x1, x2, x4, nI_clamp (by omega), nI_clamp (by omega), nI_clamp (by omega)]
  rfl
theorem M_B0 {mk : Option Nat} {α : AS} {M : RS} {s : Nat} (hA : AI α) (h : RM mk α M) (hs : s < nn α 0) (hq : qq α s = [] ∨ fb α s 1 = none) (n : Nat) : f_X2_board_L0 (n + 1) (nI s) M = some M := by
  have h6 := A_ns hA
  have hl := A_len hA s
  rw [f_X2_board_L0, m_st1 (by omega), ob_v, M_h1 h (by omega)]
  by_cases c : (qq α s).length = 0
  · rw [c, if_pos (by decide)]
  · rcases hq with q | q
    · rw [q] at c; exact absurd rfl c
    · rw [if_neg (nI_nle (by omega) (by omega)), m_first hA h (by omega) (Or.inl ⟨rfl, rfl⟩), ob_v, q, show pB α s none = -1 from rfl, if_pos rfl]
theorem fb_is {α : AS} {s k i : Nat} (hi : i < 3) (h : kd α (3 * s + i) = k) (h2 : ∀ m, m < i → kd α (3 * s + m) ≠ k) : fb α s k = some i := by
  cases e : fb α s k with
  | none => exact absurd h (fb_none e i hi)
  | some b =>
    obtain ⟨b1, b2, b3⟩ := fb_some e
    rcases Nat.lt_trichotomy b i with c | c | c
    · exact absurd b2 (h2 b c)
    · rw [c]
    · exact absurd h (b3 i c)
theorem fb_no {α : AS} {s k : Nat} (h2 : ∀ m, m < 3 → kd α (3 * s + m) ≠ k) : fb α s k = none := by
  cases e : fb α s k with
  | none => rfl
  | some b =>
    obtain ⟨b1, b2, b3⟩ := fb_some e
    exact absurd b2 (h2 b b1)
theorem M_boardL {mk : Option Nat} {s : Nat} : ∀ k i n α M, i + k = 3 → k < n → AI α → RM mk α M → s < nn α 0 → (qq α s = [] ∨ ∀ m, m < i → kd α (3 * s + m) ≠ 1) → ∃ M', f_X2_board_L0 n (nI s) M = some M' ∧ RM mk (afB s i k α) M' := by
  intro k
  induction k with
  | zero =>
    intro i n α M h1 h2 hA h hs hm
    obtain ⟨m, rfl⟩ : ∃ m, n = m + 1 := ⟨n - 1, by omega⟩
    refine ⟨M, M_B0 hA h hs ?_ m, h⟩
    rcases hm with c | c
    · exact Or.inl c
    · exact Or.inr (fb_no (fun z hz => c z (by omega)))
  | succ k ih =>
    intro i n α M h1 h2 hA h hs hm
    obtain ⟨m, rfl⟩ : ∃ m, n = m + 1 := ⟨n - 1, by omega⟩
    have same : aBdAt s (3 * s + i) α = α → (qq α s = [] ∨ ∀ m, m < i + 1 → kd α (3 * s + m) ≠ 1) → ∃ M', f_X2_board_L0 (m + 1) (nI s) M = some M' ∧ RM mk (afB s i (k + 1) α) M' := fun e c => by
      rw [afB, e]
      exact ih (i + 1) (m + 1) α M (by omega) (by omega) hA h hs c
    cases e : qq α s with
    | nil => exact same (by unfold aBdAt; rw [e]) (Or.inl e)
    | cons a q =>
      have hm2 : ∀ m, m < i → kd α (3 * s + m) ≠ 1 := by
        rcases hm with c | c
        · rw [e] at c; cases c
        · exact c
      by_cases c : kd α (3 * s + i) = 1
      · obtain ⟨p, g1, g2⟩ := kd_e1 c
        obtain ⟨M1, e1, e2⟩ := M_B1 hA h hs e (fb_is (by omega) c hm2) g1
        have ea : aBdAt s (3 * s + i) α = aB1 s p a q α := by
          unfold aBdAt
          rw [e]
          dsimp only
          rw [g1]
          dsimp only
          rw [g2]
        rw [e1 m, afB, ea]
        refine ih (i + 1) m _ M1 (by omega) (by omega) (AI_B1 hA e g1 (by omega)) e2 hs (Or.inr (fun z hz => ?_))
        have k0 : ∀ x, oo (aB1 s p a q α) 1 x = oo α 1 x := fun x => rfl
        have k1 : ∀ y, oo (aB1 s p a q α) 2 y = if 2 = 2 ∧ y = p then some a.1 else oo α 2 y := fun y => rfl
        by_cases d : z = i
        · subst d
          rw [kd_2 (p := p) (g := a.1) (by rw [k0]; exact g1) (by rw [k1, if_pos ⟨rfl, rfl⟩])]
          decide
        · intro f
          obtain ⟨w, f1, f2⟩ := kd_e1 f
          rw [k0] at f1
          rw [k1] at f2
          by_cases d2 : 2 = 2 ∧ w = p
          · rw [if_pos d2] at f2; cases f2
          · rw [if_neg d2] at f2
            exact hm2 z (by omega) (kd_1 f1 f2)
      · refine same ?_ (Or.inr (fun z hz => ?_))
        · unfold aBdAt
          rw [e]
          dsimp only
          cases f : oo α 1 (3 * s + i) with
          | none => rfl
          | some p =>
            dsimp only
            cases g : oo α 2 p with
            | some w => rfl
            | none => exact absurd (kd_1 f g) c
        · by_cases d : z = i
          · rw [d]; exact c
          · exact hm2 z (by omega)
theorem M_board {mk : Option Nat} {α : AS} {M : RS} {s : Nat} (hA : AI α) (h : RM mk α M) (hs : s < nn α 0) : ∃ M', f_X2_board M (nI s) = some M' ∧ RM mk (aBoard s α) M' := M_boardL 3 0 FU α M rfl (by decide) hA h hs (Or.inr (fun m hm => by omega))
-- the minute's end
def TK (α : AS) (M : RS) (i j : Nat) (M' : RS) : Prop := M'.1 = M.1 ∧ (∀ k, k ≠ 2 → M'.2 k = M.2 k) ∧ ∀ s k w, s < 6 → k < 9 → w < 3 → pp M' s k w = if w = 1 ∧ k < (qq α s).length ∧ (s < i ∨ (s = i ∧ k < j)) then pp M s k 1 + 1 else pp M s k w
theorem m_tkI {mk : Option Nat} {α : AS} {M : RS} {i : Nat} {κ : Int32 → RS → Option RS} (hA : AI α) (h : RM mk α M) (hi : i < nn α 0) : ∀ k j n M', j + k = (qq α i).length → k < n → TK α M i j M' → ∃ M'', f_X2_minuteOn_L139 κ n (nI i) (nI j) M' = κ (nI (i + 1)) M'' ∧ TK α M (i + 1) 0 M'' := by
  have h6 := A_ns hA
  have hln := A_len hA i
  intro k
  induction k with
  | zero =>
    intro j n M' h1 h2 ⟨e1, e2, e3⟩
    obtain ⟨m, rfl⟩ : ∃ m, n = m + 1 := ⟨n - 1, by omega⟩
    refine ⟨M', ?_, e1, e2, fun s z w hs hz hw => ?_⟩
    · have : hl M' i 1 = nI (qq α i).length := by
        unfold hl; rw [e2 1 (by decide)]; exact M_h1 h (by omega)
      rw [f_X2_minuteOn_L139, m_st1 (by omega), ob_v, this, if_pos (nI_le (by omega) (by omega)), nI_1]
    · rw [e3 s z w hs hz hw]
      by_cases c : w = 1 ∧ z < (qq α s).length ∧ (s < i ∨ s = i ∧ z < j)
      · rw [if_pos c, if_pos ⟨c.1, c.2.1, by omega⟩]
      · rw [if_neg c, if_neg (fun d => c ⟨d.1, d.2.1, by
          rcases d.2.2 with q | q
          · rcases Nat.lt_or_ge s i with r | r
            · exact Or.inl r
            · have : s = i := by omega
              subst this
              exact Or.inr ⟨rfl, by have := d.2.1; omega⟩
          · omega⟩)]
  | succ k ih =>
    intro j n M' h1 h2 ⟨e1, e2, e3⟩
    obtain ⟨m, rfl⟩ : ∃ m, n = m + 1 := ⟨n - 1, by omega⟩
    have : hl M' i 1 = nI (qq α i).length := by
      unfold hl; rw [e2 1 (by decide)]; exact M_h1 h (by omega)
    have hx : 3 * ((9 * nI i) + nI j) + 1 = nI (3 * (9 * i + j) + 1) := by rw [x9]; exact x3 _ 1
    rw [f_X2_minuteOn_L139, m_st1 (by omega), ob_v, this, if_neg (nI_ge (by omega) (by omega)), hx, if_neg (nI_bad (by omega) (by decide)), if_neg (nI_bad (by omega) (by decide)), nI_clamp (by omega), lt_e, nI_1]
    refine ih (j + 1) m _ (by omega) (by omega) ⟨e1, fun z hz => ?_, fun s z w hs hz hw => ?_⟩
    · rw [← e2 z hz]; show (if z = 2 then _ else M'.2 z) = _; rw [if_neg hz]
    · show (if 3 * (9 * s + z) + w = 3 * (9 * i + j) + 1 then pp M' i j 1 + 1 else pp M' s z w) = _
      by_cases c : 3 * (9 * s + z) + w = 3 * (9 * i + j) + 1
      · have c1 : w = 1 := by omega
        have c2 : s = i := by omega
        have c3 : z = j := by omega
        subst c1; subst c2; subst c3
        rw [if_pos c, e3 s z 1 hs hz hw, if_neg (by omega), if_pos ⟨rfl, by omega, by omega⟩]
      · rw [if_neg c, e3 s z w hs hz hw]
        by_cases d : w = 1 ∧ z < (qq α s).length ∧ (s < i ∨ s = i ∧ z < j)
        · rw [if_pos d, if_pos ⟨d.1, d.2.1, by omega⟩]
        · rw [if_neg d, if_neg (fun f => d ⟨f.1, f.2.1, by have := f.1; omega⟩)]
theorem m_tkO {mk : Option Nat} {α : AS} {M : RS} (hA : AI α) (h : RM mk α M) : ∀ k i n M', i + k = nn α 0 → k < n → TK α M i 0 M' → ∃ M'', f_X2_minuteOn_L129 n (nI i) M' = some (mN M'' 0 (nI (nn α 2) + 1)) ∧ TK α M (nn α 0) 0 M'' := by
  have h6 := A_ns hA
  intro k
  induction k with
  | zero =>
    intro i n M' h1 h2 e
    obtain ⟨m, rfl⟩ : ∃ m, n = m + 1 := ⟨n - 1, by omega⟩
    have : i = nn α 0 := by omega
    subst this
    refine ⟨M', ?_, e⟩
    have ht : M'.2 3 (0 : Int32).toNatClampNeg = nI (nn α 2) := by rw [e.2.1 3 (by decide)]; exact M_t h
    rw [f_X2_minuteOn_L129, e.1, M_ns h, if_pos (nI_le (Nat.le_refl _) (by omega)), lt_e, ht]
    rfl
  | succ k ih =>
    intro i n M' h1 h2 e
    obtain ⟨m, rfl⟩ : ∃ m, n = m + 1 := ⟨n - 1, by omega⟩
    have hl := A_len hA i
    obtain ⟨M1, e1, e2⟩ := m_tkI (κ := fun x1 S => f_X2_minuteOn_L129 m x1 S) hA h (i := i) (by omega) (qq α i).length 0 FU M' (by omega) (by unfold FU; omega) e
    obtain ⟨M2, e3, e4⟩ := ih (i + 1) m M1 (by omega) (by omega) e2
    refine ⟨M2, ?_, e4⟩
    rw [f_X2_minuteOn_L129, e.1, M_ns h, if_neg (nI_ge (by omega) (by omega)), i32_0, e1]
    exact e3
theorem RM_tick {mk : Option Nat} {α : AS} {M M'' : RS} (hA : AI α) (h : RM mk α M) (e : TK α M (nn α 0) 0 M'') : RM mk (aN α 2 (nn α 2 + 1)) (mN M'' 0 (nI (nn α 2) + 1)) := by
  have hlen := A_len hA
  have hq15 : ∀ s e, e ∈ qq α s → s < nn α 0 := fun s e he => (A_q hA he).2.2.2
  obtain ⟨k1, k2, t0, t1, t2, t3, s0, s1, s2, qs, f3, f4, f5, f6, lc⟩ := h
  obtain ⟨e1, e2, e3⟩ := e
  have g0 : ∀ p w, fl (mN M'' 0 (nI (nn α 2) + 1)) p w = fl M p w := fun p w => by rw [fl_mN]; unfold fl; rw [e2 0 (by decide)]
  have g1 : ∀ p w, hl (mN M'' 0 (nI (nn α 2) + 1)) p w = hl M p w := fun p w => by rw [hl_mN]; unfold hl; rw [e2 1 (by decide)]
  have g3 : ∀ j, (mN M'' 0 (nI (nn α 2) + 1)).2 3 j = if j = 0 then nI (nn α 2) + 1 else M.2 3 j := fun j => by rw [nu_mN, e2 3 (by decide)]
  refine ⟨by rw [n1_mN, e1]; exact k1, by rw [n1_mN, e1]; exact k2, ?_, by rw [g3]; exact t1, by rw [g3]; exact t2, by rw [g3]; exact t3, fun s hs => ?_, fun s hs => by rw [g1]; exact s1 s hs, fun s hs => by rw [g1]; exact s2 s hs, fun s k f hs hf => ?_, fun p hp => by rw [g0]; exact f3 p hp, fun p hp => by rw [g0]; exact f4 p hp, fun p hp => by rw [g0]; exact f5 p hp, fun p hp => by rw [g0]; exact f6 p hp, fun p hp => ?_⟩
  · rw [g3, if_pos rfl, nI_1]; rfl
  · rw [g1, nn_aN, if_neg (by omega)]; exact s0 s hs
  · have hf : (qq α s)[k]? = some f := hf
    obtain ⟨b1, b2, b3⟩ := qs s k f hs hf
    have hk : k < (qq α s).length := (List.getElem?_eq_some_iff.mp hf).1
    have := hlen s
    have hsn : s < nn α 0 := hq15 s f (List.mem_of_getElem? hf)
    rw [pp_mN, pp_mN, pp_mN, e3 s k 0 hs (by omega) (by decide), e3 s k 1 hs (by omega) (by decide), e3 s k 2 hs (by omega) (by decide), if_neg (fun d => absurd d.1 (by decide)), if_pos ⟨rfl, hk, Or.inl hsn⟩, if_neg (fun d => absurd d.1 (by decide)), b1, b2, b3]
    refine ⟨rfl, ?_, rfl⟩
    show nI (nn α 2) - nI f.2.1 + 1 = nI (nn α 2 + 1) - nI f.2.1
    rw [← nI_1, Int32.sub_eq_add_neg, Int32.sub_eq_add_neg, Int32.add_assoc, Int32.add_comm _ 1, ← Int32.add_assoc]
  · rcases lc p hp with ⟨z, a1, a2, a3, a4, a5⟩ | ⟨s2, b2, a1, a2, a3, a4, a5, a6⟩
    · exact Or.inl ⟨z, a1, a2, by rw [g0]; exact a3, by rw [g0]; exact a4, by rw [g0]; exact a5⟩
    · exact Or.inr ⟨s2, b2, a1, a2, a3, by rw [g0]; exact a4, by rw [g0]; exact a5, by rw [g0]; exact a6⟩
-- all stations, one after the other
def afold (step : Nat → AS → AS) : Nat → Nat → AS → AS
  | _, 0, α => α
  | i, k + 1, α => afold step (i + 1) k (step i α)
def ST (step : Nat → AS → AS) : Prop := ∀ i α, AI α → i < nn α 0 → AI (step i α) ∧ ∀ j, nn (step i α) j = nn α j
theorem fold_ok {step : Nat → AS → AS} (hst : ST step) : ∀ k i α, i + k = nn α 0 → AI α → AI (afold step i k α) ∧ ∀ j, nn (afold step i k α) j = nn α j := by
  intro k
  induction k with
  | zero => intro i α _ h; exact ⟨h, fun _ => rfl⟩
  | succ k ih =>
    intro i α h1 hA
    obtain ⟨a, b⟩ := hst i α hA (by omega)
    obtain ⟨c, d⟩ := ih (i + 1) (step i α) (by rw [b]; omega) a
    exact ⟨c, fun j => (d j).trans (b j)⟩
theorem g_fold {step : Nat → AS → AS} {R : AS → RS → Prop} (F : Nat → Int32 → RS → Option RS) (nxt : RS → Option RS) (hst : ST step) (hs : ∀ n i α S, AI α → R α S → i < nn α 0 → ∃ S', F (n + 1) (nI i) S = F n (nI (i + 1)) S' ∧ R (step i α) S') (he : ∀ n α S, AI α → R α S → F (n + 1) (nI (nn α 0)) S = nxt S) :
    ∀ k i n α S, i + k = nn α 0 → k < n → AI α → R α S → ∃ S', F n (nI i) S = nxt S' ∧ R (afold step i k α) S' := by
  intro k
  induction k with
  | zero =>
    intro i n α S h1 h2 hA h
    obtain ⟨m, rfl⟩ : ∃ m, n = m + 1 := ⟨n - 1, by omega⟩
    refine ⟨S, ?_, h⟩
    rw [show i = nn α 0 from by omega]
    exact he m α S hA h
  | succ k ih =>
    intro i n α S h1 h2 hA h
    obtain ⟨m, rfl⟩ : ∃ m, n = m + 1 := ⟨n - 1, by omega⟩
    obtain ⟨S1, e1, e2⟩ := hs m i α S hA h (by omega)
    obtain ⟨a, b⟩ := hst i α hA (by omega)
    obtain ⟨S2, e3, e4⟩ := ih (i + 1) m (step i α) S1 (by rw [b]; omega) (by omega) a e2
    exact ⟨S2, e1.trans e3, e4⟩
theorem nn_off {mk : Option Nat} {s k : Nat} {α : AS} : nn (aOff mk s α) k = nn α k := by
  unfold aOff
  split
  · rfl
  · split
    · split
      · rfl
      · unfold aUn
        split
        · rfl
        · split <;> rfl
    · rfl
theorem nn_call {s k : Nat} {α : AS} : nn (aCall s α) k = nn α k := by
  unfold aCall
  split
  · split
    · rfl
    · split
      · rfl
      · split <;> rfl
  · rfl
theorem nn_merge {s k : Nat} {α : AS} : nn (aMerge s α) k = nn α k := by
  unfold aMerge
  split
  · rfl
  · split
    · rfl
    · split <;> rfl
theorem ST_off {mk : Option Nat} : ST (aOff mk) := fun _ _ hA hi => ⟨AI_off hA hi, fun _ => nn_off⟩
theorem ST_board : ST aBoard := fun _ α hA _ => AI_board (α := α) 3 0 α rfl hA
theorem ST_call : ST aCall := fun _ _ hA hi => ⟨AI_call hA hi, fun _ => nn_call⟩
theorem ST_merge : ST aMerge := fun _ _ hA hi => ⟨AI_merge hA hi, fun _ => nn_merge⟩
def m1 (mk : Option Nat) (α : AS) : AS := afold (aOff mk) 0 (nn α 0) (aMv α)
def m2 (mk : Option Nat) (α : AS) : AS := afold aBoard 0 (nn α 0) (m1 mk α)
def m3 (mk : Option Nat) (α : AS) : AS := afold aCall 0 (nn α 0) (m2 mk α)
def m4 (mk : Option Nat) (α : AS) : AS := afold aMerge 0 (nn α 0) (m3 mk α)
def aMin (mk : Option Nat) (α : AS) : AS := aN (m4 mk α) 2 (nn α 2 + 1)
theorem m1_ok {mk : Option Nat} {α : AS} (hA : AI α) : AI (m1 mk α) ∧ ∀ j, nn (m1 mk α) j = nn α j := fold_ok ST_off (nn α 0) 0 (aMv α) (Nat.zero_add _) (AI_mv hA)
theorem m2_ok {mk : Option Nat} {α : AS} (hA : AI α) : AI (m2 mk α) ∧ ∀ j, nn (m2 mk α) j = nn α j := by
  obtain ⟨a, b⟩ := m1_ok (mk := mk) hA
  obtain ⟨c, d⟩ := fold_ok ST_board (nn α 0) 0 (m1 mk α) (by rw [b, Nat.zero_add]) a
  exact ⟨c, fun j => (d j).trans (b j)⟩
theorem m3_ok {mk : Option Nat} {α : AS} (hA : AI α) : AI (m3 mk α) ∧ ∀ j, nn (m3 mk α) j = nn α j := by
  obtain ⟨a, b⟩ := m2_ok (mk := mk) hA
  obtain ⟨c, d⟩ := fold_ok ST_call (nn α 0) 0 (m2 mk α) (by rw [b, Nat.zero_add]) a
  exact ⟨c, fun j => (d j).trans (b j)⟩
theorem m4_ok {mk : Option Nat} {α : AS} (hA : AI α) : AI (m4 mk α) ∧ ∀ j, nn (m4 mk α) j = nn α j := by
  obtain ⟨a, b⟩ := m3_ok (mk := mk) hA
  obtain ⟨c, d⟩ := fold_ok ST_merge (nn α 0) 0 (m3 mk α) (by rw [b, Nat.zero_add]) a
  exact ⟨c, fun j => (d j).trans (b j)⟩
theorem AI_min {mk : Option Nat} {α : AS} (hA : AI α) (ht : nn α 2 + 1 < 2 ^ 29) : AI (aMin mk α) := by
  obtain ⟨a, b⟩ := m4_ok (mk := mk) hA
  have := AI_tick a (by rw [b]; exact ht)
  rw [b] at this
  exact this
theorem nn_min {mk : Option Nat} {α : AS} (hA : AI α) {j : Nat} (hj : j ≠ 2) : nn (aMin mk α) j = nn α j := by
  unfold aMin
  rw [nn_aN, if_neg hj]
  exact (m4_ok hA).2 j
theorem C_min {mk : Option Nat} {α : AS} {S : RS} (hA : AI α) (h : RC α S) : ∃ S', f_X0_passMinute S = some S' ∧ RC (aMin mk α) S' := by
  have h6 := A_ns hA
  have hF : nn α 0 < FU := by unfold FU; omega
  obtain ⟨S1, e1, r1⟩ := C_mv h
  obtain ⟨a1, b1⟩ := m1_ok (mk := mk) hA
  obtain ⟨a2, b2⟩ := m2_ok (mk := mk) hA
  obtain ⟨a3, b3⟩ := m3_ok (mk := mk) hA
  obtain ⟨a4, b4⟩ := m4_ok (mk := mk) hA
  obtain ⟨S2, e2, r2⟩ := g_fold (R := RC) (fun n i S => f_X0_passMinute_L6 n i S) (fun S => f_X0_passMinute_L27 FU 0 S) (ST_off (mk := mk)) (fun n i α S hA h hi => by
    obtain ⟨S', q1, q2⟩ := C_off (mk := mk) hA h hi
    refine ⟨S', ?_, q2⟩
    have := A_ns hA
    show f_X0_passMinute_L6 (n + 1) (nI i) S = _
    rw [f_X0_passMinute_L6, C_ns h, if_neg (nI_ge hi (by omega)), q1, ob_v, nI_1]) (fun n α S hA h => by
    have := A_ns hA
    show f_X0_passMinute_L6 (n + 1) (nI (nn α 0)) S = _
    rw [f_X0_passMinute_L6, C_ns h, if_pos (nI_le (Nat.le_refl _) (by omega))]) (nn α 0) 0 FU (aMv α) S1 (Nat.zero_add _) hF (AI_mv hA) r1
  obtain ⟨S3, e3, r3⟩ := g_fold (R := RC) (fun n i S => f_X0_passMinute_L27 n i S) (fun S => f_X0_passMinute_L48 FU 0 S) ST_board (fun n i α S hA h hi => by
    obtain ⟨S', q1, q2⟩ := C_board hA h hi
    refine ⟨S', ?_, q2⟩
    have := A_ns hA
    show f_X0_passMinute_L27 (n + 1) (nI i) S = _
    rw [f_X0_passMinute_L27, C_ns h, if_neg (nI_ge hi (by omega)), q1, ob_v, nI_1]) (fun n α S hA h => by
    have := A_ns hA
    show f_X0_passMinute_L27 (n + 1) (nI (nn α 0)) S = _
    rw [f_X0_passMinute_L27, C_ns h, if_pos (nI_le (Nat.le_refl _) (by omega))]) (nn α 0) 0 FU (m1 mk α) S2 (by rw [b1, Nat.zero_add]) hF a1 r2
  obtain ⟨S4, e4, r4⟩ := g_fold (R := RC) (fun n i S => f_X0_passMinute_L48 n i S) (fun S => f_X0_passMinute_L69 FU 0 S) ST_call (fun n i α S hA h hi => by
    obtain ⟨S', q1, q2⟩ := C_call hA h hi
    refine ⟨S', ?_, q2⟩
    have := A_ns hA
    show f_X0_passMinute_L48 (n + 1) (nI i) S = _
    rw [f_X0_passMinute_L48, C_ns h, if_neg (nI_ge hi (by omega)), q1, ob_v, nI_1]) (fun n α S hA h => by
    have := A_ns hA
    show f_X0_passMinute_L48 (n + 1) (nI (nn α 0)) S = _
    rw [f_X0_passMinute_L48, C_ns h, if_pos (nI_le (Nat.le_refl _) (by omega))]) (nn α 0) 0 FU (m2 mk α) S3 (by rw [b2, Nat.zero_add]) hF a2 r3
  obtain ⟨S5, e5, r5⟩ := g_fold (R := RC) (fun n i S => f_X0_passMinute_L69 n i S) (fun S => some (sI S 0 (S.1 0 + 1))) ST_merge (fun n i α S hA h hi => by
    obtain ⟨S', q1, q2⟩ := C_merge hA h hi
    refine ⟨S', ?_, q2⟩
    have := A_ns hA
    show f_X0_passMinute_L69 (n + 1) (nI i) S = _
    rw [f_X0_passMinute_L69, C_ns h, if_neg (nI_ge hi (by omega)), q1, ob_v, nI_1]) (fun n α S hA h => by
    have := A_ns hA
    show f_X0_passMinute_L69 (n + 1) (nI (nn α 0)) S = _
    rw [f_X0_passMinute_L69, C_ns h, if_pos (nI_le (Nat.le_refl _) (by omega))]
    rfl) (nn α 0) 0 FU (m3 mk α) S4 (by rw [b3, Nat.zero_add]) hF a3 r4
  refine ⟨sI S5 0 (S5.1 0 + 1), ?_, ?_⟩
  · unfold f_X0_passMinute
    rw [e1, ob_v]
    exact e2.trans (e3.trans (e4.trans e5))
  · have := RCt r5
    unfold aMin
    rw [← b4]
    exact this
theorem M_min {mk : Option Nat} {α : AS} {M : RS} (hA : AI α) (h : RM mk α M) : ∃ M', f_X2_minuteOn M = some M' ∧ RM mk (aMin mk α) M' := by
  have h6 := A_ns hA
  have h12 := A_np hA
  have hF : nn α 0 < FU := by unfold FU; omega
  obtain ⟨M1, e1, g1, g2, g3⟩ := m_mvL (M := M) h12 (M_np h) (nn α 1) 0 FU M (Nat.zero_add _) (by unfold FU; omega) rfl (fun _ _ => rfl) (fun p w _ _ => by rw [if_neg (by omega)])
  have r1 := RM_mv hA h g1 g2 g3
  obtain ⟨a1, b1⟩ := m1_ok (mk := mk) hA
  obtain ⟨a2, b2⟩ := m2_ok (mk := mk) hA
  obtain ⟨a3, b3⟩ := m3_ok (mk := mk) hA
  obtain ⟨a4, b4⟩ := m4_ok (mk := mk) hA
  obtain ⟨S2, e2, r2⟩ := g_fold (R := RM mk) (fun n i S => f_X2_minuteOn_L45 n i S) (fun S => f_X2_minuteOn_L66 FU 0 S) (ST_off (mk := mk)) (fun n i α S hA h hi => by
    obtain ⟨S', q1, q2⟩ := M_off hA h hi
    refine ⟨S', ?_, q2⟩
    have := A_ns hA
    show f_X2_minuteOn_L45 (n + 1) (nI i) S = _
    rw [f_X2_minuteOn_L45, M_ns h, if_neg (nI_ge hi (by omega)), q1, ob_v, nI_1]) (fun n α S hA h => by
    have := A_ns hA
    show f_X2_minuteOn_L45 (n + 1) (nI (nn α 0)) S = _
    rw [f_X2_minuteOn_L45, M_ns h, if_pos (nI_le (Nat.le_refl _) (by omega))]) (nn α 0) 0 FU (aMv α) M1 (Nat.zero_add _) hF (AI_mv hA) r1
  obtain ⟨S3, e3, r3⟩ := g_fold (R := RM mk) (fun n i S => f_X2_minuteOn_L66 n i S) (fun S => f_X2_minuteOn_L87 FU 0 S) ST_board (fun n i α S hA h hi => by
    obtain ⟨S', q1, q2⟩ := M_board hA h hi
    refine ⟨S', ?_, q2⟩
    have := A_ns hA
    show f_X2_minuteOn_L66 (n + 1) (nI i) S = _
    rw [f_X2_minuteOn_L66, M_ns h, if_neg (nI_ge hi (by omega)), q1, ob_v, nI_1]) (fun n α S hA h => by
    have := A_ns hA
    show f_X2_minuteOn_L66 (n + 1) (nI (nn α 0)) S = _
    rw [f_X2_minuteOn_L66, M_ns h, if_pos (nI_le (Nat.le_refl _) (by omega))]) (nn α 0) 0 FU (m1 mk α) S2 (by rw [b1, Nat.zero_add]) hF a1 r2
  obtain ⟨S4, e4, r4⟩ := g_fold (R := RM mk) (fun n i S => f_X2_minuteOn_L87 n i S) (fun S => f_X2_minuteOn_L108 FU 0 S) ST_call (fun n i α S hA h hi => by
    obtain ⟨S', q1, q2⟩ := M_call hA h hi
    refine ⟨S', ?_, q2⟩
    have := A_ns hA
    show f_X2_minuteOn_L87 (n + 1) (nI i) S = _
    rw [f_X2_minuteOn_L87, M_ns h, if_neg (nI_ge hi (by omega)), q1, ob_v, nI_1]) (fun n α S hA h => by
    have := A_ns hA
    show f_X2_minuteOn_L87 (n + 1) (nI (nn α 0)) S = _
    rw [f_X2_minuteOn_L87, M_ns h, if_pos (nI_le (Nat.le_refl _) (by omega))]) (nn α 0) 0 FU (m2 mk α) S3 (by rw [b2, Nat.zero_add]) hF a2 r3
  obtain ⟨S5, e5, r5⟩ := g_fold (R := RM mk) (fun n i S => f_X2_minuteOn_L108 n i S) (fun S => f_X2_minuteOn_L129 FU 0 S) ST_merge (fun n i α S hA h hi => by
    obtain ⟨S', q1, q2⟩ := M_merge hA h hi
    refine ⟨S', ?_, q2⟩
    have := A_ns hA
    show f_X2_minuteOn_L108 (n + 1) (nI i) S = _
    rw [f_X2_minuteOn_L108, M_ns h, if_neg (nI_ge hi (by omega)), q1, ob_v, nI_1]) (fun n α S hA h => by
    have := A_ns hA
    show f_X2_minuteOn_L108 (n + 1) (nI (nn α 0)) S = _
    rw [f_X2_minuteOn_L108, M_ns h, if_pos (nI_le (Nat.le_refl _) (by omega))]) (nn α 0) 0 FU (m3 mk α) S4 (by rw [b3, Nat.zero_add]) hF a3 r4
  have hz : nn (m4 mk α) 0 = nn α 0 := b4 0
  obtain ⟨S6, e6, r6⟩ := m_tkO a4 r5 (nn α 0) 0 FU S5 (by rw [b4, Nat.zero_add]) hF ⟨rfl, fun _ _ => rfl, fun s k w _ _ _ => by rw [if_neg (by omega)]⟩
  have r7 := RM_tick a4 r5 r6
  refine ⟨_, ?_, by unfold aMin; rw [← b4 2]; exact r7⟩
  unfold f_X2_minuteOn
  exact e1.trans (e2.trans (e3.trans (e4.trans (e5.trans e6))))
