theorem m_po0 {M : RS} {p : Nat} (hp : p < 12) : f_X2_po M (nI p) 0 = some (fl M p 0) := m_po (w := 0) hp (by decide)
theorem m_put0 {M : RS} {p : Nat} {v : Int32} (hp : p < 12) : f_X2_put M (nI p) 0 v = some (mF M p 0 v) := m_put (w := 0) hp (by decide)
theorem m_po1 {M : RS} {p : Nat} (hp : p < 12) : f_X2_po M (nI p) 1 = some (fl M p 1) := m_po (w := 1) hp (by decide)
theorem m_put1 {M : RS} {p : Nat} {v : Int32} (hp : p < 12) : f_X2_put M (nI p) 1 v = some (mF M p 1 v) := m_put (w := 1) hp (by decide)
theorem m_po2 {M : RS} {p : Nat} (hp : p < 12) : f_X2_po M (nI p) 2 = some (fl M p 2) := m_po (w := 2) hp (by decide)
theorem m_put2 {M : RS} {p : Nat} {v : Int32} (hp : p < 12) : f_X2_put M (nI p) 2 v = some (mF M p 2 v) := m_put (w := 2) hp (by decide)
theorem m_po3 {M : RS} {p : Nat} (hp : p < 12) : f_X2_po M (nI p) 3 = some (fl M p 3) := m_po (w := 3) hp (by decide)
theorem m_put3 {M : RS} {p : Nat} {v : Int32} (hp : p < 12) : f_X2_put M (nI p) 3 v = some (mF M p 3 v) := m_put (w := 3) hp (by decide)
theorem m_po4 {M : RS} {p : Nat} (hp : p < 12) : f_X2_po M (nI p) 4 = some (fl M p 4) := m_po (w := 4) hp (by decide)
theorem m_put4 {M : RS} {p : Nat} {v : Int32} (hp : p < 12) : f_X2_put M (nI p) 4 v = some (mF M p 4 v) := m_put (w := 4) hp (by decide)
theorem m_po5 {M : RS} {p : Nat} (hp : p < 12) : f_X2_po M (nI p) 5 = some (fl M p 5) := m_po (w := 5) hp (by decide)
theorem m_put5 {M : RS} {p : Nat} {v : Int32} (hp : p < 12) : f_X2_put M (nI p) 5 v = some (mF M p 5 v) := m_put (w := 5) hp (by decide)
theorem m_po6 {M : RS} {p : Nat} (hp : p < 12) : f_X2_po M (nI p) 6 = some (fl M p 6) := m_po (w := 6) hp (by decide)
theorem m_put6 {M : RS} {p : Nat} {v : Int32} (hp : p < 12) : f_X2_put M (nI p) 6 v = some (mF M p 6 v) := m_put (w := 6) hp (by decide)
theorem m_st0 {M : RS} {s : Nat} (hs : s < 6) : f_X2_st M (nI s) 0 = some (hl M s 0) := m_st (w := 0) hs (by decide)
theorem m_pe00 {M : RS} {s : Nat} (hs : s < 6) : f_X2_pe M (nI s) 0 0 = some (pp M s 0 0) := m_pe (k := 0) (w := 0) hs (by decide) (by decide)
theorem m_st1 {M : RS} {s : Nat} (hs : s < 6) : f_X2_st M (nI s) 1 = some (hl M s 1) := m_st (w := 1) hs (by decide)
theorem m_pe01 {M : RS} {s : Nat} (hs : s < 6) : f_X2_pe M (nI s) 0 1 = some (pp M s 0 1) := m_pe (k := 0) (w := 1) hs (by decide) (by decide)
theorem m_st2 {M : RS} {s : Nat} (hs : s < 6) : f_X2_st M (nI s) 2 = some (hl M s 2) := m_st (w := 2) hs (by decide)
theorem m_pe02 {M : RS} {s : Nat} (hs : s < 6) : f_X2_pe M (nI s) 0 2 = some (pp M s 0 2) := m_pe (k := 0) (w := 2) hs (by decide) (by decide)
theorem ix1 (s : Nat) : (3 * nI s) + 1 = nI (3 * s + 1) := x3 s 1
theorem ix2 (s : Nat) : (3 * nI s) + 2 = nI (3 * s + 2) := x3 s 2
theorem kd_e0 {α : AS} {c : Nat} (h : kd α c = 0) : oo α 1 c = none := by
  cases q : oo α 1 c with
  | none => rfl
  | some p =>
    cases g : oo α 2 p with
    | none => rw [kd_1 q g] at h; cases h
    | some z => rw [kd_2 q g] at h; cases h
theorem kd_e1 {α : AS} {c : Nat} (h : kd α c = 1) : ∃ p, oo α 1 c = some p ∧ oo α 2 p = none := by
  cases q : oo α 1 c with
  | none => rw [kd_0 q] at h; cases h
  | some p =>
    cases g : oo α 2 p with
    | none => exact ⟨p, rfl, g⟩
    | some z => rw [kd_2 q g] at h; cases h
theorem kd_e2 {α : AS} {c : Nat} (h : kd α c = 2) : ∃ p g, oo α 1 c = some p ∧ oo α 2 p = some g := by
  cases q : oo α 1 c with
  | none => rw [kd_0 q] at h; cases h
  | some p =>
    cases g : oo α 2 p with
    | none => rw [kd_1 q g] at h; cases h
    | some z => exact ⟨p, z, rfl, g⟩
-- pods that come in
def aBs (α : AS) (x c p : Nat) : AS := aO (aO (aO α 0 x none) 1 c (some p)) 2 p none
def aUn (mk : Option Nat) (s x p c : Nat) (α : AS) : AS := match oo α 3 p with
  | none => aI (aBs α x c p) 3 p (ii α 3 p + 1)
  | some r => aI (if mk = some r then aI (aI (aO (aBs α x c p) 3 p none) 0 s (ii α 0 s + 1)) 4 0 (nI (nn α 2) + 1) else aI (aO (aBs α x c p) 3 p none) 0 s (ii α 0 s + 1)) 3 p (ii α 3 p + 1)
def aOff (mk : Option Nat) (s : Nat) (α : AS) : AS := match oo α 0 (pl α s) with
  | none => α
  | some p => if oo α 2 p = some s then (match fb α s 0 with
    | none => aI α 1 p (ii α 1 p + 1)
    | some b => aUn mk s (pl α s) p (3 * s + b) α) else α
theorem C_off {mk : Option Nat} {α : AS} {S : RS} {s : Nat} (hA : AI α) (h : RC α S) (hs : s < nn α 0) : ∃ S', f_X0_letGoOff S (nI s) = some S' ∧ RC (aOff mk s α) S' := by
  have h12 := A_np hA
  have h6 := A_ns hA
  have hpl := A_pl hA hs
  unfold f_X0_letGoOff aOff
  rw [c_place hA h hs, ob_v, c_pod h hpl, ob_v]
  cases e : oo α 0 (pl α s) with
  | none => rw [oI_none, if_pos rfl]; exact ⟨S, rfl, h⟩
  | some p =>
    obtain ⟨_, hp⟩ := A_0 hA e
    rw [oI_some, if_neg (nI_ne_m1 (by omega)), c_goal h (by omega), ob_v]
    dsimp only
    by_cases g : oo α 2 p = some s
    · rw [if_pos (by rw [g, oI_some]), if_pos g, c_first0 hA h (by omega), ob_v]
      cases f : fb α s 0 with
      | none =>
        rw [show bI3 s none = -1 from rfl, if_pos rfl, c_read (by omega) (by decide), ob_v, c_write (by omega) (by decide), ob_v, lt_e, C_10 h (by omega)]
        exact ⟨_, rfl, RC10 h⟩
      | some b =>
        obtain ⟨hb, hk, _⟩ := fb_some f
        have h3 := RC8 (x := p) (v := none) (RC1 (x := 3 * s + b) (v := some p) (RC0 (x := pl α s) (v := none) h))
        simp only [oI_none, oI_some] at h3
        rw [show bI3 s (some b) = nI (3 * s + b) from rfl, if_neg (nI_ne_m1 (by omega)), c_write hpl (by decide), ob_v, lt_e, c_write (by omega) (by decide), ob_v, lt_e]
        unfold f_X0_setGoal
        rw [c_write (by omega) (by decide), ob_v, lt_e, ob_v, c_rider h3 (by omega), ob_v]
        rw [show oo (aO (aO (aO α 0 (pl α s) none) 1 (3 * s + b) (some p)) 2 p none) 3 p = oo α 3 p from rfl]
        unfold aUn
        cases r : oo α 3 p with
        | none =>
          rw [oI_none, if_pos rfl]
          exact ⟨_, rfl, RCi3 h3⟩
        | some z =>
          have hz := A_3 hA r
          have hz2 := A_nr hA
          have h4 := RC9 (x := p) (v := none) h3
          simp only [oI_none] at h4
          rw [oI_some, if_neg (nI_ne_m1 (by omega)), c_write (by omega) (by decide), ob_v, lt_e, c_read (by omega) (by decide), ob_v, c_write (by omega) (by decide), ob_v, lt_e, C_3 h4 (by omega)]
          refine ⟨_, rfl, ?_⟩
          dsimp only
          have h5 := RC3 (x := s) (v := ii α 0 s + 1) h4
          by_cases m : mk = some z
          · rw [if_pos m]; exact RCi3 (RCi4 h5)
          · rw [if_neg m]; exact RCi3 h5
    · rw [if_neg (fun q => g ((oI_nI (by omega) (fun k hk => by have := A_2 hA hk; omega)).mp q)), if_neg g]
      exact ⟨S, rfl, h⟩
theorem rk_some {mk : Option Nat} {r : Nat} : rk mk (some r) = if mk = some r then 2 else 1 := rfl
theorem rk_2 {mk o : Option Nat} : rk mk o = 2 ↔ ∃ r, o = some r ∧ mk = some r := by
  cases o with
  | none => exact ⟨fun e => absurd (show (0 : Int32) = 2 from e) (by decide), fun ⟨r, e, _⟩ => by cases e⟩
  | some r =>
    rw [rk_some]
    by_cases c : mk = some r
    · rw [if_pos c]; exact ⟨fun _ => ⟨r, rfl, c⟩, fun _ => rfl⟩
    · rw [if_neg c]; exact ⟨fun e => absurd e (by decide), fun ⟨z, e, f⟩ => absurd (f.trans e.symm) c⟩
theorem m_unl {mk : Option Nat} {α : AS} {M : RS} {s x p b : Nat} (hA : AI α) (h : RM mk α M) (hs : s < 6) (hp : p < nn α 1) (hx : oo α 0 x = some p) (hb : b < 3) (hc : oo α 1 (3 * s + b) = none) : ∃ M', f_X2_off_L100 (nI s) (nI p) (nI b) M = some M' ∧ RM mk (aI (aO (aBs α x (3 * s + b) p) 3 p none) 3 p (ii α 3 p + 1)) M' := by
  have h12 := A_np hA
  have h1 := RM4 (x := p) (v := none) (RM3 (x := p) (v := none) (RM_in hA h hx hs hb hc))
  unfold f_X2_off_L100
  rw [m_put0 (by omega), ob_v, m_put1 (by omega), ob_v, m_put2 (by omega), ob_v, m_put3 (by omega), ob_v, m_put4 (by omega), ob_v, m_po6 (by omega), ob_v, m_put6 (by omega), ob_v]
  have h2 := M_f6 h1 hp
  have h3 := RM6 (x := p) (v := ii α 3 p + 1) h1
  refine ⟨_, rfl, ?_⟩
  have e : fl (mF (mF (mF (mF (mF M p 0 (-1)) p 1 (nI s)) p 2 (nI b)) p 3 (-1)) p 4 0) p 6 = ii α 3 p := h2
  rw [e]
  exact h3
theorem M_off {mk : Option Nat} {α : AS} {M : RS} {s : Nat} (hA : AI α) (h : RM mk α M) (hs : s < nn α 0) : ∃ M', f_X2_off M (nI s) = some M' ∧ RM mk (aOff mk s α) M' := by
  have h12 := A_np hA
  have h6 := A_ns hA
  have hpl := A_pl hA hs
  unfold f_X2_off aOff
  rw [m_st0 (by omega), ob_v, M_h0 h hs, m_slot hA h hpl, ob_v]
  cases e : oo α 0 (pl α s) with
  | none => rw [oI_none, if_pos rfl]; exact ⟨M, rfl, h⟩
  | some p =>
    obtain ⟨_, hp⟩ := A_0 hA e
    rw [oI_some, if_neg (nI_ne_m1 (by omega)), m_po3 (by omega), ob_v, M_f3 h hp]
    dsimp only
    by_cases g : oo α 2 p = some s
    · rw [if_pos (by rw [g, oI_some]), if_pos g, m_free hA h (by omega), ob_v]
      cases f : fb α s 0 with
      | none =>
        rw [oI_none, if_pos rfl, m_po5 (by omega), ob_v, m_put5 (by omega), ob_v, M_f5 h hp]
        exact ⟨_, rfl, RM5 h⟩
      | some b =>
        obtain ⟨hb, hk, _⟩ := fb_some f
        have hc := kd_e0 hk
        rw [oI_some, if_neg (nI_ne_m1 (by omega)), m_po4 (by omega), ob_v, M_f4 h hp]
        dsimp only
        unfold aUn
        cases r : oo α 3 p with
        | none =>
          rw [if_pos (rk_le.mpr rfl)]
          unfold f_X2_off_L76
          rw [m_po4 (by omega), ob_v, M_f4 h hp, r, if_neg (fun q => by obtain ⟨z, e1, _⟩ := rk_2.mp q; cases e1)]
          obtain ⟨M', e1, e2⟩ := m_unl hA h (by omega) hp e hb hc
          refine ⟨M', e1, ?_⟩
          rw [aO_same (show oo (aBs α (pl α s) (3 * s + b) p) 3 p = none from r)] at e2
          exact e2
        | some z =>
          rw [if_neg (fun q => by have := rk_le.mp q; cases this), ix2, if_neg (nI_bad (by omega) (by decide)), if_neg (nI_bad (by omega) (by decide)), nI_clamp (by omega), lt_e]
          have ha : M.2 1 (3 * s + 2) = ii α 0 s := M_h2 h (by omega)
          rw [ha]
          have h1 : RM mk (aI α 0 s (ii α 0 s + 1)) (mH M s 2 (ii α 0 s + 1)) := RMh2 h
          have hA1 : AI (aI α 0 s (ii α 0 s + 1)) := AI_aI hA (Or.inl ⟨by decide, by decide⟩)
          show ∃ M', f_X2_off_L76 (nI s) (nI p) (nI b) (mH M s 2 (ii α 0 s + 1)) = some M' ∧ _
          unfold f_X2_off_L76
          rw [m_po4 (by omega), ob_v, show fl (mH M s 2 (ii α 0 s + 1)) p 4 = rk mk (some z) from by rw [← r]; exact M_f4 h1 hp]
          by_cases m : mk = some z
          · rw [if_pos (rk_2.mpr ⟨z, rfl, m⟩), lt_e]
            dsimp only
            rw [if_pos m]
            have h2 : RM mk (aI (aI α 0 s (ii α 0 s + 1)) 4 0 (nI (nn α 2) + 1)) (mN (mH M s 2 (ii α 0 s + 1)) 3 (nI (nn α 2) + 1)) := RMn3 h1
            have hA2 : AI (aI (aI α 0 s (ii α 0 s + 1)) 4 0 (nI (nn α 2) + 1)) := AI_aI hA1 (Or.inl ⟨by decide, by decide⟩)
            have ht0 := M_t h1
            have ht : (mH M s 2 (ii α 0 s + 1)).2 3 (0 : Int32).toNatClampNeg = nI (nn α 2) := ht0
            rw [ht]
            exact m_unl hA2 h2 (by omega) hp e hb hc
          · rw [if_neg (fun q => by obtain ⟨z2, e1, e2⟩ := rk_2.mp q; exact m (by rw [e2, e1]))]
            dsimp only
            rw [if_neg m]
            exact m_unl hA1 h1 (by omega) hp e hb hc
    · rw [if_neg (fun q => g ((oI_nI (by omega) (fun k hk => by have := A_2 hA hk; omega)).mp q)), if_neg g]
      exact ⟨M, rfl, h⟩
theorem AI_base {α : AS} {s x p b : Nat} (hA : AI α) (hs : s < nn α 0) (hx : oo α 0 x = some p) (hb : b < 3) (hc : oo α 1 (3 * s + b) = none) : AI (aO (aBs α x (3 * s + b) p) 3 p none) := by
  have h6 := A_ns hA
  have h1 : AI (aO (aO α 3 p none) 2 p none) := AI_g0 (AI_r0 hA) (by rw [oo_aO, if_pos ⟨rfl, rfl⟩])
  have h2 := AI_in (c := 3 * s + b) h1 (x := x) (p := p) hx hc (by omega) (by show (3 * s + b) / 3 < nn α 0; omega) (by rw [oo_aO, if_pos ⟨rfl, rfl⟩]; exact fun q => by cases q)
  unfold aBs
  rw [aO_comm (α := aO (aO α 0 x none) 1 (3 * s + b) (some p)) (by decide : 2 ≠ 3), aO_comm (α := aO α 0 x none) (k := 1) (k' := 3) (by decide), aO_comm (α := α) (k := 0) (k' := 3) (by decide), aO_comm (α := aO (aO α 3 p none) 0 x none) (k := 1) (k' := 2) (by decide), aO_comm (α := aO α 3 p none) (k := 0) (k' := 2) (by decide)]
  exact h2
theorem AI_off {mk : Option Nat} {α : AS} {s : Nat} (hA : AI α) (hs : s < nn α 0) : AI (aOff mk s α) := by
  unfold aOff
  cases e : oo α 0 (pl α s) with
  | none => exact hA
  | some p =>
    obtain ⟨_, hp⟩ := A_0 hA e
    dsimp only
    by_cases g : oo α 2 p = some s
    · rw [if_pos g]
      cases f : fb α s 0 with
      | none => exact AI_aI hA (Or.inr hp)
      | some b =>
        obtain ⟨hb, hk, _⟩ := fb_some f
        have hc := kd_e0 hk
        have h1 := AI_base hA hs e hb hc
        dsimp only
        unfold aUn
        cases r : oo α 3 p with
        | none =>
          rw [aO_same (show oo (aBs α (pl α s) (3 * s + b) p) 3 p = none from r)] at h1
          exact AI_aI h1 (Or.inr hp)
        | some z =>
          dsimp only
          by_cases m : mk = some z
          · rw [if_pos m]; exact AI_aI (AI_aI (AI_aI h1 (Or.inl ⟨by decide, by decide⟩)) (Or.inl ⟨by decide, by decide⟩)) (Or.inr hp)
          · rw [if_neg m]; exact AI_aI (AI_aI h1 (Or.inl ⟨by decide, by decide⟩)) (Or.inr hp)
    · rw [if_neg g]; exact hA
-- calls
def aCall (s : Nat) (α : AS) : AS := if com α s < nI (qq α s).length then (match ans α s with
  | none => α
  | some v => match fb α v 1 with
    | none => α
    | some b => match oo α 1 (3 * v + b) with
      | none => α
      | some p => aI (aO α 2 p (some s)) 2 0 (ii α 2 0 + 1)) else α
theorem anS_ok {α : AS} {x i : Nat} {cur : Option Nat} (h : ∀ j, cur = some j → j ≠ x ∧ ∃ b, fb α j 1 = some b) : ∀ j, anS α x i cur = some j → j ≠ x ∧ ∃ b, fb α j 1 = some b := by
  intro j
  unfold anS
  by_cases c1 : i = x
  · rw [if_pos c1]; exact h j
  · rw [if_neg c1]
    by_cases c2 : (qq α i).length = 0
    · rw [if_pos c2]
      cases e : fb α i 1 with
      | none => exact h j
      | some b =>
        cases cur with
        | none => intro q; cases q; exact ⟨c1, b, e⟩
        | some k =>
          show (if dst α k x ≤ dst α i x then some k else some i) = some j → _
          by_cases c3 : dst α k x ≤ dst α i x
          · rw [if_pos c3]; exact h j
          · rw [if_neg c3]; intro q; cases q; exact ⟨c1, b, e⟩
    · rw [if_neg c2]; exact h j
theorem anL_ok {α : AS} {x : Nat} : ∀ k i cur, i + k = nn α 0 → (∀ j, cur = some j → j < nn α 0 ∧ j ≠ x ∧ ∃ b, fb α j 1 = some b) → ∀ j, anL α x i k cur = some j → j < nn α 0 ∧ j ≠ x ∧ ∃ b, fb α j 1 = some b := by
  intro k
  induction k with
  | zero => intro i cur _ h j hj; exact h j hj
  | succ k ih =>
    intro i cur h1 h j hj
    refine ih (i + 1) (anS α x i cur) (by omega) (fun z hz => ⟨anS_lt (fun w hw => (h w hw).1) (by omega) z hz, anS_ok (fun w hw => (h w hw).2) z hz⟩) j hj
theorem ans_ok {α : AS} {x j : Nat} (h : ans α x = some j) : j < nn α 0 ∧ j ≠ x ∧ ∃ b, fb α j 1 = some b := anL_ok (nn α 0) 0 none (by omega) (fun j q => by cases q) j h
theorem i32_nlt {a b : Int32} : ¬ a < b ↔ b ≤ a := Int32.not_lt
theorem C_call {α : AS} {S : RS} {s : Nat} (hA : AI α) (h : RC α S) (hs : s < nn α 0) : ∃ S', f_X0_letCall S (nI s) = some S' ∧ RC (aCall s α) S' := by
  have h12 := A_np hA
  have h6 := A_ns hA
  unfold f_X0_letCall aCall
  rw [c_wait hA h (by omega), ob_v, c_empty hA h hs, ob_v]
  by_cases c : com α s < nI (qq α s).length
  · rw [if_pos c, if_pos c, c_ans hA h hs, ob_v]
    cases e : ans α s with
    | none => rw [oI_none, if_pos rfl]; exact ⟨S, rfl, h⟩
    | some v =>
      obtain ⟨hv, hne, b, hb⟩ := ans_ok e
      obtain ⟨hb3, hk, _⟩ := fb_some hb
      obtain ⟨p, q1, q2⟩ := kd_e1 hk
      obtain ⟨_, hp, _, _⟩ := A_1 hA q1
      have h1 := RC8 (x := p) (v := some s) h
      simp only [oI_some] at h1
      rw [oI_some, if_neg (nI_ne_m1 (by omega)), c_first1 hA h (by omega), ob_v, hb, show bI3 v (some b) = nI (3 * v + b) from rfl, c_berth h (by omega), ob_v, q1, oI_some]
      unfold f_X0_setGoal
      rw [c_write (by omega) (by decide), ob_v, lt_e, ob_v, lt_e]
      refine ⟨_, rfl, ?_⟩
      dsimp only
      rw [hb]
      dsimp only
      rw [q1]
      have h2 := RCa (v := ii α 2 0 + 1) h1
      have e4 := C_an h1
      rw [e4]
      exact h2
  · rw [if_neg c, if_neg c]; exact ⟨S, rfl, h⟩
theorem M_call {mk : Option Nat} {α : AS} {M : RS} {s : Nat} (hA : AI α) (h : RM mk α M) (hs : s < nn α 0) : ∃ M', f_X2_call M (nI s) = some M' ∧ RM mk (aCall s α) M' := by
  have h12 := A_np hA
  have h6 := A_ns hA
  unfold f_X2_call aCall
  rw [m_st1 (by omega), ob_v, m_com hA h hs, ob_v, M_h1 h (by omega)]
  by_cases c : com α s < nI (qq α s).length
  · rw [if_neg (fun q => i32_nlt.mpr q c), if_pos c, m_ans hA h hs, ob_v]
    cases e : ans α s with
    | none => rw [oI_none, if_pos rfl]; exact ⟨M, rfl, h⟩
    | some v =>
      obtain ⟨hv, hne, b, hb⟩ := ans_ok e
      obtain ⟨hb3, hk, _⟩ := fb_some hb
      obtain ⟨p, q1, q2⟩ := kd_e1 hk
      obtain ⟨_, hp, _, _⟩ := A_1 hA q1
      have h1 := RM3 (x := p) (v := some s) h
      simp only [oI_some] at h1
      rw [oI_some, if_neg (nI_ne_m1 (by omega)), ob_v, m_first hA h (by omega) (Or.inl ⟨rfl, rfl⟩), ob_v, hb, show pB α v (some b) = oI (oo α 1 (3 * v + b)) from rfl, q1, oI_some, m_put3 (by omega), ob_v, lt_e]
      refine ⟨_, rfl, ?_⟩
      dsimp only
      rw [hb]
      dsimp only
      rw [q1]
      have e40 := M_an h1
      have e4 : (mF M p 3 (nI s)).2 3 (1 : Int32).toNatClampNeg = ii α 2 0 := e40
      rw [e4]
      exact RMn1 (v := ii α 2 0 + 1) h1
  · rw [if_pos (i32_nlt.mp c), if_neg c]; exact ⟨M, rfl, h⟩
theorem AI_call {α : AS} {s : Nat} (hA : AI α) (hs : s < nn α 0) : AI (aCall s α) := by
  unfold aCall
  by_cases c : com α s < nI (qq α s).length
  · rw [if_pos c]
    cases e : ans α s with
    | none => exact hA
    | some v =>
      obtain ⟨hv, hne, b, hb⟩ := ans_ok e
      obtain ⟨hb3, hk, _⟩ := fb_some hb
      obtain ⟨p, q1, q2⟩ := kd_e1 hk
      obtain ⟨_, hp, _, _⟩ := A_1 hA q1
      dsimp only
      rw [hb]
      dsimp only
      rw [q1]
      exact AI_aI (AI_g1 hA hs hp (fun c hc => by have := A_11 hA hc q1; omega)) (Or.inl ⟨by decide, by decide⟩)
  · rw [if_neg c]; exact hA
-- pods that go out
def aMerge (s : Nat) (α : AS) : AS := match fb α s 2 with
  | none => α
  | some b => match oo α 0 (pl α s) with
    | some _ => α
    | none => match oo α 1 (3 * s + b) with
      | none => α
      | some p => aO (aO α 0 (pl α s) (some p)) 1 (3 * s + b) none
theorem C_merge {α : AS} {S : RS} {s : Nat} (hA : AI α) (h : RC α S) (hs : s < nn α 0) : ∃ S', f_X0_letMerge S (nI s) = some S' ∧ RC (aMerge s α) S' := by
  have h12 := A_np hA
  have h6 := A_ns hA
  have hpl := A_pl hA hs
  unfold f_X0_letMerge aMerge
  rw [c_place hA h hs, ob_v, c_first2 hA h (by omega), ob_v]
  cases e : fb α s 2 with
  | none => rw [show bI3 s none = -1 from rfl, if_pos rfl]; exact ⟨S, rfl, h⟩
  | some b =>
    obtain ⟨hb3, hk, _⟩ := fb_some e
    obtain ⟨p, g, q1, q2⟩ := kd_e2 hk
    obtain ⟨_, hp, _, _⟩ := A_1 hA q1
    rw [show bI3 s (some b) = nI (3 * s + b) from rfl, if_neg (nI_ne_m1 (by omega)), c_pod h hpl, ob_v]
    dsimp only
    cases f : oo α 0 (pl α s) with
    | some z =>
      have hz := (A_0 hA f).2
      rw [oI_some, if_neg (nI_ne_m1 (by omega))]; exact ⟨S, rfl, h⟩
    | none =>
      have h1 := RC1 (x := 3 * s + b) (v := none) (RC0 (x := pl α s) (v := some p) h)
      simp only [oI_none, oI_some] at h1
      rw [oI_none, if_pos rfl, c_berth h (by omega), ob_v, q1, oI_some, c_write hpl (by decide), ob_v, lt_e, c_write (by omega) (by decide), ob_v, lt_e]
      exact ⟨_, rfl, h1⟩
theorem M_merge {mk : Option Nat} {α : AS} {M : RS} {s : Nat} (hA : AI α) (h : RM mk α M) (hs : s < nn α 0) : ∃ M', f_X2_merge M (nI s) = some M' ∧ RM mk (aMerge s α) M' := by
  have h12 := A_np hA
  have h6 := A_ns hA
  have hpl := A_pl hA hs
  unfold f_X2_merge aMerge
  rw [m_first hA h (by omega) (Or.inr ⟨rfl, rfl⟩), ob_v]
  cases e : fb α s 2 with
  | none => rw [show pB α s none = -1 from rfl, if_pos rfl]; exact ⟨M, rfl, h⟩
  | some b =>
    obtain ⟨hb3, hk, _⟩ := fb_some e
    obtain ⟨p, g, q1, q2⟩ := kd_e2 hk
    obtain ⟨_, hp, _, _⟩ := A_1 hA q1
    rw [show pB α s (some b) = oI (oo α 1 (3 * s + b)) from rfl, q1, oI_some, if_neg (nI_ne_m1 (by omega)), m_st0 (by omega), ob_v, M_h0 h hs, m_slot hA h hpl, ob_v]
    dsimp only
    cases f : oo α 0 (pl α s) with
    | some z =>
      have hz := (A_0 hA f).2
      rw [oI_some, if_neg (nI_ne_m1 (by omega))]; exact ⟨M, rfl, h⟩
    | none =>
      rw [oI_none, if_pos rfl, ob_v, m_put0 (by omega), ob_v, m_put1 (by omega), ob_v, m_put2 (by omega), ob_v]
      refine ⟨_, rfl, ?_⟩
      dsimp only
      rw [q1]
      exact RM_out h f hpl q1
theorem AI_merge {α : AS} {s : Nat} (hA : AI α) (hs : s < nn α 0) : AI (aMerge s α) := by
  unfold aMerge
  cases e : fb α s 2 with
  | none => exact hA
  | some b =>
    obtain ⟨hb3, hk, _⟩ := fb_some e
    obtain ⟨p, g, q1, q2⟩ := kd_e2 hk
    dsimp only
    cases f : oo α 0 (pl α s) with
    | some z => exact hA
    | none =>
      dsimp only
      rw [q1]
      exact AI_out hA f q1 (A_pl hA hs)
