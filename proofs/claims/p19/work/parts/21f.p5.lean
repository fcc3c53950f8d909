theorem RM_in {mk : Option Nat} {α : AS} {M : RS} {p x s b : Nat} (hA : AI α) (h : RM mk α M) (hx : oo α 0 x = some p) (hs : s < 6) (hb : b < 3) (hc : oo α 1 (3 * s + b) = none) : RM mk (aO (aO α 0 x none) 1 (3 * s + b) (some p)) (mF (mF (mF M p 0 (-1)) p 1 (nI s)) p 2 (nI b)) := by
  have hlc : ∀ y, y < nn α 1 → LOC α M y := fun y hy => M_lc h hy
  obtain ⟨k1, k2, t0, t1, t2, t3, s0, s1, s2, qs, f3, f4, f5, f6, lc⟩ := h
  have hw : ∀ y w, 3 ≤ w → w < 7 → fl (mF (mF (mF M p 0 (-1)) p 1 (nI s)) p 2 (nI b)) y w = fl M y w := fun y w h1 h2 => by
    rw [fl_mF (by decide) h2, if_neg (by omega), fl_mF (by decide) h2, if_neg (by omega), fl_mF (by decide) h2, if_neg (by omega)]
  refine ⟨k1, k2, t0, t1, t2, t3, s0, s1, s2, qs, fun y hy => ?_, fun y hy => ?_, fun y hy => ?_, fun y hy => ?_, fun y hy => ?_⟩
  · rw [hw y 3 (by decide) (by decide)]; exact f3 y hy
  · rw [hw y 4 (by decide) (by decide)]; exact f4 y hy
  · rw [hw y 5 (by decide) (by decide)]; exact f5 y hy
  · rw [hw y 6 (by decide) (by decide)]; exact f6 y hy
  · by_cases e : y = p
    · subst e
      refine Or.inr ⟨s, b, hs, hb, ?_, ?_, ?_, ?_⟩
      · rw [oo_aO, if_pos ⟨rfl, rfl⟩]
      · rw [fl_mF (by decide) (by decide), if_neg (fun q => absurd q.2 (by decide)), fl_mF (by decide) (by decide), if_neg (fun q => absurd q.2 (by decide)), fl_mF (by decide) (by decide), if_pos ⟨rfl, rfl⟩]
      · rw [fl_mF (by decide) (by decide), if_neg (fun q => absurd q.2 (by decide)), fl_mF (by decide) (by decide), if_pos ⟨rfl, rfl⟩]
      · rw [fl_mF (by decide) (by decide), if_pos ⟨rfl, rfl⟩]
    · have hq : ∀ w, w < 7 → fl (mF (mF (mF M p 0 (-1)) p 1 (nI s)) p 2 (nI b)) y w = fl M y w := fun w hw2 => by
        rw [fl_mF (by decide) hw2, if_neg (fun q => e q.1), fl_mF (by decide) hw2, if_neg (fun q => e q.1), fl_mF (by decide) hw2, if_neg (fun q => e q.1)]
      rcases hlc y hy with ⟨z, a1, a2, a3, a4, a5⟩ | ⟨s2, b2, a1, a2, a3, a4, a5, a6⟩
      · refine Or.inl ⟨z, a1, ?_, by rw [hq 0 (by decide)]; exact a3, by rw [hq 1 (by decide)]; exact a4, by rw [hq 2 (by decide)]; exact a5⟩
        rw [oo_aO, if_neg (fun q => absurd q.1 (by decide)), oo_aO, if_neg (fun q => e (Option.some.inj (a2.symm.trans (by rw [q.2]; exact hx))))]
        exact a2
      · refine Or.inr ⟨s2, b2, a1, a2, ?_, by rw [hq 0 (by decide)]; exact a4, by rw [hq 1 (by decide)]; exact a5, by rw [hq 2 (by decide)]; exact a6⟩
        rw [oo_aO, if_neg (fun q => by rw [q.2, hc] at a3; cases a3), oo_aO, if_neg (fun q => absurd q.1 (by decide))]
        exact a3
theorem RM_out {mk : Option Nat} {α : AS} {M : RS} {p x c : Nat} (h : RM mk α M) (hx : oo α 0 x = none) (hx4 : x < 24) (hc : oo α 1 c = some p) : RM mk (aO (aO α 0 x (some p)) 1 c none) (mF (mF (mF M p 0 (nI x)) p 1 (-1)) p 2 (-1)) := by
  have hlc : ∀ y, y < nn α 1 → LOC α M y := fun y hy => M_lc h hy
  obtain ⟨k1, k2, t0, t1, t2, t3, s0, s1, s2, qs, f3, f4, f5, f6, lc⟩ := h
  have hw : ∀ y w, 3 ≤ w → w < 7 → fl (mF (mF (mF M p 0 (nI x)) p 1 (-1)) p 2 (-1)) y w = fl M y w := fun y w h1 h2 => by
    rw [fl_mF (by decide) h2, if_neg (by omega), fl_mF (by decide) h2, if_neg (by omega), fl_mF (by decide) h2, if_neg (by omega)]
  refine ⟨k1, k2, t0, t1, t2, t3, s0, s1, s2, qs, fun y hy => ?_, fun y hy => ?_, fun y hy => ?_, fun y hy => ?_, fun y hy => ?_⟩
  · rw [hw y 3 (by decide) (by decide)]; exact f3 y hy
  · rw [hw y 4 (by decide) (by decide)]; exact f4 y hy
  · rw [hw y 5 (by decide) (by decide)]; exact f5 y hy
  · rw [hw y 6 (by decide) (by decide)]; exact f6 y hy
  · by_cases e : y = p
    · subst e
      refine Or.inl ⟨x, hx4, ?_, ?_, ?_, ?_⟩
      · rw [oo_aO, if_neg (fun q => absurd q.1 (by decide)), oo_aO, if_pos ⟨rfl, rfl⟩]
      · rw [fl_mF (by decide) (by decide), if_neg (fun q => absurd q.2 (by decide)), fl_mF (by decide) (by decide), if_neg (fun q => absurd q.2 (by decide)), fl_mF (by decide) (by decide), if_pos ⟨rfl, rfl⟩]
      · rw [fl_mF (by decide) (by decide), if_neg (fun q => absurd q.2 (by decide)), fl_mF (by decide) (by decide), if_pos ⟨rfl, rfl⟩]
      · rw [fl_mF (by decide) (by decide), if_pos ⟨rfl, rfl⟩]
    · have hq : ∀ w, w < 7 → fl (mF (mF (mF M p 0 (nI x)) p 1 (-1)) p 2 (-1)) y w = fl M y w := fun w hw2 => by
        rw [fl_mF (by decide) hw2, if_neg (fun q => e q.1), fl_mF (by decide) hw2, if_neg (fun q => e q.1), fl_mF (by decide) hw2, if_neg (fun q => e q.1)]
      rcases hlc y hy with ⟨z, a1, a2, a3, a4, a5⟩ | ⟨s2, b2, a1, a2, a3, a4, a5, a6⟩
      · refine Or.inl ⟨z, a1, ?_, by rw [hq 0 (by decide)]; exact a3, by rw [hq 1 (by decide)]; exact a4, by rw [hq 2 (by decide)]; exact a5⟩
        rw [oo_aO, if_neg (fun q => absurd q.1 (by decide)), oo_aO, if_neg (fun q => by rw [q.2, hx] at a2; cases a2)]
        exact a2
      · refine Or.inr ⟨s2, b2, a1, a2, ?_, by rw [hq 0 (by decide)]; exact a4, by rw [hq 1 (by decide)]; exact a5, by rw [hq 2 (by decide)]; exact a6⟩
        rw [oo_aO, if_neg (fun q => e (Option.some.inj (a3.symm.trans (by rw [q.2]; exact hc)))), oo_aO, if_neg (fun q => absurd q.1 (by decide))]
        exact a3
-- everything moves on by one
theorem C_mv {α : AS} {S : RS} (h : RC α S) : ∃ S', f_X0_moveSlots S = some S' ∧ RC (aMv α) S' := by
  refine ⟨sR (sR S 0 (va_cpy (S.2 0) (S.2 0) 0 1 23)) 0 (upd (va_cpy (S.2 0) (S.2 0) 0 1 23) 0 (S.2 0 23)), ?_, ?_⟩
  · unfold f_X0_moveSlots
    rw [if_pos (by decide), show ((24 : Int32) - 1) = nI 23 from by decide, c_read (by decide) (by decide), ob_v, if_neg (by decide), lt_e]
    rw [show (0 : Int32).toNatClampNeg = 0 from by decide, show (1 : Int32).toNatClampNeg = 1 from by decide, show (nI 23).toNatClampNeg = 23 from by decide]
    rw [show (0 : Int32) = nI 0 from i32_0, c_write (by decide) (by decide), ob_v, lt_e]
    rfl
  · obtain ⟨h0, h1, h2, h3, h4, h5, r0, r1, r2, r3, r4, r5, r8, r9, r10⟩ := h
    refine ⟨h0, h1, h2, h3, h4, h5, fun y hy => ?_, r1, r2, r3, r4, r5, r8, r9, r10⟩
    show (if y = 0 then S.2 0 23 else va_cpy (S.2 0) (S.2 0) 0 1 23 y) = oI (if 0 = 0 ∧ y < 24 then α.2.1 0 ((y + 23) % 24) else α.2.1 0 y)
    rw [if_pos (show 0 = 0 ∧ y < 24 from ⟨rfl, hy⟩)]
    by_cases e : y = 0
    · subst e; rw [if_pos rfl]; exact r0 23 (by decide)
    · rw [if_neg e, pk_cpy_in (by omega) (by omega), show 0 + (y - 1) = y - 1 from by omega, show (y + 23) % 24 = y - 1 from by omega]
      exact r0 (y - 1) (by omega)
def mvI (v : Int32) : Int32 := if v = -1 then -1 else (v + 1) - (v + 1) / 24 * 24
theorem mv_e : ∀ a : Fin 24, mvI (nI a.val) = nI ((a.val + 1) % 24) := by decide +kernel
theorem m_mvL {M : RS} {np : Nat} (h12 : np ≤ 12) (hnp : M.1 2 = nI np) : ∀ k i n M', i + k = np → k < n → M'.1 = M.1 → (∀ j, j ≠ 0 → M'.2 j = M.2 j) → (∀ p w, p < 12 → w < 7 → fl M' p w = if w = 0 ∧ p < i then mvI (fl M p 0) else fl M p w) → ∃ M'', f_X2_minuteOn_L2 n (nI i) M' = f_X2_minuteOn_L45 FU 0 M'' ∧ M''.1 = M.1 ∧ (∀ j, j ≠ 0 → M''.2 j = M.2 j) ∧ (∀ p w, p < 12 → w < 7 → fl M'' p w = if w = 0 ∧ p < np then mvI (fl M p 0) else fl M p w) := by
  intro k
  induction k with
  | zero =>
    intro i n M' h1 h2 e1 e2 e3
    obtain ⟨m, rfl⟩ : ∃ m, n = m + 1 := ⟨n - 1, by omega⟩
    have : i = np := by omega
    subst this
    refine ⟨M', ?_, e1, e2, e3⟩
    rw [f_X2_minuteOn_L2, e1, hnp, if_pos (nI_le (Nat.le_refl _) (by omega))]
  | succ k ih =>
    intro i n M' h1 h2 e1 e2 e3
    obtain ⟨m, rfl⟩ : ∃ m, n = m + 1 := ⟨n - 1, by omega⟩
    have hv : fl M' i 0 = fl M i 0 := by rw [e3 i 0 (by omega) (by decide), if_neg (by omega)]
    have hpo : f_X2_po M' (nI i) 0 = some (fl M i 0) := by rw [i32_0, m_po (by omega) (by decide), hv]
    rw [f_X2_minuteOn_L2, e1, hnp, if_neg (nI_ge (by omega) (by omega)), hpo, ob_v]
    by_cases c : fl M i 0 = -1
    · rw [if_pos c, nI_1]
      refine ih (i + 1) m M' (by omega) (by omega) e1 e2 (fun p w hp hw => ?_)
      rw [e3 p w hp hw]
      by_cases d : w = 0 ∧ p < i
      · rw [if_pos d, if_pos ⟨d.1, by omega⟩]
      · rw [if_neg d]
        by_cases d2 : w = 0 ∧ p < i + 1
        · have : p = i := by omega
          rw [if_pos d2, d2.1, this, c]; rfl
        · rw [if_neg d2]
    · rw [if_neg c, ob_v]
      have hput : f_X2_put M' (nI i) 0 (fl M i 0 + 1 - (fl M i 0 + 1) / 24 * 24) = some (mF M' i 0 (fl M i 0 + 1 - (fl M i 0 + 1) / 24 * 24)) := by
        rw [i32_0, m_put (by omega) (by decide)]
      rw [hput, ob_v, nI_1]
      refine ih (i + 1) m _ (by omega) (by omega) e1 (fun j hj => by rw [← e2 j hj]; show (if j = 0 then _ else M'.2 j) = _; rw [if_neg hj]) (fun p w hp hw => ?_)
      rw [fl_mF (by decide) hw]
      by_cases d : p = i ∧ w = 0
      · rw [if_pos d, if_pos ⟨d.2, by omega⟩, d.1]
        unfold mvI
        rw [if_neg c]
      · rw [if_neg d, e3 p w hp hw]
        by_cases d2 : w = 0 ∧ p < i
        · rw [if_pos d2, if_pos ⟨d2.1, by omega⟩]
        · rw [if_neg d2, if_neg (by omega)]
theorem RM_mv {mk : Option Nat} {α : AS} {M M'' : RS} (hA : AI α) (h : RM mk α M) (e1 : M''.1 = M.1) (e2 : ∀ j, j ≠ 0 → M''.2 j = M.2 j) (e3 : ∀ p w, p < 12 → w < 7 → fl M'' p w = if w = 0 ∧ p < nn α 1 then mvI (fl M p 0) else fl M p w) : RM mk (aMv α) M'' := by
  have h12 := A_np hA
  have hlc : ∀ y, y < nn α 1 → LOC α M y := fun y hy => M_lc h hy
  obtain ⟨k1, k2, t0, t1, t2, t3, s0, s1, s2, qs, f3, f4, f5, f6, lc⟩ := h
  have g1 : M''.2 1 = M.2 1 := e2 1 (by decide)
  have g2 : M''.2 2 = M.2 2 := e2 2 (by decide)
  have g3 : M''.2 3 = M.2 3 := e2 3 (by decide)
  have hh : ∀ s w, hl M'' s w = hl M s w := fun s w => by unfold hl; rw [g1]
  have hp : ∀ s k w, pp M'' s k w = pp M s k w := fun s k w => by unfold pp; rw [g2]
  have hf : ∀ p w, p < nn α 1 → w < 7 → w ≠ 0 → fl M'' p w = fl M p w := fun p w a b c => by rw [e3 p w (by omega) b, if_neg (by omega)]
  refine ⟨by rw [e1]; exact k1, by rw [e1]; exact k2, by rw [g3]; exact t0, by rw [g3]; exact t1, by rw [g3]; exact t2, by rw [g3]; exact t3, fun s hs => by rw [hh]; exact s0 s hs, fun s hs => by rw [hh]; exact s1 s hs, fun s hs => by rw [hh]; exact s2 s hs, fun s k e hs he => by rw [hp, hp, hp]; exact qs s k e hs he, fun p hp => by rw [hf p 3 hp (by decide) (by decide)]; exact f3 p hp, fun p hp => by rw [hf p 4 hp (by decide) (by decide)]; exact f4 p hp, fun p hp => by rw [hf p 5 hp (by decide) (by decide)]; exact f5 p hp, fun p hp => by rw [hf p 6 hp (by decide) (by decide)]; exact f6 p hp, fun p hp => ?_⟩
  have hp : p < nn α 1 := hp
  have z0 : fl M'' p 0 = mvI (fl M p 0) := by rw [e3 p 0 (by omega) (by decide), if_pos ⟨rfl, hp⟩]
  rcases hlc p hp with ⟨z, a1, a2, a3, a4, a5⟩ | ⟨s2, b2, a1, a2, a3, a4, a5, a6⟩
  · refine Or.inl ⟨(z + 1) % 24, by omega, ?_, by rw [z0, a3]; exact mv_e ⟨z, a1⟩, by rw [hf p 1 hp (by decide) (by decide)]; exact a4, by rw [hf p 2 hp (by decide) (by decide)]; exact a5⟩
    rw [oo_aMv, if_pos ⟨rfl, by omega⟩, show ((z + 1) % 24 + 23) % 24 = z from by omega]
    exact a2
  · exact Or.inr ⟨s2, b2, a1, a2, a3, by rw [z0, a4]; rfl, by rw [hf p 1 hp (by decide) (by decide)]; exact a5, by rw [hf p 2 hp (by decide) (by decide)]; exact a6⟩
-- the first of a queue goes
theorem c_popL {S0 : RS} {s L : Nat} (hs : s < 6) (hL : L < 9) : ∀ k i n S, i + k = L → k < n → S.1 = S0.1 → (∀ j, j ≠ 5 → j ≠ 6 → j ≠ 7 → S.2 j = S0.2 j) → (∀ j y, j = 5 ∨ j = 6 ∨ j = 7 → S.2 j y = if 9 * s ≤ y ∧ y < 9 * s + i then S0.2 j (y + 1) else S0.2 j y) →
    ∃ S', f_X0_boardFirst_L61 n (nI s) (nI (9 * s)) (nI L) (nI (9 * s + i)) S = some (sR S' 4 (upd (S0.2 4) s (nI L))) ∧ S'.1 = S0.1 ∧ (∀ j, j ≠ 5 → j ≠ 6 → j ≠ 7 → S'.2 j = S0.2 j) ∧ (∀ j y, j = 5 ∨ j = 6 ∨ j = 7 → S'.2 j y = if 9 * s ≤ y ∧ y < 9 * s + L then S0.2 j (y + 1) else S0.2 j y) := by
  intro k
  induction k with
  | zero =>
    intro i n S h1 h2 e1 e2 e3
    obtain ⟨m, rfl⟩ : ∃ m, n = m + 1 := ⟨n - 1, by omega⟩
    have : i = L := by omega
    subst this
    refine ⟨S, ?_, e1, e2, e3⟩
    rw [f_X0_boardFirst_L61, nI_add, if_pos (nI_le (Nat.le_refl _) (by omega)), e2 4 (by decide) (by decide) (by decide), c_write hs (by decide), ob_v, lt_e]
  | succ k ih =>
    intro i n S h1 h2 e1 e2 e3
    obtain ⟨m, rfl⟩ : ∃ m, n = m + 1 := ⟨n - 1, by omega⟩
    rw [f_X0_boardFirst_L61, nI_add, if_neg (nI_ge (by omega) (by omega)), nI_1]
    rw [c_read (by omega) (by decide), ob_v, c_write (by omega) (by decide), ob_v, lt_e]
    rw [show ∀ f, (sR S 5 f).2 6 = S.2 6 from fun f => rfl]
    rw [c_read (by omega) (by decide), ob_v, c_write (by omega) (by decide), ob_v, lt_e]
    rw [show ∀ f g, (sR (sR S 5 f) 6 g).2 7 = S.2 7 from fun f g => rfl]
    rw [c_read (by omega) (by decide), ob_v, c_write (by omega) (by decide), ob_v, lt_e]
    rw [show 9 * s + i + 1 = 9 * s + (i + 1) from by omega]
    refine ih (i + 1) m _ (by omega) (by omega) e1 (fun j j5 j6 j7 => ?_) (fun j y hj => ?_)
    · rw [← e2 j j5 j6 j7]
      show (if j = 7 then _ else if j = 6 then _ else if j = 5 then _ else S.2 j) = _
      rw [if_neg j7, if_neg j6, if_neg j5]
    · have e4 : (sR (sR (sR S 5 (upd (S.2 5) (9 * s + i) (S.2 5 (9 * s + (i + 1))))) 6 (upd (S.2 6) (9 * s + i) (S.2 6 (9 * s + (i + 1))))) 7 (upd (S.2 7) (9 * s + i) (S.2 7 (9 * s + (i + 1))))).2 j y = if y = 9 * s + i then S.2 j (9 * s + (i + 1)) else S.2 j y := by
        rcases hj with q | q | q <;> subst q <;> rfl
      rw [e4]
      by_cases c : y = 9 * s + i
      · rw [if_pos c, if_pos (by omega), e3 j _ hj, if_neg (by omega), c]
        rfl
      · rw [if_neg c, e3 j y hj]
        by_cases d : 9 * s ≤ y ∧ y < 9 * s + i
        · rw [if_pos d, if_pos (by omega)]
        · rw [if_neg d, if_neg (by omega)]
theorem RC_pop {α : AS} {S0 S' : RS} {s L : Nat} {e : Nat × Nat × Nat} {q : List (Nat × Nat × Nat)} (hl : ∀ s2, (qq α s2).length ≤ 9) (h : RC α S0) (hq : qq α s = e :: q) (hL : q.length = L) (hs : s < 6) (e1 : S'.1 = S0.1) (e2 : ∀ j, j ≠ 5 → j ≠ 6 → j ≠ 7 → S'.2 j = S0.2 j) (e3 : ∀ j y, j = 5 ∨ j = 6 ∨ j = 7 → S'.2 j y = if 9 * s ≤ y ∧ y < 9 * s + L then S0.2 j (y + 1) else S0.2 j y) : RC (aQ α s q) (sR S' 4 (upd (S0.2 4) s (nI L))) := by
  have hls := hl s
  rw [hq, List.length_cons] at hls
  obtain ⟨h0, h1, h2, h3, h4, h5, r0, r1, r2, r3, r4, r5, r8, r9, r10⟩ := h
  have g : ∀ j, j ≠ 4 → j ≠ 5 → j ≠ 6 → j ≠ 7 → (sR S' 4 (upd (S0.2 4) s (nI L))).2 j = S0.2 j := fun j a b c d => by
    rw [← e2 j b c d]
    show (if j = 4 then _ else S'.2 j) = _
    rw [if_neg a]
  refine ⟨by rw [sR_1, e1]; exact h0, by rw [sR_1, e1]; exact h1, by rw [sR_1, e1]; exact h2, by rw [sR_1, e1]; exact h3, by rw [sR_1, e1]; exact h4, by rw [sR_1, e1]; exact h5, by rw [g 0 (by decide) (by decide) (by decide) (by decide)]; exact r0, by rw [g 1 (by decide) (by decide) (by decide) (by decide)]; exact r1, by rw [g 2 (by decide) (by decide) (by decide) (by decide)]; exact r2, by rw [g 3 (by decide) (by decide) (by decide) (by decide)]; exact r3, fun s2 hs2 => ?_, fun s2 k f hs2 hf => ?_, by rw [g 8 (by decide) (by decide) (by decide) (by decide)]; exact r8, by rw [g 9 (by decide) (by decide) (by decide) (by decide)]; exact r9, by rw [g 10 (by decide) (by decide) (by decide) (by decide)]; exact r10⟩
  · show (if s2 = s then nI L else S0.2 4 s2) = nI (if s2 = s then q else qq α s2).length
    by_cases c : s2 = s
    · rw [if_pos c, if_pos c, hL]
    · rw [if_neg c, if_neg c]; exact r4 s2 hs2
  · have hf2 : (if s2 = s then q else qq α s2)[k]? = some f := hf
    have z : ∀ j, j = 5 ∨ j = 6 ∨ j = 7 → (sR S' 4 (upd (S0.2 4) s (nI L))).2 j = S'.2 j := fun j hj => by rcases hj with d | d | d <;> subst d <;> rfl
    rw [z 5 (by decide), z 6 (by decide), z 7 (by decide), e3 5 _ (by decide), e3 6 _ (by decide), e3 7 _ (by decide)]
    by_cases c : s2 = s
    · rw [if_pos c] at hf2
      have hk : k < q.length := (List.getElem?_eq_some_iff.mp hf2).1
      subst c
      have hc : 9 * s2 ≤ 9 * s2 + k ∧ 9 * s2 + k < 9 * s2 + L := by omega
      rw [if_pos hc, if_pos hc, if_pos hc]
      have := r5 s2 (k + 1) f hs2 (by rw [hq, List.getElem?_cons_succ]; exact hf2)
      exact this
    · rw [if_neg c] at hf2
      have hk : k < (qq α s2).length := (List.getElem?_eq_some_iff.mp hf2).1
      have := hl s2
      have hc : ¬ (9 * s ≤ 9 * s2 + k ∧ 9 * s2 + k < 9 * s + L) := by omega
      rw [if_neg hc, if_neg hc, if_neg hc]
      exact r5 s2 k f hs2 hf2
theorem RM_pop {mk : Option Nat} {α : AS} {M : RS} {s L : Nat} {e : Nat × Nat × Nat} {q : List (Nat × Nat × Nat)} (hlb : ∀ s2, (qq α s2).length ≤ 9) (h : RM mk α M) (hq : qq α s = e :: q) (hL : q.length = L) (hs : s < 6) : RM mk (aQ α s q) (sR (mH M s 1 (nI L)) 2 (va_cpy (M.2 2) (M.2 2) (27 * s + 3) (27 * s) (3 * L))) := by
  have hls := hlb s
  rw [hq, List.length_cons] at hls
  obtain ⟨k1, k2, t0, t1, t2, t3, s0, s1, s2_, qs, f3, f4, f5, f6, lc⟩ := h
  have hh : ∀ s2 w, w < 3 → hl (sR (mH M s 1 (nI L)) 2 (va_cpy (M.2 2) (M.2 2) (27 * s + 3) (27 * s) (3 * L))) s2 w = if s2 = s ∧ w = 1 then nI L else hl M s2 w := fun s2 w hw => hl_mH (by decide) hw
  refine ⟨k1, k2, t0, t1, t2, t3, fun s2 h2 => by rw [hh s2 0 (by decide), if_neg (fun d => absurd d.2 (by decide))]; exact s0 s2 h2, fun s2 h2 => ?_, fun s2 h2 => by rw [hh s2 2 (by decide), if_neg (fun d => absurd d.2 (by decide))]; exact s2_ s2 h2, fun s2 k f hs2 hf => ?_, f3, f4, f5, f6, lc⟩
  · rw [hh s2 1 (by decide)]
    show _ = nI (if s2 = s then q else qq α s2).length
    by_cases c : s2 = s
    · rw [if_pos ⟨c, rfl⟩, if_pos c, hL]
    · rw [if_neg (fun d => c d.1), if_neg c]; exact s1 s2 h2
  · have hf2 : (if s2 = s then q else qq α s2)[k]? = some f := hf
    have z : ∀ w, w < 3 → pp (sR (mH M s 1 (nI L)) 2 (va_cpy (M.2 2) (M.2 2) (27 * s + 3) (27 * s) (3 * L))) s2 k w = if s2 = s then pp M s (k + 1) w else pp M s2 k w := fun w hw => by
      show va_cpy (M.2 2) (M.2 2) (27 * s + 3) (27 * s) (3 * L) (3 * (9 * s2 + k) + w) = _
      by_cases c : s2 = s
      · rw [if_pos c] at hf2 ⊢
        have hk : k < q.length := (List.getElem?_eq_some_iff.mp hf2).1
        rw [pk_cpy_in (by omega) (by omega)]
        show M.2 2 _ = M.2 2 (3 * (9 * s + (k + 1)) + w)
        rw [show 27 * s + 3 + (3 * (9 * s2 + k) + w - 27 * s) = 3 * (9 * s + (k + 1)) + w from by omega]
      · rw [if_neg c] at hf2 ⊢
        have hk : k < (qq α s2).length := (List.getElem?_eq_some_iff.mp hf2).1
        have := hlb s2
        rw [pk_cpy_out (by omega)]
        rfl
    rw [z 0 (by decide), z 1 (by decide), z 2 (by decide)]
    by_cases c : s2 = s
    · rw [if_pos c] at hf2
      rw [if_pos c, if_pos c, if_pos c]
      exact qs s (k + 1) f hs (by rw [hq, List.getElem?_cons_succ]; exact hf2)
    · rw [if_neg c] at hf2
      rw [if_neg c, if_neg c, if_neg c]
      exact qs s2 k f hs2 hf2
