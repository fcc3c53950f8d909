-- pure part 3: what the reference reads
section PURM
variable {mk : Option Nat} {α : AS} {M : RS}
theorem M_ns (h : RM mk α M) : M.1 1 = nI (nn α 0) := h.1.2
theorem M_th (h : RM mk α M) : M.1 0 = 0 := h.1.1
theorem M_np (h : RM mk α M) : M.1 2 = nI (nn α 1) := h.2.1
theorem M_t (h : RM mk α M) : M.2 3 0 = nI (nn α 2) := h.2.2.1
theorem M_an (h : RM mk α M) : M.2 3 1 = ii α 2 0 := h.2.2.2.1
theorem M_wt (h : RM mk α M) : M.2 3 2 = ii α 2 1 := h.2.2.2.2.1
theorem M_mk (h : RM mk α M) : M.2 3 3 = ii α 4 0 := h.2.2.2.2.2.1
theorem M_h0 (h : RM mk α M) {s : Nat} (hs : s < nn α 0) : hl M s 0 = nI (pl α s) := h.2.2.2.2.2.2.1 s hs
theorem M_h1 (h : RM mk α M) {s : Nat} (hs : s < 6) : hl M s 1 = nI (qq α s).length := h.2.2.2.2.2.2.2.1 s hs
theorem M_h2 (h : RM mk α M) {s : Nat} (hs : s < 6) : hl M s 2 = ii α 0 s := h.2.2.2.2.2.2.2.2.1 s hs
theorem M_q (h : RM mk α M) {s k : Nat} {e : Nat × Nat × Nat} (hs : s < 6) (he : (qq α s)[k]? = some e) : pp M s k 0 = nI e.1 ∧ pp M s k 1 = nI (nn α 2) - nI e.2.1 ∧ pp M s k 2 = mkI mk e.2.2 := h.2.2.2.2.2.2.2.2.2.1 s k e hs he
theorem M_f3 (h : RM mk α M) {p : Nat} (hp : p < nn α 1) : fl M p 3 = oI (oo α 2 p) := h.2.2.2.2.2.2.2.2.2.2.1 p hp
theorem M_f4 (h : RM mk α M) {p : Nat} (hp : p < nn α 1) : fl M p 4 = rk mk (oo α 3 p) := h.2.2.2.2.2.2.2.2.2.2.2.1 p hp
theorem M_f5 (h : RM mk α M) {p : Nat} (hp : p < nn α 1) : fl M p 5 = ii α 1 p := h.2.2.2.2.2.2.2.2.2.2.2.2.1 p hp
theorem M_f6 (h : RM mk α M) {p : Nat} (hp : p < nn α 1) : fl M p 6 = ii α 3 p := h.2.2.2.2.2.2.2.2.2.2.2.2.2.1 p hp
theorem M_lc (h : RM mk α M) {p : Nat} (hp : p < nn α 1) : LOC α M p := h.2.2.2.2.2.2.2.2.2.2.2.2.2.2 p hp
theorem L_0 (hA : AI α) (h : RM mk α M) {p x : Nat} (hp : p < nn α 1) (hx : x < 24) : fl M p 0 = nI x ↔ oo α 0 x = some p := by
  rcases M_lc h hp with ⟨y, a1, a2, a3, a4, a5⟩ | ⟨s, b, a1, a2, a3, a4, a5, a6⟩
  · rw [a3]
    exact ⟨fun e => by rw [← nI_inj (by omega) (by omega) e]; exact a2, fun e => by rw [A_00 hA a2 e]⟩
  · rw [a4]
    exact ⟨fun e => absurd e.symm (nI_ne_m1 (by omega)), fun e => absurd a3 (A_01 hA e)⟩
theorem L_0m (hA : AI α) (h : RM mk α M) {p : Nat} (hp : p < nn α 1) : fl M p 0 = -1 ↔ ∀ x, oo α 0 x ≠ some p := by
  rcases M_lc h hp with ⟨y, a1, a2, a3, a4, a5⟩ | ⟨s, b, a1, a2, a3, a4, a5, a6⟩
  · rw [a3]
    exact ⟨fun e => absurd e (nI_ne_m1 (by omega)), fun e => absurd a2 (e y)⟩
  · rw [a4]
    exact ⟨fun _ x e => absurd a3 (A_01 hA e), fun _ => rfl⟩
theorem L_1 (hA : AI α) (h : RM mk α M) {p s : Nat} (hp : p < nn α 1) (hs : s < 6) : fl M p 1 = nI s ↔ ∃ b, b < 3 ∧ oo α 1 (3 * s + b) = some p := by
  rcases M_lc h hp with ⟨y, a1, a2, a3, a4, a5⟩ | ⟨s2, b, a1, a2, a3, a4, a5, a6⟩
  · rw [a4]
    exact ⟨fun e => absurd e.symm (nI_ne_m1 (by omega)), fun ⟨b, _, e⟩ => absurd e (A_01 hA a2)⟩
  · rw [a5]
    refine ⟨fun e => ⟨b, a2, by rw [← nI_inj (by omega) (by omega) e]; exact a3⟩, fun ⟨b2, hb, e⟩ => ?_⟩
    have := A_11 hA a3 e
    rw [show s2 = s from by omega]
theorem L_12 (hA : AI α) (h : RM mk α M) {p s b : Nat} (hp : p < nn α 1) (hs : s < 6) (hb : b < 3) : (fl M p 1 = nI s ∧ fl M p 2 = nI b) ↔ oo α 1 (3 * s + b) = some p := by
  rcases M_lc h hp with ⟨y, a1, a2, a3, a4, a5⟩ | ⟨s2, b2, a1, a2, a3, a4, a5, a6⟩
  · rw [a4]
    exact ⟨fun e => absurd e.1.symm (nI_ne_m1 (by omega)), fun e => absurd e (A_01 hA a2)⟩
  · rw [a5, a6]
    refine ⟨fun e => ?_, fun e => ?_⟩
    · rw [← nI_inj (by omega) (by omega) e.1, ← nI_inj (by omega) (by omega) e.2]; exact a3
    · have := A_11 hA a3 e
      rw [show s2 = s from by omega, show b2 = b from by omega]
      exact ⟨rfl, rfl⟩
theorem m_slot (hA : AI α) (h : RM mk α M) {x : Nat} (hx : x < 24) : f_X2_slotAt M (nI x) = some (oI (oo α 0 x)) := by
  have h12 := A_np hA
  unfold f_X2_slotAt
  have := g_search (F := fun n i => f_X2_slotAt_L2 M n (nI x) i) (P := fun p => decide (oo α 0 x = some p)) (r := fun p => nI p) (d := -1) (N := nn α 1) (fun n i hi => by
    show f_X2_slotAt_L2 M (n + 1) (nI x) (nI i) = _
    rw [f_X2_slotAt_L2, M_np h, if_neg (nI_ge hi (by omega)), show (0 : Int32) = nI 0 from i32_0, m_po (by omega) (by decide), ob_v]
    by_cases e : oo α 0 x = some i
    · rw [if_pos ((L_0 hA h hi hx).mpr e), if_pos (by simp [e])]
    · rw [if_neg (fun q => e ((L_0 hA h hi hx).mp q)), if_neg (by simp [e]), nI_1])
    (fun n => by
      show f_X2_slotAt_L2 M (n + 1) (nI x) (nI (nn α 1)) = _
      rw [f_X2_slotAt_L2, M_np h, if_pos (nI_le (Nat.le_refl _) (by omega))]) (nn α 1) 0 FU (by omega) (by unfold FU; omega)
  rw [nI_0] at this
  rw [this, ffind_one (o := oo α 0 x) (fun j _ => by simp) (fun j q => (A_0 hA q).2)]
  cases oo α 0 x <;> rfl
theorem m_inB (hA : AI α) (h : RM mk α M) {s b : Nat} (hs : s < 6) (hb : b < 3) : f_X2_inBerth M (nI s) (nI b) = some (oI (oo α 1 (3 * s + b))) := by
  have h12 := A_np hA
  unfold f_X2_inBerth
  have := g_search (F := fun n i => f_X2_inBerth_L2 M n (nI s) (nI b) i) (P := fun p => decide (oo α 1 (3 * s + b) = some p)) (r := fun p => nI p) (d := -1) (N := nn α 1) (fun n i hi => by
    show f_X2_inBerth_L2 M (n + 1) (nI s) (nI b) (nI i) = _
    have hL := L_12 hA h hi hs hb
    rw [f_X2_inBerth_L2, M_np h, if_neg (nI_ge hi (by omega)), show (1 : Int32) = nI 1 from by decide, m_po (by omega) (by decide), ob_v]
    by_cases e : oo α 1 (3 * s + b) = some i
    · rw [if_pos (hL.mpr e).1, show (2 : Int32) = nI 2 from by decide, m_po (by omega) (by decide), ob_v, if_pos (hL.mpr e).2, if_pos (by simp [e])]
    · rw [if_neg (c := decide (oo α 1 (3 * s + b) = some i) = true) (by simp [e])]
      by_cases c : fl M i 1 = nI s
      · rw [if_pos c, show (2 : Int32) = nI 2 from by decide, m_po (by omega) (by decide), ob_v, if_neg (fun q => e (hL.mp ⟨c, q⟩)), nI_add]
      · rw [if_neg c, nI_add])
    (fun n => by
      show f_X2_inBerth_L2 M (n + 1) (nI s) (nI b) (nI (nn α 1)) = _
      rw [f_X2_inBerth_L2, M_np h, if_pos (nI_le (Nat.le_refl _) (by omega))]) (nn α 1) 0 FU (by omega) (by unfold FU; omega)
  rw [nI_0] at this
  rw [this, ffind_one (o := oo α 1 (3 * s + b)) (fun j _ => by simp) (fun j q => (A_1 hA q).2.1)]
  cases oo α 1 (3 * s + b) <;> rfl
theorem B_m1 (hA : AI α) {c : Nat} : oI (oo α 1 c) = -1 ↔ kd α c = 0 := by
  have h12 := A_np hA
  rw [oI_m1 (fun k hk => by have := A_1 hA hk; omega)]
  refine ⟨kd_0, fun e => ?_⟩
  cases q : oo α 1 c with
  | none => rfl
  | some p =>
    cases g : oo α 2 p with
    | none => rw [kd_1 q g] at e; cases e
    | some z => rw [kd_2 q g] at e; cases e
theorem m_free (hA : AI α) (h : RM mk α M) {s : Nat} (hs : s < 6) : f_X2_free M (nI s) = some (oI (fb α s 0)) := by
  unfold f_X2_free
  have := g_search (F := fun n i => f_X2_free_L2 M n (nI s) i) (P := fun b => kd α (3 * s + b) == 0) (r := fun p => nI p) (d := -1) (N := 3) (fun n i hi => by
    show f_X2_free_L2 M (n + 1) (nI s) (nI i) = _
    rw [f_X2_free_L2, show (3 : Int32) = nI 3 from i32_3, if_neg (nI_ge hi (by omega)), m_inB hA h hs hi, ob_v]
    by_cases e : kd α (3 * s + i) = 0
    · rw [if_pos ((B_m1 hA).mpr e), if_pos (by simp [e])]
    · rw [if_neg (fun q => e ((B_m1 hA).mp q)), if_neg (by simpa using e), nI_1])
    (fun n => by
      show f_X2_free_L2 M (n + 1) (nI s) (nI 3) = _
      rw [f_X2_free_L2, show (3 : Int32) = nI 3 from i32_3, if_pos (nI_le (Nat.le_refl _) (by omega))]) 3 0 FU (by omega) (by decide)
  rw [nI_0] at this
  rw [this]
  unfold fb
  cases ffind (fun b => kd α (3 * s + b) == 0) 0 3 <;> rfl
def pB (α : AS) (s : Nat) (o : Option Nat) : Int32 := match o with | none => -1 | some b => oI (oo α 1 (3 * s + b))
theorem m_first (hA : AI α) (h : RM mk α M) {s k : Nat} {x2 : Int32} (hs : s < 6) (hx : (x2 = 1 ∧ k = 1) ∨ (x2 = 0 ∧ k = 2)) : f_X2_first M (nI s) x2 = some (pB α s (fb α s k)) := by
  have h12 := A_np hA
  have h6 := A_ns hA
  unfold f_X2_first
  have := g_search (F := fun n i => f_X2_first_L2 M n (nI s) x2 i) (P := fun b => kd α (3 * s + b) == k) (r := fun b => oI (oo α 1 (3 * s + b))) (d := -1) (N := 3) (fun n i hi => by
    show f_X2_first_L2 M (n + 1) (nI s) x2 (nI i) = _
    rw [f_X2_first_L2]
    simp only [show (3 : Int32) = nI 3 from i32_3, m_inB hA h hs hi, ob_v]
    rw [if_neg (nI_ge hi (by omega))]
    cases e : oo α 1 (3 * s + i) with
    | none =>
      rw [oI_none, if_pos rfl, kd_0 e, if_neg (by rcases hx with ⟨_, q⟩ | ⟨_, q⟩ <;> subst q <;> decide), nI_1]
    | some p =>
      obtain ⟨_, hp, _, _⟩ := A_1 hA e
      rw [oI_some, if_neg (nI_ne_m1 (by omega)), m_po (by omega) (by decide), ob_v, M_f3 h hp]
      unfold f_X2_first_L37
      rw [m_inB hA h hs hi, ob_v, e, oI_some]
      cases g : oo α 2 p with
      | none =>
        rw [oI_none, if_pos rfl, kd_1 e g]
        rcases hx with ⟨q1, q2⟩ | ⟨q1, q2⟩
        · subst q1; subst q2; rfl
        · subst q1; subst q2; rw [if_neg (by decide), if_neg (by decide)]; rw [← nI_1]
      | some z =>
        have := A_2 hA g
        rw [oI_some, if_neg (nI_ne_m1 (by omega)), kd_2 e g]
        rcases hx with ⟨q1, q2⟩ | ⟨q1, q2⟩
        · subst q1; subst q2; rw [if_neg (by decide), if_neg (by decide)]; rw [← nI_1]
        · subst q1; subst q2; rfl)
    (fun n => by
      show f_X2_first_L2 M (n + 1) (nI s) x2 (nI 3) = _
      rw [f_X2_first_L2, show (3 : Int32) = nI 3 from i32_3, if_pos (nI_le (Nat.le_refl _) (by omega))]) 3 0 FU (by omega) (by decide)
  rw [nI_0] at this
  rw [this]
  unfold fb
  cases ffind (fun b => kd α (3 * s + b) == k) 0 3 <;> rfl
theorem rk_0 {o : Option Nat} : rk mk o = 0 ↔ o = none := by
  cases o with
  | none => exact ⟨fun _ => rfl, fun _ => rfl⟩
  | some r =>
    refine ⟨fun e => ?_, fun e => by cases e⟩
    unfold rk at e
    by_cases c : mk = some r
    · simp only [c, if_true] at e; exact absurd e (by decide)
    · simp only [c, if_false] at e; exact absurd e (by decide)
theorem rk_le {o : Option Nat} : rk mk o ≤ 0 ↔ o = none := by
  cases o with
  | none => exact ⟨fun _ => rfl, fun _ => by show (0 : Int32) ≤ 0; decide⟩
  | some r =>
    refine ⟨fun e => ?_, fun e => by cases e⟩
    unfold rk at e
    by_cases c : mk = some r
    · simp only [c, if_true] at e; exact absurd e (by decide)
    · simp only [c, if_false] at e; exact absurd e (by decide)
theorem m_com (hA : AI α) (h : RM mk α M) {s : Nat} (hs : s < nn α 0) : f_X2_coming M (nI s) = some (com α s) := by
  have h12 := A_np hA
  have h6 := A_ns hA
  unfold f_X2_coming com
  have := g_sum (F := fun n acc x => f_X2_coming_L4 M n (nI s) acc x) (g := fun p => bI (decide (oo α 2 p = some s ∧ oo α 3 p = none))) (fin := fun a => a) (N := nn α 1) (fun n acc i hi => by
    show f_X2_coming_L4 M (n + 1) (nI s) acc (nI i) = f_X2_coming_L4 M n (nI s) _ _
    rw [f_X2_coming_L4, M_np h, if_neg (nI_ge hi (by omega)), i32_3, m_po (by omega) (by decide), ob_v, M_f3 h hi, ← nI_1 i]
    by_cases e : oo α 2 i = some s
    · rw [if_pos (by rw [e, oI_some]), show (4 : Int32) = nI 4 from by decide, m_po (by omega) (by decide), ob_v, M_f4 h hi]
      by_cases r : oo α 3 i = none
      · rw [if_pos (rk_0.mpr r)]
        simp [e, r, bI]
      · rw [if_neg (fun q => r (rk_0.mp q))]
        simp [e, r, bI]
    · rw [if_neg (fun q => e ((oI_nI (by omega) (fun k hk => by have := A_2 hA hk; omega)).mp q))]
      simp [e, bI])
    (fun n acc => by
      show f_X2_coming_L4 M (n + 1) (nI s) acc (nI (nn α 1)) = _
      rw [f_X2_coming_L4, M_np h, if_pos (nI_le (Nat.le_refl _) (by omega))]) (nn α 1) 0 FU 0 (by omega) (by unfold FU; omega)
  rw [nI_0] at this
  rw [this, Int32.zero_add]
theorem on_e : ∀ a b : Fin 24, (((nI b.val - nI a.val) + 24) - ((nI b.val - nI a.val) + 24) / 24 * 24) = nI ((b.val + 24 - a.val) % 24) := by decide +kernel
theorem m_on (hA : AI α) (h : RM mk α M) {a b : Nat} (ha : a < nn α 0) (hb : b < nn α 0) : f_X2_on M (nI a) (nI b) = some (nI (dst α a b)) := by
  have h6 := A_ns hA
  unfold f_X2_on
  rw [show (0 : Int32) = nI 0 from i32_0, m_st (by omega) (by decide), ob_v, m_st (by omega) (by decide), ob_v, M_h0 h ha, M_h0 h hb, on_e ⟨pl α a, A_pl hA ha⟩ ⟨pl α b, A_pl hA hb⟩]
  rfl
theorem m_ansL (hA : AI α) (h : RM mk α M) {x : Nat} (hx : x < nn α 0) : ∀ k i n cur, i + k = nn α 0 → k < n → (∀ j, cur = some j → j < nn α 0) → f_X2_answer_L4 M n (nI x) (oI cur) (nI i) = some (oI (anL α x i k cur)) := by
  have h6 := A_ns hA
  have h12 := A_np hA
  intro k
  induction k with
  | zero =>
    intro i n cur h1 h2 _
    obtain ⟨m, rfl⟩ : ∃ m, n = m + 1 := ⟨n - 1, by omega⟩
    rw [f_X2_answer_L4, M_ns h, if_pos (nI_le (by omega) (by omega))]
    rfl
  | succ k ih =>
    intro i n cur h1 h2 hc
    obtain ⟨m, rfl⟩ : ∃ m, n = m + 1 := ⟨n - 1, by omega⟩
    have hi : i < nn α 0 := by omega
    have hi2 := ih (i + 1) m (anS α x i cur) (by omega) (by omega) (anS_lt hc hi)
    rw [anL, ← hi2, f_X2_answer_L4, M_ns h, if_neg (nI_ge hi (by omega)), ← nI_1 i]
    unfold anS
    by_cases c1 : i = x
    · rw [if_pos (by rw [c1]), if_pos c1]
    · rw [if_neg (fun q => c1 (nI_inj (by omega) (by omega) q)), if_neg c1]
      have hl := A_len hA i
      have e1 : f_X2_st M (nI i) 1 = some (nI (qq α i).length) := by
        rw [show (1 : Int32) = nI 1 from by decide, m_st (by omega) (by decide), M_h1 h (by omega)]
      rw [e1, ob_v]
      by_cases c2 : (qq α i).length = 0
      · rw [if_pos (by rw [c2]; rfl), if_pos c2, m_first hA h (by omega) (Or.inl ⟨rfl, rfl⟩), ob_v]
        cases e : fb α i 1 with
        | none => rw [show pB α i none = -1 from rfl, if_pos rfl]
        | some b =>
          obtain ⟨hb, hk, _⟩ := fb_some e
          have hne : ¬ pB α i (some b) = -1 := fun q => by
            have := (B_m1 hA).mp q
            rw [hk] at this; cases this
          rw [if_neg hne]
          cases cur with
          | none => rw [oI_none, if_pos rfl]; rfl
          | some j =>
            have hj := hc j rfl
            rw [oI_some, if_neg (nI_ne_m1 (by omega)), m_on hA h hi hx, ob_v, m_on hA h hj hx, ob_v]
            have d1 : dst α i x < 24 := dst_lt
            have d2 : dst α j x < 24 := dst_lt
            by_cases c3 : dst α j x ≤ dst α i x
            · rw [if_pos (nI_le c3 (by omega))]; simp only [c3, if_true]; rfl
            · rw [if_neg (nI_ge (by omega) (by omega))]; simp only [c3, if_false]; rfl
      · rw [if_neg (fun q => c2 (nI_inj (by omega) (by decide) (q.trans i32_0))), if_neg c2]
theorem m_ans (hA : AI α) (h : RM mk α M) {x : Nat} (hx : x < nn α 0) : f_X2_answer M (nI x) = some (oI (ans α x)) := by
  have h6 := A_ns hA
  have := m_ansL hA h hx (nn α 0) 0 FU none (by omega) (by unfold FU; omega) (fun j q => by cases q)
  rw [nI_0] at this
  exact this
end PURM
