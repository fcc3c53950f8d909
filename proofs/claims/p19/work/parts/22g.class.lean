-- the class's calls, as the law makes them
section CLF
variable {α : AS} {S T M : RS}
theorem below_ok (x : Int32) {k : Nat} (h0 : 0 < k) (hk : k < 2 ^ 31) : ∃ r, r < k ∧ f_L_below x (nI k) = some (nI r) := by
  obtain ⟨m, hm, e⟩ := pk_andE x (m := 2147483647) 31 (by decide)
  unfold f_L_below
  rw [if_neg (nI_ne0 h0 hk), e, pk_rem hm h0 hk]
  exact ⟨_, Nat.mod_lt _ h0, rfl⟩
theorem nd_pl {j : Nat} (hj : j < 24) : f_X1_needPlace S T (nI j) = some (.ok ()) := by
  unfold f_X1_needPlace
  rw [i32_24, if_neg (nI_pos (by omega)), if_pos (nI_lt hj (by omega))]
  rfl
theorem nd_st (hA : AI α) (h : RC α S) {s : Nat} (hs : s < nn α 0) : f_X1_needStation S T (nI s) = some (.ok ()) := by
  have h6 := A_ns hA
  unfold f_X1_needStation
  rw [C_ns h, if_neg (nI_pos (by omega)), if_pos (nI_lt hs (by omega))]
  rfl
theorem nd_pod (hA : AI α) (h : RC α S) {p : Nat} (hp : p < nn α 1) : f_X1_needPod S T (nI p) = some (.ok ()) := by
  have h12 := A_np hA
  unfold f_X1_needPod
  rw [C_np h, if_neg (nI_pos (by omega)), if_pos (nI_lt hp (by omega))]
  rfl
theorem nd_wh {w a b : Nat} (h1 : a ≤ w) (h2 : w ≤ b) (hb : b < 100) : f_X1_needWhat S T (nI w) (nI a) (nI b) = some (.ok ()) := by
  unfold f_X1_needWhat
  rw [if_neg (nI_nlt h1 (by omega)), if_pos (nI_le h2 (by omega))]
  rfl
theorem nd_mi : f_X1_needMinutes S T 1 = some (.ok ()) := by
  unfold f_X1_needMinutes
  rw [if_neg (by decide), if_pos (by decide)]
  rfl
-- what a middle M says
def vS (α : AS) (s w : Nat) : Int32 := match w with
  | 0 => nI (pl α s)
  | 1 => bI (oo α 1 (3 * s)).isSome + bI (oo α 1 (3 * s + 1)).isSome + bI (oo α 1 (3 * s + 2)).isSome
  | 2 => bI (ob1 α (3 * s)).isSome + bI (ob1 α (3 * s + 1)).isSome + bI (ob1 α (3 * s + 2)).isSome
  | 3 => nI (qq α s).length
  | 4 => com α s
  | 5 => isum (wv α s) 0 (qq α s).length
  | _ => ii α 0 s
theorem m_vS (hA : AI α) (hm : RM none α M) {s w : Nat} (hs : s < nn α 0) (hw : w < 7) : f_X2_stationTold M (nI s) (nI w) = some (vS α s w) := by
  have h6 := A_ns hA
  match w, hw with
  | 0, _ => unfold f_X2_stationTold; rw [if_pos (by decide), m_st0 (by omega), ob_v, M_h0 hm hs]; rfl
  | 1, _ => unfold f_X2_stationTold; rw [if_neg (by decide), if_pos (by decide), m_cnt hA hm (by omega)]; rfl
  | 2, _ => unfold f_X2_stationTold; rw [if_neg (by decide), if_neg (by decide), if_pos (by decide), m_cnt1 hA hm (by omega)]; rfl
  | 3, _ => exact m_told3 hm (by omega)
  | 4, _ => unfold f_X2_stationTold; rw [if_neg (by decide), if_neg (by decide), if_neg (by decide), if_neg (by decide), if_pos (by decide), m_com hA hm hs, ob_v]; rfl
  | 5, _ => exact m_told5 hA hm (by omega)
  | 6, _ => exact m_told6 hm (by omega)
theorem q_st (hA : AI α) (h : RC α S) (hm : RM none α M) {s w : Nat} (hs : s < nn α 0) (hw : w < 7) : f_X1_station S T (nI s) (nI w) = some (.ok (vS α s w)) := by
  obtain ⟨v, v1, v2⟩ := t_st hA h hm hs hw
  rw [m_vS hA hm hs hw] at v2
  have hn : f_X1_needWhat S T (nI w) 0 6 = some (.ok ()) := nd_wh (a := 0) (b := 6) (by omega) (by omega) (by omega)
  unfold f_X1_station
  rw [nd_st hA h hs, obx_y, hn, obx_y, v1, ob_v, okx_v, Option.some.inj v2]
def vP (M : RS) (p w : Nat) : Int32 := if w = 4 then (if fl M p 4 ≤ 0 then fl M p 4 else 1) else fl M p w
theorem q_told (hA : AI α) (h : RC α S) (hm : RM none α M) {p w : Nat} (hp : p < nn α 1) (hw : w < 6) : f_X1_told S T (nI p) (nI w) = some (.ok (vP M p w)) := by
  have h12 := A_np hA
  obtain ⟨v, v1, v2⟩ := t_pod hA h hm hp hw
  have e : f_X2_podTold M (nI p) (nI w) = some (vP M p w) := by
    unfold f_X2_podTold vP
    by_cases c : w = 4
    · subst c
      rw [if_pos (by decide), if_pos rfl, m_po (by omega) (by decide), ob_v]
      by_cases d : fl M p 4 ≤ 0
      · rw [if_pos d, if_pos d, ob_v]
      · rw [if_neg d, if_neg d]
    · rw [if_neg (show ¬ nI w = 4 from fun z => c (nI_inj (by omega) (by decide) (show nI w = nI 4 from z))), if_neg c, m_po (by omega) (by omega), ob_v]
  rw [e] at v2
  have hn : f_X1_needWhat S T (nI w) 0 5 = some (.ok ()) := nd_wh (a := 0) (b := 5) (by omega) (by omega) (by omega)
  unfold f_X1_told
  rw [nd_pod hA h hp, obx_y, hn, obx_y, v1, ob_v, okx_v, Option.some.inj v2]
def vC (α : AS) (w : Nat) : Int32 := match w with
  | 0 => nI (nn α 2)
  | 1 => nI (nn α 0)
  | 2 => nI (nn α 1)
  | 3 => isum (fun s => nI (qq α s).length) 0 (nn α 0)
  | 4 => isum (fun p => bI (decide (oo α 3 p ≠ none))) 0 (nn α 1)
  | 5 => isum (fun s => ii α 0 s) 0 (nn α 0)
  | 6 => 24 - isum (fun p => bI (exs α p 24)) 0 (nn α 1)
  | 7 => ii α 2 0
  | _ => ii α 2 1
theorem m_rip (hA : AI α) (hm : RM none α M) : f_X2_counted_L73 M FU 0 0 = some (isum (fun p => bI (decide (oo α 3 p ≠ none))) 0 (nn α 1)) := by
  have h12 := A_np hA
  have := g_sum (F := fun n acc x => f_X2_counted_L73 M n acc x) (g := fun p => bI (decide (oo α 3 p ≠ none))) (fin := fun a => a) (N := nn α 1) (fun n acc i hi => by
    show f_X2_counted_L73 M (n + 1) acc (nI i) = f_X2_counted_L73 M n _ _
    rw [f_X2_counted_L73, M_np hm, if_neg (nI_ge hi (by omega)), m_po4 (by omega), ob_v, M_f4 hm hi]
    by_cases e : oo α 3 i = none
    · rw [if_pos (rk_le.mpr e), nI_1]; simp [e, bI]
    · rw [if_neg (fun q => e (rk_le.mp q)), nI_1]; simp [e, bI])
    (fun n acc => by
      show f_X2_counted_L73 M (n + 1) acc (nI (nn α 1)) = _
      rw [f_X2_counted_L73, M_np hm, if_pos (nI_le (Nat.le_refl _) (by omega))]) (nn α 1) 0 FU 0 (by omega) (by unfold FU; omega)
  rw [nI_0] at this
  rw [this, Int32.zero_add]
theorem m_fre (hA : AI α) (hm : RM none α M) : f_X2_counted_L115 M FU 0 0 = some (24 - isum (fun p => bI (exs α p 24)) 0 (nn α 1)) := by
  have h12 := A_np hA
  have := g_sum (F := fun n acc x => f_X2_counted_L115 M n acc x) (g := fun p => bI (exs α p 24)) (fin := fun a => 24 - a) (N := nn α 1) (fun n acc i hi => by
    show f_X2_counted_L115 M (n + 1) acc (nI i) = f_X2_counted_L115 M n _ _
    rw [f_X2_counted_L115, M_np hm, if_neg (nI_ge hi (by omega)), m_po0 (by omega), ob_v]
    by_cases e : exs α i 24 = true
    · obtain ⟨x, hx, ex⟩ := exs_t.mp e
      rw [if_neg (fun q => (L_0m hA hm hi).mp q x ex), nI_1, e]; rfl
    · rw [if_pos ((L_0m hA hm hi).mpr (fun x ex => e (exs_t.mpr ⟨x, (A_0 hA ex).1, ex⟩))), nI_1, Bool.eq_false_iff.mpr e]; rfl)
    (fun n acc => by
      show f_X2_counted_L115 M (n + 1) acc (nI (nn α 1)) = _
      rw [f_X2_counted_L115, M_np hm, if_pos (nI_le (Nat.le_refl _) (by omega))]) (nn α 1) 0 FU 0 (by omega) (by unfold FU; omega)
  rw [nI_0] at this
  rw [this, Int32.zero_add]
theorem m_vC (hA : AI α) (hm : RM none α M) {w : Nat} (hw : w < 9) : f_X2_counted M (nI w) = some (vC α w) := by
  unfold f_X2_counted
  match w, hw with
  | 0, _ => rw [if_pos (by decide)]; rw [← show M.2 3 0 = vC α 0 from M_t hm]; rfl
  | 1, _ => rw [if_neg (by decide), if_pos (by decide), M_ns hm]; rfl
  | 2, _ => rw [if_neg (by decide), if_neg (by decide), if_pos (by decide), M_np hm]; rfl
  | 3, _ => rw [if_neg (by decide), if_neg (by decide), if_neg (by decide), if_pos (by decide), m_all3 hA hm, ob_v]; rfl
  | 4, _ => rw [if_neg (by decide), if_neg (by decide), if_neg (by decide), if_neg (by decide), if_pos (by decide), m_rip hA hm]; rfl
  | 5, _ => rw [if_neg (by decide), if_neg (by decide), if_neg (by decide), if_neg (by decide), if_neg (by decide), if_pos (by decide), m_all6 hA hm, ob_v]; rfl
  | 6, _ => rw [if_neg (by decide), if_neg (by decide), if_neg (by decide), if_neg (by decide), if_neg (by decide), if_neg (by decide), if_pos (by decide), m_fre hA hm]; rfl
  | 7, _ => rw [if_neg (by decide), if_neg (by decide), if_neg (by decide), if_neg (by decide), if_neg (by decide), if_neg (by decide), if_neg (by decide), if_pos (by decide)]; rw [← show M.2 3 1 = vC α 7 from M_an hm]; rfl
  | 8, _ => rw [if_neg (by decide), if_neg (by decide), if_neg (by decide), if_neg (by decide), if_neg (by decide), if_neg (by decide), if_neg (by decide), if_neg (by decide)]; rw [← show M.2 3 2 = vC α 8 from M_wt hm]; rfl
theorem c_vC (hA : AI α) (h : RC α S) (hm : RM none α M) {w : Nat} (hw : w < 9) : f_X0_tellCount S (nI w) = some (vC α w) := by
  obtain ⟨v, v1, v2⟩ := t_cnt hA h hm hw
  rw [m_vC hA hm hw] at v2
  rw [v1, Option.some.inj v2]
theorem q_cnt (hA : AI α) (h : RC α S) (hm : RM none α M) {w : Nat} (hw : w < 9) : f_X1_count S T (nI w) = some (.ok (vC α w)) := by
  have hn : f_X1_needWhat S T (nI w) 0 8 = some (.ok ()) := nd_wh (a := 0) (b := 8) (by omega) (by omega) (by omega)
  unfold f_X1_count
  rw [hn, obx_y, c_vC hA h hm hw, ob_v, okx_v]
theorem q_ans (hA : AI α) (h : RC α S) {s : Nat} (hs : s < nn α 0) : f_X1_answers S T (nI s) = some (.ok (oI (ans α s))) := by
  unfold f_X1_answers
  rw [nd_st hA h hs, obx_y, c_ans hA h hs, ob_v, okx_v]
theorem q_slot (h : RC α S) {x : Nat} (hx : x < 24) : f_X1_slot S T (nI x) = some (.ok (oI (oo α 0 x))) := by
  unfold f_X1_slot
  rw [nd_pl hx, obx_y, c_pod h hx, ob_v, okx_v]
theorem q_wts (hA : AI α) (h : RC α S) (hm : RM none α M) {s k : Nat} {e : Nat × Nat × Nat} (hs : s < nn α 0) (he : (qq α s)[k]? = some e) : f_X1_waits S T (nI s) (nI k) = some (.ok (10 * (nI (nn α 2) - nI e.2.1) + nI e.1)) := by
  have h6 := A_ns hA
  have hln := A_len hA s
  have hk := (List.getElem?_eq_some_iff.mp he).1
  obtain ⟨v, v1, v2⟩ := t_rid hA h hm (show s < 6 by omega) hk
  obtain ⟨d0, d1, _⟩ := M_q hm (by omega) he
  have p1 : f_X2_pe M (nI s) (nI k) 1 = some (pp M s k 1) := m_pe (w := 1) (by omega) (by omega) (by decide)
  have p0 : f_X2_pe M (nI s) (nI k) 0 = some (pp M s k 0) := m_pe (w := 0) (by omega) (by omega) (by decide)
  unfold f_X2_rider at v2
  rw [p1, ob_v, p0, ob_v, d0, d1] at v2
  unfold f_X1_waits
  rw [nd_st hA h hs, obx_y, if_neg (nI_pos (by omega)), c_wait hA h (by omega), ob_v, if_pos (nI_lt hk (by omega)), v1, ob_v, okx_v, Option.some.inj v2]
theorem q_pass (hA : AI α) (ht : nn α 2 + 1 < 2 ^ 29) (h : RC α S) : ∃ S', f_X1_pass S T 1 = some (.ok (TA (aMin none α) - TA α, S', T)) ∧ RC (aMin none α) S' := by
  obtain ⟨S', q1, q2⟩ := C_passL (T := T) (x2 := isum (fun s => ii α 0 s) 0 (nn α 0)) (N := 1) (by omega) 1 0 FU α S rfl (by decide) hA ht h
  refine ⟨S', ?_, q2⟩
  have q1 : f_X1_pass_L15 FU 1 (isum (fun s => ii α 0 s) 0 (nn α 0)) 0 S T = _ := q1
  unfold f_X1_pass
  rw [nd_mi, obx_y, c_ara hA h, ob_v, q1, c_ara (α := aMin none α) (AI_min hA ht) q2, ob_v, okx_v]
  rfl
theorem q_fore (hA : AI α) (ht : nn α 2 + 1 < 2 ^ 29) (h : RC α S) (hm : RM none α M) {w : Nat} (h3 : 3 ≤ w) (hw : w ≤ 7) : ∃ T', f_X1_foresee S T 1 (nI w) = some (.ok (vC (aMin none α) w, S, T')) := by
  obtain ⟨T1, g1, g2⟩ := C_copy (T := T) hA h
  obtain ⟨T', q1, q2⟩ := C_forL (S := S) (x2 := nI w) (N := 1) (by omega) 1 0 FU α T1 rfl (by decide) hA ht g2
  obtain ⟨M', _, m2⟩ := M_min (mk := none) hA hm
  have q1 : f_X1_foresee_L26 FU 1 (nI w) 0 S T1 = _ := q1
  refine ⟨T', ?_⟩
  have hn : f_X1_needWhat S T (nI w) 3 7 = some (.ok ()) := nd_wh (a := 3) (b := 7) (by omega) (by omega) (by omega)
  unfold f_X1_foresee
  rw [nd_mi, obx_y, hn, obx_y, g1, ob_v, q1, c_vC (α := aMin none α) (AI_min hA ht) q2 m2 (by omega), ob_v, okx_v]
-- when
theorem aMins_last {mk : Option Nat} : ∀ n α, aMins mk (n + 1) α = aMin mk (aMins mk n α) := by
  intro n
  induction n with
  | zero => intro α; rfl
  | succ n ih => intro α; exact ih (aMin mk α)
def WL (α : AS) (p g i : Nat) (v : Int32) : Prop := (∃ j, v = nI j ∧ i ≤ j ∧ j ≤ 200 ∧ oo (aMins none (j - i + 1) α) 2 p ≠ some g ∧ ∀ m, 1 ≤ m → m ≤ j - i → oo (aMins none m α) 2 p = some g) ∨ (v = -1 ∧ ∀ m, 1 ≤ m → m + i ≤ 201 → oo (aMins none m α) 2 p = some g)
theorem C_whenL {p g : Nat} (hg : g < 6) : ∀ k i n α T, i + k = 201 → k < n → AI α → p < nn α 1 → nn α 2 + k < 2 ^ 29 → RC α T → ∃ v T', f_X1_when_L34 n (nI p) (nI g) (nI i) S T = some (v, S, T') ∧ WL α p g i v := by
  intro k
  induction k with
  | zero =>
    intro i n α T h1 h2 hA hp ht h
    obtain ⟨n, rfl⟩ : ∃ m, n = m + 1 := ⟨n - 1, by omega⟩
    refine ⟨-1, T, ?_, Or.inr ⟨rfl, fun m a b => by omega⟩⟩
    rw [f_X1_when_L34, if_pos (by rw [show i = 201 from by omega]; decide)]
  | succ k ih =>
    intro i n α T h1 h2 hA hp ht h
    obtain ⟨n, rfl⟩ : ∃ m, n = m + 1 := ⟨n - 1, by omega⟩
    obtain ⟨T1, e1, e2⟩ := C_min (mk := none) hA h
    have hA1 : AI (aMin none α) := AI_min hA (by omega)
    have hp1 : nn (aMin none α) 1 = nn α 1 := nn_min hA (by decide)
    have h12 := A_np hA
    have h6 := A_ns hA1
    have hgo := c_goal e2 (x := p) (by omega)
    have hlt : ∀ k, oo (aMin none α) 2 p = some k → k < 2 ^ 31 := fun k hk => by have := (A_2 hA1 hk).1; omega
    rw [f_X1_when_L34, if_neg (show ¬ (200 : Int32) < nI i from nI_nlt (a := 200) (by omega) (by omega)), e1, ob_v, hgo, ob_v]
    by_cases c : oo (aMin none α) 2 p = some g
    · rw [if_pos ((oI_nI (by omega) hlt).mpr c), nI_1]
      obtain ⟨v, T', f1, f2⟩ := ih (i + 1) n (aMin none α) T1 (by omega) (by omega) hA1 (by omega) (by show nn α 2 + 1 + k < _; omega) e2
      refine ⟨v, T', f1, ?_⟩
      rcases f2 with ⟨j, b1, b2, b3, b4, b5⟩ | ⟨b1, b2⟩
      · refine Or.inl ⟨j, b1, by omega, b3, ?_, fun m m1 m2 => ?_⟩
        · rw [show j - i + 1 = (j - (i + 1) + 1) + 1 from by omega]; exact b4
        · obtain ⟨m, rfl⟩ : ∃ q, m = q + 1 := ⟨m - 1, by omega⟩
          by_cases d : m = 0
          · subst d; exact c
          · exact b5 m (by omega) (by omega)
      · refine Or.inr ⟨b1, fun m m1 m2 => ?_⟩
        obtain ⟨m, rfl⟩ : ∃ q, m = q + 1 := ⟨m - 1, by omega⟩
        by_cases d : m = 0
        · subst d; exact c
        · exact b2 m (by omega) (by omega)
    · rw [if_neg (fun z => c ((oI_nI (by omega) hlt).mp z))]
      refine ⟨nI i, T1, rfl, Or.inl ⟨i, rfl, Nat.le_refl _, by omega, ?_, fun m a b => by omega⟩⟩
      rw [Nat.sub_self]
      exact c
def WH (α : AS) (p g : Nat) (v : Int32) : Prop := (∃ j, v = nI j ∧ 1 ≤ j ∧ j ≤ 200 ∧ oo (aMins none j α) 2 p ≠ some g ∧ ∀ m, m < j → oo (aMins none m α) 2 p = some g) ∨ (v = -1 ∧ ∀ m, m ≤ 200 → oo (aMins none m α) 2 p = some g)
theorem q_when (hA : AI α) (ht : nn α 2 + 200 < 2 ^ 29) (h : RC α S) {p : Nat} (hp : p < nn α 1) : ∃ v T', f_X1_when S T (nI p) = some (.ok (v, S, T')) ∧ ((oo α 2 p = none ∧ v = -1) ∨ ∃ g, oo α 2 p = some g ∧ WH α p g v) := by
  have h12 := A_np hA
  have h6 := A_ns hA
  unfold f_X1_when
  rw [nd_pod hA h hp, obx_y, c_goal h (by omega), ob_v]
  cases e : oo α 2 p with
  | none =>
    rw [oI_none, if_pos rfl, okx_v]
    exact ⟨-1, T, rfl, Or.inl ⟨rfl, rfl⟩⟩
  | some g =>
    have hg := (A_2 hA e).1
    rw [oI_some, if_neg (nI_ne_m1 (by omega))]
    obtain ⟨T1, g1, g2⟩ := C_copy (T := T) hA h
    obtain ⟨v, T', f1, f2⟩ := C_whenL (S := S) (p := p) (g := g) (by omega) 200 1 FU α T1 (by omega) (by unfold FU; omega) hA hp (by omega) g2
    have f1 : f_X1_when_L34 FU (nI p) (nI g) 1 S T1 = _ := f1
    rw [g1, ob_v, f1, okx_v]
    refine ⟨v, T', rfl, Or.inr ⟨g, rfl, ?_⟩⟩
    rcases f2 with ⟨j, b1, b2, b3, b4, b5⟩ | ⟨b1, b2⟩
    · refine Or.inl ⟨j, b1, b2, b3, by rw [show j - 1 + 1 = j from by omega] at b4; exact b4, fun m hm => ?_⟩
      by_cases d : m = 0
      · subst d; exact e
      · exact b5 m (by omega) (by omega)
    · refine Or.inr ⟨b1, fun m hm => ?_⟩
      by_cases d : m = 0
      · subst d; exact e
      · exact b2 m (by omega) (by omega)
-- what changes the guideway
theorem q_build (hA : AI α) (h : RC α S) {j : Nat} (hj : j < 24) (hn : nn α 0 < 6) (hno : ∀ s, s < nn α 0 → pl α s ≠ j) : ∃ S', f_X1_build S T (nI j) = some (.ok (nI (nn α 0), S', T)) ∧ RC (aN (aN α (10 + nn α 0) j) 0 (nn α 0 + 1)) S' := by
  obtain ⟨S', q1, q2⟩ := C_build (j := j) hA h hn
  refine ⟨S', ?_, q2⟩
  have e : ffind (fun s => pl α s == j) 0 (nn α 0) = none := by
    cases e : ffind (fun s => pl α s == j) 0 (nn α 0) with
    | none => rfl
    | some s =>
      obtain ⟨_, a2, a3, _⟩ := ffind_some e
      exact absurd (eq_of_beq a3) (hno s (by omega))
  unfold f_X1_build
  rw [nd_pl hj, obx_y, C_ns h, if_pos (show nI (nn α 0) < 6 from nI_lt (b := 6) hn (by omega)), c_sap hA h hj, e, ob_v, oI_none, if_pos rfl, q1, ob2_v, okx_v]
theorem q_pod (hA : AI α) (h : RC α S) {s b : Nat} (hs : s < nn α 0) (hn : nn α 1 < 12) (hb : fb α s 0 = some b) : ∃ S', f_X1_pod S T (nI s) = some (.ok (nI (nn α 1), S', T)) ∧ RC (aN (aO α 1 (3 * s + b) (some (nn α 1))) 1 (nn α 1 + 1)) S' := by
  have h6 := A_ns hA
  obtain ⟨hb3, _, _⟩ := fb_some hb
  obtain ⟨S', q1, q2⟩ := C_pod (s := s) (b := b) hA h (by omega) hn hb
  refine ⟨S', ?_, q2⟩
  unfold f_X1_pod
  rw [nd_st hA h hs, obx_y, C_np h, if_pos (show nI (nn α 1) < 12 from nI_lt (b := 12) hn (by omega)), c_first0 hA h (by omega), ob_v, hb, show bI3 s (some b) = nI (3 * s + b) from rfl, if_neg (nI_ne_m1 (by omega)), q1, ob2_v, okx_v]
theorem q_ride (hA : AI α) (h : RC α S) {s g : Nat} (hs : s < nn α 0) (hg : g < nn α 0) (hne : g ≠ s) (hl : (qq α s).length < 9) (hr : nn α 3 + 1 < 2 ^ 29) : ∃ S', f_X1_ride S T (nI s) (nI g) = some (.ok (nI ((qq α s).length + 1), S', T)) ∧ RC (aPush s g α) S' ∧ AI (aPush s g α) := by
  have h6 := A_ns hA
  obtain ⟨S', q1, q2⟩ := C_push (s := s) (g := g) hA h (by omega) hl
  have hA' : AI (aPush s g α) := AI_push (s := s) (g := g) hA hs hg hne (by omega) (by omega)
  have e9 : (qq (aPush s g α) s).length = (qq α s).length + 1 := by
    show (if s = s then qq α s ++ [(g, nn α 2, nn α 3)] else qq α s).length = _
    rw [if_pos rfl, List.length_append]; rfl
  have h2 : f_X1_needTwoStations S T (nI s) (nI g) = some (.ok ()) := by
    unfold f_X1_needTwoStations
    rw [nd_st hA h hs, obx_y, nd_st hA h hg, obx_y, if_neg (fun z => hne (nI_inj (by omega) (by omega) z).symm)]
    rfl
  refine ⟨S', ?_, q2, hA'⟩
  unfold f_X1_ride
  rw [h2, obx_y, c_wait hA h (by omega), ob_v, if_pos (show nI (qq α s).length < 9 from nI_lt (b := 9) hl (by omega)), q1, ob2_v, c_wait hA' q2 (by omega), ob_v, okx_v, e9]
theorem q_send (hA : AI α) (h : RC α S) {p g s b : Nat} (hs : s < 6) (hb : b < 3) (hg : g < nn α 0) (hne : g ≠ s) (hp : oo α 1 (3 * s + b) = some p) (hgo : oo α 2 p = none) : ∃ S', f_X1_send S T (nI p) (nI g) = some (.ok (nI (dst α s g), S', T)) ∧ RC (aO α 2 p (some g)) S' ∧ AI (aO α 2 p (some g)) := by
  obtain ⟨_, hpn, hsn, _⟩ := A_1 hA hp
  have h12 := A_np hA
  have h6 := A_ns hA
  have hA' : AI (aO α 2 p (some g)) := AI_g1 (p := p) (g := g) hA hg hpn (fun c2 h2 => by have := A_11 hA hp h2; omega)
  have r1 := RC8 (x := p) (v := some g) h
  simp only [oI_some] at r1
  have hd : nI (3 * s + b) / 3 = nI s := by rw [i32_3, pk_div (by omega) (by omega) (by omega), show (3 * s + b) / 3 = s from by omega]
  refine ⟨_, ?_, r1, hA'⟩
  unfold f_X1_send
  rw [nd_pod hA h hpn, obx_y, nd_st hA h hg, obx_y, c_bof (o := some (3 * s + b)) hA h (by omega) (fun c => ⟨fun e => by rw [A_11 hA hp e], fun e => by rw [← Option.some.inj e]; exact hp⟩), ob_v, oI_some, if_neg (nI_ne_m1 (by omega)), c_goal h (by omega), ob_v, hgo, oI_none, if_pos rfl, hd, if_neg (fun q => hne (nI_inj (by omega) (by omega) q).symm)]
  unfold f_X0_setGoal
  rw [c_write (by omega) (by decide), ob_v, lt_e, ob_v, c_on hA' r1 (show s < nn (aO α 2 p (some g)) 0 from by show s < nn α 0; omega) hg, ob_v, okx_v]
  rfl
end CLF
-- a middle that goes with the law's own simulation
def gF (α : AS) (σ : SG) (p w : Nat) : Int32 := match w with
  | 0 => sV σ 3 p
  | 1 => if sV σ 3 p < 0 then sV σ 4 p else -1
  | 2 => if sV σ 3 p < 0 then sV σ 5 p else -1
  | 3 => oI (oo α 2 p)
  | 4 => rk none (oo α 3 p)
  | 5 => ii α 1 p
  | _ => ii α 3 p
def gH (α : AS) (s w : Nat) : Int32 := match w with
  | 0 => nI (pl α s)
  | 1 => nI (qq α s).length
  | _ => ii α 0 s
def gP (α : AS) (s k w : Nat) : Int32 := match (qq α s)[k]? with
  | none => 0
  | some e => match w with
    | 0 => nI e.1
    | 1 => nI (nn α 2) - nI e.2.1
    | _ => 0
def gM (α : AS) (σ : SG) : RS := (fun k => match k with | 0 => 0 | 1 => nI (nn α 0) | _ => nI (nn α 1), fun k i => match k with
  | 0 => gF α σ (i / 7) (i % 7)
  | 1 => gH α (i / 3) (i % 3)
  | 2 => gP α (i / 27) (i / 3 % 9) (i % 3)
  | _ => match i with | 0 => nI (nn α 2) | 1 => ii α 2 0 | 2 => ii α 2 1 | _ => ii α 4 0)
theorem gM_fl {α : AS} {σ : SG} {p w : Nat} (hw : w < 7) : fl (gM α σ) p w = gF α σ p w := by
  show gF α σ ((7 * p + w) / 7) ((7 * p + w) % 7) = _
  rw [show (7 * p + w) / 7 = p from by omega, show (7 * p + w) % 7 = w from by omega]
theorem gM_hl {α : AS} {σ : SG} {p w : Nat} (hw : w < 3) : hl (gM α σ) p w = gH α p w := by
  show gH α ((3 * p + w) / 3) ((3 * p + w) % 3) = _
  rw [show (3 * p + w) / 3 = p from by omega, show (3 * p + w) % 3 = w from by omega]
theorem gM_pp {α : AS} {σ : SG} {s k w : Nat} (hk : k < 9) (hw : w < 3) : pp (gM α σ) s k w = gP α s k w := by
  show gP α ((3 * (9 * s + k) + w) / 27) ((3 * (9 * s + k) + w) / 3 % 9) ((3 * (9 * s + k) + w) % 3) = _
  rw [show (3 * (9 * s + k) + w) / 27 = s from by omega, show (3 * (9 * s + k) + w) / 3 % 9 = k from by omega, show (3 * (9 * s + k) + w) % 3 = w from by omega]
theorem gM_ok {α : AS} {σ : SG} (hA : AI α) (S : SR α σ) : RM none α (gM α σ) := by
  refine ⟨⟨rfl, rfl⟩, rfl, rfl, rfl, rfl, rfl, fun s _ => gM_hl (by decide), fun s _ => gM_hl (by decide), fun s _ => gM_hl (by decide), fun s k e hs he => ?_, fun p _ => gM_fl (by decide), fun p _ => gM_fl (by decide), fun p _ => gM_fl (by decide), fun p _ => gM_fl (by decide), fun p hp => ?_⟩
  · have h9 := A_len hA s
    have hk := (List.getElem?_eq_some_iff.mp he).1
    rw [gM_pp (by omega) (by decide), gM_pp (by omega) (by decide), gM_pp (by omega) (by decide)]
    unfold gP
    rw [he]
    exact ⟨rfl, rfl, rfl⟩
  · unfold LOC
    rw [gM_fl (by decide), gM_fl (by decide), gM_fl (by decide)]
    show (∃ x, x < 24 ∧ oo α 0 x = some p ∧ sV σ 3 p = nI x ∧ (if sV σ 3 p < 0 then sV σ 4 p else -1) = -1 ∧ (if sV σ 3 p < 0 then sV σ 5 p else -1) = -1) ∨ (∃ s b, s < 6 ∧ b < 3 ∧ oo α 1 (3 * s + b) = some p ∧ sV σ 3 p = -1 ∧ (if sV σ 3 p < 0 then sV σ 4 p else -1) = nI s ∧ (if sV σ 3 p < 0 then sV σ 5 p else -1) = nI b)
    rcases S_lc S hp with ⟨y, a1, a2, a3⟩ | ⟨s, b, a1, a2, a3, a4, a5, a6⟩
    · have hn : ¬ sV σ 3 p < 0 := by rw [a3]; exact nI_pos (by omega)
      rw [if_neg hn, if_neg hn]
      exact Or.inl ⟨y, a1, a2, a3, rfl, rfl⟩
    · have hn : sV σ 3 p < 0 := by rw [a4]; decide
      rw [if_pos hn, if_pos hn]
      exact Or.inr ⟨s, b, a1, a2, a3, a4, a5, a6⟩
