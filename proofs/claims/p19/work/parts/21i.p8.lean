theorem c_find {n p : Nat} {f : Nat → Int32} {g : Nat → Option Nat} {o : Option Nat} (hn : n < 1000) (hf : ∀ i, i < n → f i = oI (g i)) (hg : ∀ i q, g i = some q → q < 2 ^ 31) (hp : p < 2 ^ 31) (ho : ∀ i, i < n → (g i = some p ↔ o = some i)) (hk : ∀ i, o = some i → i < n) : f_X0_find n f (nI p) = some (oI o) := by
  unfold f_X0_find
  have := g_search (F := fun m i => f_X0_find_L2 n f m (nI p) i) (P := fun i => decide (g i = some p)) (r := fun i => nI i) (d := -1) (N := n) (fun m i hi => by
    show f_X0_find_L2 n f (m + 1) (nI p) (nI i) = _
    rw [f_X0_find_L2, if_neg (nI_ge hi (by omega)), if_neg (nI_bad hi (by omega)), nI_clamp (by omega), hf i hi, nI_1]
    by_cases e : g i = some p
    · rw [if_pos (by rw [e, oI_some]), if_pos (by simp [e])]
    · rw [if_neg (fun q => e ((oI_nI hp (fun k hk => hg i k hk)).mp q)), if_neg (by simp [e])])
    (fun m => by
      show f_X0_find_L2 n f (m + 1) (nI p) (nI n) = _
      rw [f_X0_find_L2, if_pos (nI_le (Nat.le_refl _) (by omega))]) n 0 FU (by omega) (by unfold FU; omega)
  rw [nI_0] at this
  rw [this, ffind_one (o := o) (fun j hj => by rw [← ho j hj]; simp) hk]
  cases o <;> rfl
section PURQ
variable {mk : Option Nat} {α : AS} {S M : RS}
theorem c_bof (hA : AI α) (h : RC α S) {p : Nat} {o : Option Nat} (hp : p < 12) (ho : ∀ c, oo α 1 c = some p ↔ o = some c) : f_X0_berthOf S (nI p) = some (oI o) := by
  have h12 := A_np hA
  unfold f_X0_berthOf
  rw [c_find (g := oo α 1) (o := o) (by decide) (fun i hi => C_1 h hi) (fun i q e => by have := (A_1 hA e).2.1; omega) (by omega) (fun i _ => ho i) (fun i e => (A_1 hA ((ho i).mpr e)).1), ob_v]
theorem c_sof (hA : AI α) (h : RC α S) {p : Nat} {o : Option Nat} (hp : p < 12) (ho : ∀ c, oo α 0 c = some p ↔ o = some c) : f_X0_find 24 (S.2 0) (nI p) = some (oI o) := by
  have h12 := A_np hA
  exact c_find (g := oo α 0) (o := o) (by decide) (fun i hi => C_0 h hi) (fun i q e => by have := (A_0 hA e).2; omega) (by omega) (fun i _ => ho i) (fun i e => (A_0 hA ((ho i).mpr e)).1)
theorem t_pod (hA : AI α) (h : RC α S) (hm : RM mk α M) {p w : Nat} (hp : p < nn α 1) (hw : w < 6) : ∃ v, f_X0_tellPod S (nI p) (nI w) = some v ∧ f_X2_podTold M (nI p) (nI w) = some v := by
  have h12 := A_np hA
  unfold f_X0_tellPod f_X2_podTold
  have hb : ∃ o q, f_X0_berthOf S (nI p) = some (oI o) ∧ f_X0_find 24 (S.2 0) (nI p) = some (oI q) ∧ fl M p 0 = oI q ∧ (∀ c, o = some c → c < 18) ∧ fl M p 1 = (match o with | none => -1 | some c => nI (c / 3)) ∧ fl M p 2 = (match o with | none => -1 | some c => nI (c % 3)) := by
    rcases M_lc hm hp with ⟨y, a1, a2, a3, a4, a5⟩ | ⟨s, b, a1, a2, a3, a4, a5, a6⟩
    · exact ⟨none, some y, c_bof hA h (by omega) (fun c => ⟨fun e => absurd e (A_01 hA a2), fun e => by cases e⟩), c_sof hA h (by omega) (fun c => ⟨fun e => by rw [A_00 hA a2 e], fun e => by rw [← Option.some.inj e]; exact a2⟩), a3, (fun c e => by cases e), a4, a5⟩
    · exact ⟨some (3 * s + b), none, c_bof hA h (by omega) (fun c => ⟨fun e => by rw [A_11 hA a3 e], fun e => by rw [← Option.some.inj e]; exact a3⟩), c_sof hA h (by omega) (fun c => ⟨fun e => absurd a3 (A_01 hA e), fun e => by cases e⟩), a4, (fun c e => by have := Option.some.inj e; omega), by show _ = nI ((3 * s + b) / 3); rw [a5, show (3 * s + b) / 3 = s from by omega], by show _ = nI ((3 * s + b) % 3); rw [a6, show (3 * s + b) % 3 = b from by omega]⟩
  obtain ⟨o, q, e1, e2, e3, e4, e5, e6⟩ := hb
  rw [e1, ob_v]
  match w, hw with
  | 0, _ =>
    simp only [eq_true (show nI 0 = 0 from by decide), eq_false (show ¬ nI 0 = 1 from by decide), eq_false (show ¬ nI 0 = 2 from by decide), eq_false (show ¬ nI 0 = 3 from by decide), eq_false (show ¬ nI 0 = 4 from by decide), if_false, if_true]
    rw [e2, ob_v, m_po (by omega) (by decide), ob_v, e3]
    exact ⟨_, rfl, rfl⟩
  | 1, _ =>
    simp only [eq_false (show ¬ nI 1 = 0 from by decide), eq_true (show nI 1 = 1 from by decide), eq_false (show ¬ nI 1 = 2 from by decide), eq_false (show ¬ nI 1 = 3 from by decide), eq_false (show ¬ nI 1 = 4 from by decide), if_false, if_true]
    rw [m_po (by omega) (by decide), ob_v, e5]
    cases o with
    | none => rw [oI_none, if_pos rfl]; exact ⟨_, rfl, rfl⟩
    | some c =>
      have := e4 c rfl
      rw [oI_some, if_neg (nI_ne_m1 (by omega)), i32_3, pk_div (by omega) (by omega) (by omega)]
      exact ⟨_, rfl, rfl⟩
  | 2, _ =>
    simp only [eq_false (show ¬ nI 2 = 0 from by decide), eq_false (show ¬ nI 2 = 1 from by decide), eq_true (show nI 2 = 2 from by decide), eq_false (show ¬ nI 2 = 3 from by decide), eq_false (show ¬ nI 2 = 4 from by decide), if_false, if_true]
    rw [m_po (by omega) (by decide), ob_v, e6]
    cases o with
    | none => rw [oI_none, if_pos rfl]; exact ⟨_, rfl, rfl⟩
    | some c =>
      have := e4 c rfl
      rw [oI_some, if_neg (nI_ne_m1 (by omega)), i32_3, pk_rem (by omega) (by omega) (by omega)]
      exact ⟨_, rfl, rfl⟩
  | 3, _ =>
    simp only [eq_false (show ¬ nI 3 = 0 from by decide), eq_false (show ¬ nI 3 = 1 from by decide), eq_false (show ¬ nI 3 = 2 from by decide), eq_true (show nI 3 = 3 from by decide), eq_false (show ¬ nI 3 = 4 from by decide), if_false, if_true]
    rw [c_goal h (by omega), ob_v, m_po (by omega) (by decide), ob_v, M_f3 hm hp]
    exact ⟨_, rfl, rfl⟩
  | 4, _ =>
    simp only [eq_false (show ¬ nI 4 = 0 from by decide), eq_false (show ¬ nI 4 = 1 from by decide), eq_false (show ¬ nI 4 = 2 from by decide), eq_false (show ¬ nI 4 = 3 from by decide), eq_true (show nI 4 = 4 from by decide), if_false, if_true]
    rw [c_rider h (by omega), ob_v, m_po (by omega) (by decide), ob_v, M_f4 hm hp]
    cases r : oo α 3 p with
    | none =>
      rw [oI_none, if_pos rfl, if_pos (rk_le.mpr rfl), ob_v]
      exact ⟨_, rfl, rfl⟩
    | some z =>
      have := A_3 hA r
      have := A_nr hA
      rw [oI_some, if_neg (nI_ne_m1 (by omega)), if_neg (fun q => by have := rk_le.mp q; cases this)]
      exact ⟨_, rfl, rfl⟩
  | 5, _ =>
    simp only [eq_false (show ¬ nI 5 = 0 from by decide), eq_false (show ¬ nI 5 = 1 from by decide), eq_false (show ¬ nI 5 = 2 from by decide), eq_false (show ¬ nI 5 = 3 from by decide), eq_false (show ¬ nI 5 = 4 from by decide), if_false, if_true]
    rw [c_read (by omega) (by decide), ob_v, m_po (by omega) (by decide), ob_v, M_f5 hm hp, C_10 h (by omega)]
    exact ⟨_, rfl, rfl⟩
-- stations
def ob1 (α : AS) (c : Nat) : Option Nat := match oo α 1 c with
  | none => none
  | some p => if oo α 2 p = none then some p else none
theorem ob1_some {c p : Nat} : ob1 α c = some p ↔ oo α 1 c = some p ∧ oo α 2 p = none := by
  unfold ob1
  cases e : oo α 1 c with
  | none => exact ⟨(fun h => by cases h), fun h => by cases h.1⟩
  | some q =>
    dsimp only
    by_cases g : oo α 2 q = none
    · rw [if_pos g]; exact ⟨fun h => by cases h; exact ⟨rfl, g⟩, fun h => h.1⟩
    · rw [if_neg g]; exact ⟨(fun h => by cases h), fun h => absurd (by rw [Option.some.inj h.1]; exact h.2) g⟩
theorem bI_or {a b : Bool} (h : ¬ (a = true ∧ b = true)) : bI (a || b) = bI a + bI b := by
  cases a <;> cases b
  · rfl
  · rfl
  · rfl
  · exact absurd ⟨rfl, rfl⟩ h
/-- pods in three places, counted by pods -/
theorem cnt3 {N : Nat} {f : Nat → Option Nat} (hN : ∀ b p, f b = some p → p < N) (h : ∀ b c p, f b = some p → f c = some p → b = c) : isum (fun p => bI ((decide (f 0 = some p) || decide (f 1 = some p)) || decide (f 2 = some p))) 0 N = bI (f 0).isSome + bI (f 1).isSome + bI (f 2).isSome := by
  have h1 : ∀ b, isum (fun p => bI (decide (f b = some p))) 0 N = bI (f b).isSome := fun b => isum_one (fun j _ _ => by simp) (fun j e => ⟨Nat.zero_le _, by have := hN b j e; omega⟩)
  rw [← h1 0, ← h1 1, ← h1 2, ← isum_add, ← isum_add]
  refine isum_ext (fun m _ _ => ?_)
  rw [bI_or (fun q => ?_), bI_or (fun q => ?_)]
  · have := h 0 1 m (of_decide_eq_true q.1) (of_decide_eq_true q.2); omega
  · rcases (Bool.or_eq_true _ _).mp q.1 with r | r
    · have := h 0 2 m (of_decide_eq_true r) (of_decide_eq_true q.2); omega
    · have := h 1 2 m (of_decide_eq_true r) (of_decide_eq_true q.2); omega
theorem c_cnt (hA : AI α) (h : RC α S) {s k : Nat} (hs : s < 6) (hk : k < 3) : f_X0_berthsThatHold S (nI s) (nI k) = some (bI (kd α (3 * s) == k) + bI (kd α (3 * s + 1) == k) + bI (kd α (3 * s + 2) == k)) := by
  unfold f_X0_berthsThatHold
  rw [i3s]
  have := g_sum (F := fun n acc x => f_X0_berthsThatHold_L7 S n (nI s) (nI k) acc x) (g := fun c => bI (kd α c == k)) (fin := fun a => a) (N := 3 * s + 3) (fun n acc i hi => by
    show f_X0_berthsThatHold_L7 S (n + 1) (nI s) (nI k) acc (nI i) = f_X0_berthsThatHold_L7 S n (nI s) (nI k) _ _
    rw [f_X0_berthsThatHold_L7, i3, if_neg (nI_ge hi (by omega)), c_holds hA h (by omega), ob_v]
    by_cases e : kd α i = k
    · rw [if_pos (by rw [e]), nI_1, e]; simp [bI]
    · rw [if_neg (fun q => e (nI_inj (Nat.lt_trans kd_lt (by decide)) (by omega) q)), nI_1]; simp [bI, e])
    (fun n acc => by
      show f_X0_berthsThatHold_L7 S (n + 1) (nI s) (nI k) acc (nI (3 * s + 3)) = _
      rw [f_X0_berthsThatHold_L7, i3, if_pos (nI_le (Nat.le_refl _) (by omega))]) 3 (3 * s) FU 0 rfl (by decide)
  rw [this]
  simp only [isum, Int32.zero_add, Int32.add_zero, Int32.add_assoc]
theorem kb0 {c : Nat} : bI (kd α c == 0) = 1 - bI (oo α 1 c).isSome := by
  cases e : oo α 1 c with
  | none => rw [kd_0 e]; rfl
  | some p => cases g : oo α 2 p with
    | none => rw [kd_1 e g]; show (0 : Int32) = 1 - 1; decide
    | some q => rw [kd_2 e g]; show (0 : Int32) = 1 - 1; decide
theorem kb1 {c : Nat} : bI (kd α c == 1) = bI (ob1 α c).isSome := by
  unfold ob1
  cases e : oo α 1 c with
  | none => rw [kd_0 e]; rfl
  | some p => cases g : oo α 2 p with
    | none => rw [kd_1 e g]; simp [g]
    | some q => rw [kd_2 e g]; simp [g]
theorem b3_ar : ∀ a b c : Bool, (3 : Int32) - ((1 - bI a) + (1 - bI b) + (1 - bI c)) = bI a + bI b + bI c := by decide
theorem m_in1 (hA : AI α) (hm : RM mk α M) {p s : Nat} (hp : p < nn α 1) (hs : s < 6) : fl M p 1 = nI s ↔ ((decide (oo α 1 (3 * s + 0) = some p) || decide (oo α 1 (3 * s + 1) = some p)) || decide (oo α 1 (3 * s + 2) = some p)) = true := by
  rw [L_1 hA hm hp hs]
  simp only [Bool.or_eq_true, decide_eq_true_eq]
  constructor
  · rintro ⟨b, hb, e⟩
    match b, hb with
    | 0, _ => exact Or.inl (Or.inl e)
    | 1, _ => exact Or.inl (Or.inr e)
    | 2, _ => exact Or.inr e
  · rintro ((e | e) | e)
    · exact ⟨0, by decide, e⟩
    · exact ⟨1, by decide, e⟩
    · exact ⟨2, by decide, e⟩
theorem m_cnt (hA : AI α) (hm : RM mk α M) {s : Nat} (hs : s < 6) : f_X2_stationTold_L50 M FU (nI s) 0 0 = some (bI (oo α 1 (3 * s)).isSome + bI (oo α 1 (3 * s + 1)).isSome + bI (oo α 1 (3 * s + 2)).isSome) := by
  have h12 := A_np hA
  have := g_sum (F := fun n acc x => f_X2_stationTold_L50 M n (nI s) acc x) (g := fun p => bI ((decide (oo α 1 (3 * s + 0) = some p) || decide (oo α 1 (3 * s + 1) = some p)) || decide (oo α 1 (3 * s + 2) = some p))) (fin := fun a => a) (N := nn α 1) (fun n acc i hi => by
    show f_X2_stationTold_L50 M (n + 1) (nI s) acc (nI i) = f_X2_stationTold_L50 M n (nI s) _ _
    rw [f_X2_stationTold_L50, M_np hm, if_neg (nI_ge hi (by omega)), m_po1 (by omega), ob_v]
    by_cases e : fl M i 1 = nI s
    · rw [if_pos e, (m_in1 hA hm hi hs).mp e, nI_1]; rfl
    · rw [if_neg e, Bool.eq_false_iff.mpr (fun q => e ((m_in1 hA hm hi hs).mpr q)), nI_1]; rfl)
    (fun n acc => by
      show f_X2_stationTold_L50 M (n + 1) (nI s) acc (nI (nn α 1)) = _
      rw [f_X2_stationTold_L50, M_np hm, if_pos (nI_le (Nat.le_refl _) (by omega))]) (nn α 1) 0 FU 0 (by omega) (by unfold FU; omega)
  rw [nI_0] at this
  rw [this, Int32.zero_add, cnt3 (f := fun b => oo α 1 (3 * s + b)) (fun b p e => (A_1 hA e).2.1) (fun b c p e f => by have := A_11 hA e f; omega)]
  rfl
theorem m_cnt1 (hA : AI α) (hm : RM mk α M) {s : Nat} (hs : s < 6) : f_X2_stationTold_L89 M FU (nI s) 0 0 = some (bI (ob1 α (3 * s)).isSome + bI (ob1 α (3 * s + 1)).isSome + bI (ob1 α (3 * s + 2)).isSome) := by
  have h12 := A_np hA
  have h6 := A_ns hA
  have hd : ∀ p, ((decide (ob1 α (3 * s + 0) = some p) || decide (ob1 α (3 * s + 1) = some p)) || decide (ob1 α (3 * s + 2) = some p)) = (((decide (oo α 1 (3 * s + 0) = some p) || decide (oo α 1 (3 * s + 1) = some p)) || decide (oo α 1 (3 * s + 2) = some p)) && decide (oo α 2 p = none)) := fun p => by
    simp only [ob1_some]
    by_cases g : oo α 2 p = none
    · simp [g]
    · simp [g]
  have := g_sum (F := fun n acc x => f_X2_stationTold_L89 M n (nI s) acc x) (g := fun p => bI ((decide (ob1 α (3 * s + 0) = some p) || decide (ob1 α (3 * s + 1) = some p)) || decide (ob1 α (3 * s + 2) = some p))) (fin := fun a => a) (N := nn α 1) (fun n acc i hi => by
    show f_X2_stationTold_L89 M (n + 1) (nI s) acc (nI i) = f_X2_stationTold_L89 M n (nI s) (acc + bI ((decide (ob1 α (3 * s + 0) = some i) || decide (ob1 α (3 * s + 1) = some i)) || decide (ob1 α (3 * s + 2) = some i))) _
    rw [hd i, f_X2_stationTold_L89, M_np hm, if_neg (nI_ge hi (by omega)), m_po1 (by omega), ob_v]
    by_cases e : fl M i 1 = nI s
    · rw [if_pos e, (m_in1 hA hm hi hs).mp e, m_po3 (by omega), ob_v, M_f3 hm hi, nI_1]
      by_cases g : oo α 2 i = none
      · rw [g, oI_none, if_pos rfl]; rfl
      · rw [if_neg (fun q => g ((oI_m1 (fun k hk => by have := A_2 hA hk; omega)).mp q))]
        simp [g, bI]
    · rw [if_neg e, Bool.eq_false_iff.mpr (fun q => e ((m_in1 hA hm hi hs).mpr q)), nI_1]; rfl)
    (fun n acc => by
      show f_X2_stationTold_L89 M (n + 1) (nI s) acc (nI (nn α 1)) = _
      rw [f_X2_stationTold_L89, M_np hm, if_pos (nI_le (Nat.le_refl _) (by omega))]) (nn α 1) 0 FU 0 (by omega) (by unfold FU; omega)
  rw [nI_0] at this
  rw [this, Int32.zero_add, cnt3 (f := fun b => ob1 α (3 * s + b)) (fun b p e => (A_1 hA (ob1_some.mp e).1).2.1) (fun b c p e f => by have := A_11 hA (ob1_some.mp e).1 (ob1_some.mp f).1; omega)]
  rfl
def wv (α : AS) (s k : Nat) : Int32 := match (qq α s)[k]? with | none => 0 | some e => nI (nn α 2) - nI e.2.1
theorem c_wby (hA : AI α) (h : RC α S) {s k : Nat} (hs : s < 6) (hk : k < (qq α s).length) : f_X0_waitedBy S (nI s) (nI k) = some (wv α s k) := by
  have hln := A_len hA s
  have e := List.getElem?_eq_getElem hk
  obtain ⟨_, _, d⟩ := C_5 h hs e
  unfold f_X0_waitedBy wv
  rw [i9s, nI_add, c_read (by omega) (by decide), ob_v, d, C_t h, e]
theorem m_wby (hA : AI α) (hm : RM mk α M) {s k : Nat} (hs : s < 6) (hk : k < (qq α s).length) : pp M s k 1 = wv α s k := by
  have e := List.getElem?_eq_getElem hk
  obtain ⟨_, d, _⟩ := M_q hm hs e
  unfold wv
  rw [d, e]
theorem c_wat (hA : AI α) (h : RC α S) {s : Nat} (hs : s < 6) : f_X0_waitedAt S (nI s) = some (isum (wv α s) 0 (qq α s).length) := by
  have hln := A_len hA s
  unfold f_X0_waitedAt
  rw [c_wait hA h hs, ob_v]
  have := g_sum (F := fun n acc x => f_X0_waitedAt_L11 S n (nI s) acc (nI (qq α s).length) x) (g := wv α s) (fin := fun a => a) (N := (qq α s).length) (fun n acc i hi => by
    show f_X0_waitedAt_L11 S (n + 1) (nI s) acc (nI (qq α s).length) (nI i) = f_X0_waitedAt_L11 S n (nI s) _ _ _
    rw [f_X0_waitedAt_L11, if_neg (nI_ge hi (by omega)), c_wby hA h hs hi, ob_v, nI_1])
    (fun n acc => by
      show f_X0_waitedAt_L11 S (n + 1) (nI s) acc (nI (qq α s).length) (nI (qq α s).length) = _
      rw [f_X0_waitedAt_L11, if_pos (nI_le (Nat.le_refl _) (by omega))]) (qq α s).length 0 FU 0 (by omega) (by unfold FU; omega)
  rw [nI_0] at this
  rw [this, Int32.zero_add]
theorem m_wat (hA : AI α) (hm : RM mk α M) {s : Nat} (hs : s < 6) : f_X2_stationTold_L152 M FU (nI s) 0 0 = some (isum (wv α s) 0 (qq α s).length) := by
  have hln := A_len hA s
  have := g_sum (F := fun n acc x => f_X2_stationTold_L152 M n (nI s) acc x) (g := wv α s) (fin := fun a => a) (N := (qq α s).length) (fun n acc i hi => by
    show f_X2_stationTold_L152 M (n + 1) (nI s) acc (nI i) = f_X2_stationTold_L152 M n (nI s) _ _
    have hpe : f_X2_pe M (nI s) (nI i) 1 = some (pp M s i 1) := m_pe (w := 1) hs (by omega) (by decide)
    rw [f_X2_stationTold_L152, m_st1 hs, ob_v, M_h1 hm hs, if_neg (nI_ge hi (by omega)), hpe, ob_v, m_wby hA hm hs hi, nI_1])
    (fun n acc => by
      show f_X2_stationTold_L152 M (n + 1) (nI s) acc (nI (qq α s).length) = _
      rw [f_X2_stationTold_L152, m_st1 hs, ob_v, M_h1 hm hs, if_pos (nI_le (Nat.le_refl _) (by omega))]) (qq α s).length 0 FU 0 (by omega) (by unfold FU; omega)
  rw [nI_0] at this
  rw [this, Int32.zero_add]
theorem m_told3 (hm : RM mk α M) {s : Nat} (hs : s < 6) : f_X2_stationTold M (nI s) (nI 3) = some (nI (qq α s).length) := by
  unfold f_X2_stationTold
  simp only [eq_false (show ¬ nI 3 = 0 from by decide), eq_false (show ¬ nI 3 = 1 from by decide), eq_false (show ¬ nI 3 = 2 from by decide), eq_true (show nI 3 = 3 from by decide), eq_false (show ¬ nI 3 = 4 from by decide), eq_false (show ¬ nI 3 = 5 from by decide), if_false, if_true]
  rw [m_st1 hs, ob_v, M_h1 hm hs]
theorem m_told5 (hA : AI α) (hm : RM mk α M) {s : Nat} (hs : s < 6) : f_X2_stationTold M (nI s) (nI 5) = some (isum (wv α s) 0 (qq α s).length) := by
  unfold f_X2_stationTold
  simp only [eq_false (show ¬ nI 5 = 0 from by decide), eq_false (show ¬ nI 5 = 1 from by decide), eq_false (show ¬ nI 5 = 2 from by decide), eq_false (show ¬ nI 5 = 3 from by decide), eq_false (show ¬ nI 5 = 4 from by decide), eq_true (show nI 5 = 5 from by decide), if_false, if_true]
  exact m_wat hA hm hs
theorem m_told6 (hm : RM mk α M) {s : Nat} (hs : s < 6) : f_X2_stationTold M (nI s) (nI 6) = some (ii α 0 s) := by
  unfold f_X2_stationTold
  simp only [eq_false (show ¬ nI 6 = 0 from by decide), eq_false (show ¬ nI 6 = 1 from by decide), eq_false (show ¬ nI 6 = 2 from by decide), eq_false (show ¬ nI 6 = 3 from by decide), eq_false (show ¬ nI 6 = 4 from by decide), eq_false (show ¬ nI 6 = 5 from by decide), if_false, if_true]
  rw [m_st2 hs, ob_v, M_h2 hm hs]
theorem t_st (hA : AI α) (h : RC α S) (hm : RM mk α M) {s w : Nat} (hs : s < nn α 0) (hw : w < 7) : ∃ v, f_X0_tellStation S (nI s) (nI w) = some v ∧ f_X2_stationTold M (nI s) (nI w) = some v := by
  have h6 := A_ns hA
  match w, hw with
  | 0, _ =>
    unfold f_X0_tellStation f_X2_stationTold
    simp only [eq_true (show nI 0 = 0 from by decide), eq_false (show ¬ nI 0 = 1 from by decide), eq_false (show ¬ nI 0 = 2 from by decide), eq_false (show ¬ nI 0 = 3 from by decide), eq_false (show ¬ nI 0 = 4 from by decide), eq_false (show ¬ nI 0 = 5 from by decide), if_false, if_true]
    rw [c_place hA h hs, ob_v, m_st0 (by omega), ob_v, M_h0 hm hs]
    exact ⟨_, rfl, rfl⟩
  | 1, _ =>
    unfold f_X0_tellStation f_X2_stationTold
    have hc : f_X0_berthsThatHold S (nI s) 0 = _ := c_cnt (k := 0) hA h (by omega) (by decide)
    simp only [eq_false (show ¬ nI 1 = 0 from by decide), eq_true (show nI 1 = 1 from by decide), eq_false (show ¬ nI 1 = 2 from by decide), eq_false (show ¬ nI 1 = 3 from by decide), eq_false (show ¬ nI 1 = 4 from by decide), eq_false (show ¬ nI 1 = 5 from by decide), if_false, if_true]
    rw [hc, ob_v, m_cnt hA hm (by omega), kb0, kb0, kb0, b3_ar]
    exact ⟨_, rfl, rfl⟩
  | 2, _ =>
    unfold f_X0_tellStation f_X2_stationTold
    have hc : f_X0_berthsThatHold S (nI s) 1 = _ := c_cnt (k := 1) hA h (by omega) (by decide)
    simp only [eq_false (show ¬ nI 2 = 0 from by decide), eq_false (show ¬ nI 2 = 1 from by decide), eq_true (show nI 2 = 2 from by decide), eq_false (show ¬ nI 2 = 3 from by decide), eq_false (show ¬ nI 2 = 4 from by decide), eq_false (show ¬ nI 2 = 5 from by decide), if_false, if_true]
    rw [hc, ob_v, m_cnt1 hA hm (by omega), kb1, kb1, kb1]
    exact ⟨_, rfl, rfl⟩
  | 3, _ =>
    rw [m_told3 hm (by omega)]
    unfold f_X0_tellStation
    simp only [eq_false (show ¬ nI 3 = 0 from by decide), eq_false (show ¬ nI 3 = 1 from by decide), eq_false (show ¬ nI 3 = 2 from by decide), eq_true (show nI 3 = 3 from by decide), eq_false (show ¬ nI 3 = 4 from by decide), eq_false (show ¬ nI 3 = 5 from by decide), if_false, if_true]
    rw [c_wait hA h (by omega), ob_v]
    exact ⟨_, rfl, rfl⟩
  | 4, _ =>
    unfold f_X0_tellStation f_X2_stationTold
    simp only [eq_false (show ¬ nI 4 = 0 from by decide), eq_false (show ¬ nI 4 = 1 from by decide), eq_false (show ¬ nI 4 = 2 from by decide), eq_false (show ¬ nI 4 = 3 from by decide), eq_true (show nI 4 = 4 from by decide), eq_false (show ¬ nI 4 = 5 from by decide), if_false, if_true]
    rw [c_empty hA h hs, ob_v, m_com hA hm hs, ob_v]
    exact ⟨_, rfl, rfl⟩
  | 5, _ =>
    rw [m_told5 hA hm (by omega)]
    unfold f_X0_tellStation
    simp only [eq_false (show ¬ nI 5 = 0 from by decide), eq_false (show ¬ nI 5 = 1 from by decide), eq_false (show ¬ nI 5 = 2 from by decide), eq_false (show ¬ nI 5 = 3 from by decide), eq_false (show ¬ nI 5 = 4 from by decide), eq_true (show nI 5 = 5 from by decide), if_false, if_true]
    rw [c_wat hA h (by omega), ob_v]
    exact ⟨_, rfl, rfl⟩
  | 6, _ =>
    rw [m_told6 hm (by omega)]
    unfold f_X0_tellStation
    simp only [eq_false (show ¬ nI 6 = 0 from by decide), eq_false (show ¬ nI 6 = 1 from by decide), eq_false (show ¬ nI 6 = 2 from by decide), eq_false (show ¬ nI 6 = 3 from by decide), eq_false (show ¬ nI 6 = 4 from by decide), eq_false (show ¬ nI 6 = 5 from by decide), if_false, if_true]
    rw [c_read (by omega) (by decide), ob_v, C_3 h (by omega)]
    exact ⟨_, rfl, rfl⟩
theorem t_rid (hA : AI α) (h : RC α S) (hm : RM mk α M) {s k : Nat} (hs : s < 6) (hk : k < (qq α s).length) : ∃ v, f_X0_tellRider S (nI s) (nI k) = some v ∧ f_X2_rider M (nI s) (nI k) = some v := by
  have hln := A_len hA s
  have e := List.getElem?_eq_getElem hk
  obtain ⟨_, d, _⟩ := C_5 h hs e
  obtain ⟨d2, _, _⟩ := M_q hm hs e
  have p1 : f_X2_pe M (nI s) (nI k) 1 = some (pp M s k 1) := m_pe (w := 1) hs (by omega) (by decide)
  have p0 : f_X2_pe M (nI s) (nI k) 0 = some (pp M s k 0) := m_pe (w := 0) hs (by omega) (by decide)
  unfold f_X0_tellRider f_X2_rider
  rw [c_wby hA h hs hk, ob_v, i9s, nI_add, c_read (by omega) (by decide), ob_v, d, p1, ob_v, p0, ob_v, m_wby hA hm hs hk, d2]
  exact ⟨_, rfl, rfl⟩
-- sums over all
theorem c_wia (hA : AI α) (h : RC α S) : f_X0_waitingInAll S = some (isum (fun s => nI (qq α s).length) 0 (nn α 0)) := by
  have h6 := A_ns hA
  unfold f_X0_waitingInAll
  have := g_sum (F := fun n acc x => f_X0_waitingInAll_L4 S n acc x) (g := fun s => nI (qq α s).length) (fin := fun a => a) (N := nn α 0) (fun n acc i hi => by
    show f_X0_waitingInAll_L4 S (n + 1) acc (nI i) = f_X0_waitingInAll_L4 S n _ _
    rw [f_X0_waitingInAll_L4, C_ns h, if_neg (nI_ge hi (by omega)), c_wait hA h (by omega), ob_v, nI_1])
    (fun n acc => by
      show f_X0_waitingInAll_L4 S (n + 1) acc (nI (nn α 0)) = _
      rw [f_X0_waitingInAll_L4, C_ns h, if_pos (nI_le (Nat.le_refl _) (by omega))]) (nn α 0) 0 FU 0 (by omega) (by unfold FU; omega)
  rw [nI_0] at this
  rw [this, Int32.zero_add]
theorem c_wda (hA : AI α) (h : RC α S) : f_X0_waitedInAll S = some (isum (fun s => isum (wv α s) 0 (qq α s).length) 0 (nn α 0)) := by
  have h6 := A_ns hA
  unfold f_X0_waitedInAll
  have := g_sum (F := fun n acc x => f_X0_waitedInAll_L4 S n acc x) (g := fun s => isum (wv α s) 0 (qq α s).length) (fin := fun a => a) (N := nn α 0) (fun n acc i hi => by
    show f_X0_waitedInAll_L4 S (n + 1) acc (nI i) = f_X0_waitedInAll_L4 S n _ _
    rw [f_X0_waitedInAll_L4, C_ns h, if_neg (nI_ge hi (by omega)), c_wat hA h (by omega), ob_v, nI_1])
    (fun n acc => by
      show f_X0_waitedInAll_L4 S (n + 1) acc (nI (nn α 0)) = _
      rw [f_X0_waitedInAll_L4, C_ns h, if_pos (nI_le (Nat.le_refl _) (by omega))]) (nn α 0) 0 FU 0 (by omega) (by unfold FU; omega)
  rw [nI_0] at this
  rw [this, Int32.zero_add]
theorem c_ara (hA : AI α) (h : RC α S) : f_X0_arrivedInAll S = some (isum (fun s => ii α 0 s) 0 (nn α 0)) := by
  have h6 := A_ns hA
  unfold f_X0_arrivedInAll
  have := g_sum (F := fun n acc x => f_X0_arrivedInAll_L4 S n acc x) (g := fun s => ii α 0 s) (fin := fun a => a) (N := nn α 0) (fun n acc i hi => by
    show f_X0_arrivedInAll_L4 S (n + 1) acc (nI i) = f_X0_arrivedInAll_L4 S n _ _
    rw [f_X0_arrivedInAll_L4, C_ns h, if_neg (nI_ge hi (by omega)), c_read (by omega) (by decide), ob_v, C_3 h (by omega), nI_1])
    (fun n acc => by
      show f_X0_arrivedInAll_L4 S (n + 1) acc (nI (nn α 0)) = _
      rw [f_X0_arrivedInAll_L4, C_ns h, if_pos (nI_le (Nat.le_refl _) (by omega))]) (nn α 0) 0 FU 0 (by omega) (by unfold FU; omega)
  rw [nI_0] at this
  rw [this, Int32.zero_add]
theorem m_all (hA : AI α) (hm : RM mk α M) {w : Nat} {g : Nat → Int32} (hg : ∀ s, s < nn α 0 → f_X2_stationTold M (nI s) (nI w) = some (g s)) : f_X2_all M (nI w) = some (isum g 0 (nn α 0)) := by
  have h6 := A_ns hA
  unfold f_X2_all
  have := g_sum (F := fun n acc x => f_X2_all_L4 M n (nI w) acc x) (g := g) (fin := fun a => a) (N := nn α 0) (fun n acc i hi => by
    show f_X2_all_L4 M (n + 1) (nI w) acc (nI i) = f_X2_all_L4 M n (nI w) _ _
    rw [f_X2_all_L4, M_ns hm, if_neg (nI_ge hi (by omega)), hg i hi, ob_v, nI_1])
    (fun n acc => by
      show f_X2_all_L4 M (n + 1) (nI w) acc (nI (nn α 0)) = _
      rw [f_X2_all_L4, M_ns hm, if_pos (nI_le (Nat.le_refl _) (by omega))]) (nn α 0) 0 FU 0 (by omega) (by unfold FU; omega)
  rw [nI_0] at this
  rw [this, Int32.zero_add]
theorem m_all3 (hA : AI α) (hm : RM mk α M) : f_X2_all M 3 = some (isum (fun s => nI (qq α s).length) 0 (nn α 0)) := m_all (w := 3) hA hm (fun s hs => m_told3 hm (by have := A_ns hA; omega))
theorem m_all5 (hA : AI α) (hm : RM mk α M) : f_X2_all M 5 = some (isum (fun s => isum (wv α s) 0 (qq α s).length) 0 (nn α 0)) := m_all (w := 5) hA hm (fun s hs => m_told5 hA hm (by have := A_ns hA; omega))
theorem m_all6 (hA : AI α) (hm : RM mk α M) : f_X2_all M 6 = some (isum (fun s => ii α 0 s) 0 (nn α 0)) := m_all (w := 6) hA hm (fun s hs => m_told6 hm (by have := A_ns hA; omega))
theorem t_rip (hA : AI α) (h : RC α S) (hm : RM mk α M) : ∃ v, f_X0_ridersInPods S = some v ∧ f_X2_counted_L73 M FU 0 0 = some v := by
  have h12 := A_np hA
  refine ⟨isum (fun p => bI (decide (oo α 3 p ≠ none))) 0 (nn α 1), ?_, ?_⟩
  · unfold f_X0_ridersInPods
    have := g_sum (F := fun n acc x => f_X0_ridersInPods_L4 S n acc x) (g := fun p => bI (decide (oo α 3 p ≠ none))) (fin := fun a => a) (N := nn α 1) (fun n acc i hi => by
      show f_X0_ridersInPods_L4 S (n + 1) acc (nI i) = f_X0_ridersInPods_L4 S n _ _
      rw [f_X0_ridersInPods_L4, C_np h, if_neg (nI_ge hi (by omega)), c_rider h (by omega), ob_v]
      by_cases e : oo α 3 i = none
      · rw [if_pos (by rw [e, oI_none]), nI_1]; simp [e, bI]
      · rw [if_neg (fun q => e ((oI_m1 (fun k hk => by have := A_3 hA hk; have := A_nr hA; omega)).mp q)), nI_1]; simp [e, bI])
      (fun n acc => by
        show f_X0_ridersInPods_L4 S (n + 1) acc (nI (nn α 1)) = _
        rw [f_X0_ridersInPods_L4, C_np h, if_pos (nI_le (Nat.le_refl _) (by omega))]) (nn α 1) 0 FU 0 (by omega) (by unfold FU; omega)
    rw [nI_0] at this
    rw [this, Int32.zero_add]
  · have := g_sum (F := fun n acc x => f_X2_counted_L73 M n acc x) (g := fun p => bI (decide (oo α 3 p ≠ none))) (fin := fun a => a) (N := nn α 1) (fun n acc i hi => by
      show f_X2_counted_L73 M (n + 1) acc (nI i) = f_X2_counted_L73 M n _ _
      rw [f_X2_counted_L73, M_np hm, if_neg (nI_ge hi (by omega)), m_po4 (by omega), ob_v, M_f4 hm hi]
      by_cases e : oo α 3 i = none
      · rw [if_pos (rk_le.mpr e), nI_1]; simp [e, bI]
      · rw [if_neg (fun q => e (rk_le.mp q)), nI_1]; simp [e, bI])
      (fun n acc => by
        show f_X2_counted_L73 M (n + 1) acc (nI (nn α 1)) = _
        rw [f_X2_counted_L73, M_np hm, if_pos (nI_le (Nat.le_refl _) (by omega))]) (nn α 1) 0 FU 0 (by omega) (by unfold FU; omega)
    rw [nI_0] at this
    rw [this, Int32.zero_add]
theorem isum_last {g : Nat → Int32} : ∀ {k i : Nat}, isum g i (k + 1) = isum g i k + g (i + k) := by
  intro k
  induction k with
  | zero => intro i; show g i + 0 = 0 + g (i + 0); rw [Int32.add_zero, Int32.zero_add]; rfl
  | succ k ih =>
    intro i
    rw [isum, ih, isum, ← Int32.add_assoc, show i + 1 + k = i + (k + 1) from by omega]
def exs (α : AS) (p : Nat) : Nat → Bool
  | 0 => false
  | n + 1 => exs α p n || decide (oo α 0 n = some p)
theorem exs_t {p : Nat} : ∀ {n : Nat}, exs α p n = true ↔ ∃ x, x < n ∧ oo α 0 x = some p := by
  intro n
  induction n with
  | zero => exact ⟨(fun h => by cases h), fun ⟨x, h, _⟩ => by omega⟩
  | succ n ih =>
    rw [exs, Bool.or_eq_true, ih, decide_eq_true_eq]
    constructor
    · rintro (⟨x, h, e⟩ | e)
      · exact ⟨x, by omega, e⟩
      · exact ⟨n, by omega, e⟩
    · rintro ⟨x, h, e⟩
      by_cases c : x = n
      · subst c; exact Or.inr e
      · exact Or.inl ⟨x, by omega, e⟩
theorem exs_sum (hA : AI α) : ∀ n, isum (fun p => bI (exs α p n)) 0 (nn α 1) = isum (fun x => bI (oo α 0 x).isSome) 0 n := by
  intro n
  induction n with
  | zero => exact isum_0
  | succ n ih =>
    rw [isum_last, ← ih, Nat.zero_add]
    have h1 : isum (fun p => bI (decide (oo α 0 n = some p))) 0 (nn α 1) = bI (oo α 0 n).isSome := isum_one (fun j _ _ => by simp) (fun j e => ⟨Nat.zero_le _, by have := (A_0 hA e).2; omega⟩)
    rw [← h1, ← isum_add]
    refine isum_ext (fun m _ _ => ?_)
    rw [exs, bI_or (fun q => ?_)]
    obtain ⟨x, hx, e⟩ := exs_t.mp q.1
    have := A_00 hA e (of_decide_eq_true q.2)
    omega
theorem bI_cmp {a : Bool} : bI a + bI (!a) = 1 := by cases a <;> rfl
theorem isum_c1 : isum (fun _ => 1) 0 24 = 24 := by decide
theorem t_fre (hA : AI α) (h : RC α S) (hm : RM mk α M) : ∃ v, f_X0_freeSlots S = some v ∧ f_X2_counted_L115 M FU 0 0 = some v := by
  have h12 := A_np hA
  refine ⟨isum (fun x => bI (!(oo α 0 x).isSome)) 0 24, ?_, ?_⟩
  · unfold f_X0_freeSlots
    have := g_sum (F := fun n acc x => f_X0_freeSlots_L4 S n acc x) (g := fun x => bI (!(oo α 0 x).isSome)) (fin := fun a => a) (N := 24) (fun n acc i hi => by
      show f_X0_freeSlots_L4 S (n + 1) acc (nI i) = f_X0_freeSlots_L4 S n _ _
      rw [f_X0_freeSlots_L4, i32_24, if_neg (nI_ge hi (by omega)), c_pod h hi, ob_v]
      cases e : oo α 0 i with
      | none => rw [oI_none, if_pos rfl, nI_1]; simp [bI]
      | some p => have := (A_0 hA e).2; rw [oI_some, if_neg (nI_ne_m1 (by omega)), nI_1]; simp [bI])
      (fun n acc => by
        show f_X0_freeSlots_L4 S (n + 1) acc (nI 24) = _
        rw [f_X0_freeSlots_L4, i32_24, if_pos (nI_le (Nat.le_refl _) (by omega))]) 24 0 FU 0 (by omega) (by unfold FU; omega)
    rw [nI_0] at this
    rw [this, Int32.zero_add]
  · have := g_sum (F := fun n acc x => f_X2_counted_L115 M n acc x) (g := fun p => bI (exs α p 24)) (fin := fun a => 24 - a) (N := nn α 1) (fun n acc i hi => by
      show f_X2_counted_L115 M (n + 1) acc (nI i) = f_X2_counted_L115 M n _ _
      rw [f_X2_counted_L115, M_np hm, if_neg (nI_ge hi (by omega)), m_po0 (by omega), ob_v]
      by_cases e : exs α i 24 = true
      · obtain ⟨x, hx, ex⟩ := exs_t.mp e
        rw [if_neg (fun q => (L_0m hA hm hi).mp q x ex), nI_1, e]; rfl
      · rw [if_pos ((L_0m hA hm hi).mpr (fun x ex => e (exs_t.mpr ⟨x, (A_0 hA ex).1, ex⟩))), nI_1, Bool.eq_false_iff.mpr e]; rfl)
      (fun n acc => by
        show f_X2_counted_L115 M (n + 1) acc (nI (nn α 1)) = _
        rw [f_X2_counted_L115, M_np hm, if_pos (nI_le (Nat.le_refl _) (by omega))]) (nn α 1) 0 FU 0 (by omega) (by unfold FU; omega)
    rw [nI_0] at this
    rw [this, Int32.zero_add, exs_sum hA]
    have e1 : isum (fun x => bI (oo α 0 x).isSome) 0 24 + isum (fun x => bI (!(oo α 0 x).isSome)) 0 24 = 24 := by
      rw [← isum_add, ← isum_c1]
      exact isum_ext (fun m _ _ => bI_cmp)
    rw [← e1, Int32.add_comm, Int32.add_sub_cancel]
theorem t_cnt (hA : AI α) (h : RC α S) (hm : RM mk α M) {w : Nat} (hw : w < 9) : ∃ v, f_X0_tellCount S (nI w) = some v ∧ f_X2_counted M (nI w) = some v := by
  unfold f_X0_tellCount f_X2_counted
  match w, hw with
  | 0, _ => simp only [eq_true (show nI 0 = 0 from by decide), eq_false (show ¬ nI 0 = 1 from by decide), eq_false (show ¬ nI 0 = 2 from by decide), eq_false (show ¬ nI 0 = 3 from by decide), eq_false (show ¬ nI 0 = 4 from by decide), eq_false (show ¬ nI 0 = 5 from by decide), eq_false (show ¬ nI 0 = 6 from by decide), eq_false (show ¬ nI 0 = 7 from by decide), if_false, if_true]; rw [C_t h]; exact ⟨_, rfl, by rw [← M_t hm]; rfl⟩
  | 1, _ => simp only [eq_false (show ¬ nI 1 = 0 from by decide), eq_true (show nI 1 = 1 from by decide), eq_false (show ¬ nI 1 = 2 from by decide), eq_false (show ¬ nI 1 = 3 from by decide), eq_false (show ¬ nI 1 = 4 from by decide), eq_false (show ¬ nI 1 = 5 from by decide), eq_false (show ¬ nI 1 = 6 from by decide), eq_false (show ¬ nI 1 = 7 from by decide), if_false, if_true]; rw [C_ns h, M_ns hm]; exact ⟨_, rfl, rfl⟩
  | 2, _ => simp only [eq_false (show ¬ nI 2 = 0 from by decide), eq_false (show ¬ nI 2 = 1 from by decide), eq_true (show nI 2 = 2 from by decide), eq_false (show ¬ nI 2 = 3 from by decide), eq_false (show ¬ nI 2 = 4 from by decide), eq_false (show ¬ nI 2 = 5 from by decide), eq_false (show ¬ nI 2 = 6 from by decide), eq_false (show ¬ nI 2 = 7 from by decide), if_false, if_true]; rw [C_np h, M_np hm]; exact ⟨_, rfl, rfl⟩
  | 3, _ => simp only [eq_false (show ¬ nI 3 = 0 from by decide), eq_false (show ¬ nI 3 = 1 from by decide), eq_false (show ¬ nI 3 = 2 from by decide), eq_true (show nI 3 = 3 from by decide), eq_false (show ¬ nI 3 = 4 from by decide), eq_false (show ¬ nI 3 = 5 from by decide), eq_false (show ¬ nI 3 = 6 from by decide), eq_false (show ¬ nI 3 = 7 from by decide), if_false, if_true]; rw [c_wia hA h, ob_v, m_all3 hA hm, ob_v]; exact ⟨_, rfl, rfl⟩
  | 4, _ =>
    obtain ⟨v, e1, e2⟩ := t_rip hA h hm
    simp only [eq_false (show ¬ nI 4 = 0 from by decide), eq_false (show ¬ nI 4 = 1 from by decide), eq_false (show ¬ nI 4 = 2 from by decide), eq_false (show ¬ nI 4 = 3 from by decide), eq_true (show nI 4 = 4 from by decide), eq_false (show ¬ nI 4 = 5 from by decide), eq_false (show ¬ nI 4 = 6 from by decide), eq_false (show ¬ nI 4 = 7 from by decide), if_false, if_true]
    rw [e1, ob_v, e2]; exact ⟨_, rfl, rfl⟩
  | 5, _ => simp only [eq_false (show ¬ nI 5 = 0 from by decide), eq_false (show ¬ nI 5 = 1 from by decide), eq_false (show ¬ nI 5 = 2 from by decide), eq_false (show ¬ nI 5 = 3 from by decide), eq_false (show ¬ nI 5 = 4 from by decide), eq_true (show nI 5 = 5 from by decide), eq_false (show ¬ nI 5 = 6 from by decide), eq_false (show ¬ nI 5 = 7 from by decide), if_false, if_true]; rw [c_ara hA h, ob_v, m_all6 hA hm, ob_v]; exact ⟨_, rfl, rfl⟩
  | 6, _ =>
    obtain ⟨v, e1, e2⟩ := t_fre hA h hm
    simp only [eq_false (show ¬ nI 6 = 0 from by decide), eq_false (show ¬ nI 6 = 1 from by decide), eq_false (show ¬ nI 6 = 2 from by decide), eq_false (show ¬ nI 6 = 3 from by decide), eq_false (show ¬ nI 6 = 4 from by decide), eq_false (show ¬ nI 6 = 5 from by decide), eq_true (show nI 6 = 6 from by decide), eq_false (show ¬ nI 6 = 7 from by decide), if_false, if_true]
    rw [e1, ob_v, e2]; exact ⟨_, rfl, rfl⟩
  | 7, _ => simp only [eq_false (show ¬ nI 7 = 0 from by decide), eq_false (show ¬ nI 7 = 1 from by decide), eq_false (show ¬ nI 7 = 2 from by decide), eq_false (show ¬ nI 7 = 3 from by decide), eq_false (show ¬ nI 7 = 4 from by decide), eq_false (show ¬ nI 7 = 5 from by decide), eq_false (show ¬ nI 7 = 6 from by decide), eq_true (show nI 7 = 7 from by decide), if_false, if_true]; rw [C_an h]; exact ⟨_, rfl, by rw [← M_an hm]; rfl⟩
  | 8, _ => simp only [eq_false (show ¬ nI 8 = 0 from by decide), eq_false (show ¬ nI 8 = 1 from by decide), eq_false (show ¬ nI 8 = 2 from by decide), eq_false (show ¬ nI 8 = 3 from by decide), eq_false (show ¬ nI 8 = 4 from by decide), eq_false (show ¬ nI 8 = 5 from by decide), eq_false (show ¬ nI 8 = 6 from by decide), eq_false (show ¬ nI 8 = 7 from by decide), if_false, if_true]; rw [C_wt h]; exact ⟨_, rfl, by rw [← M_wt hm]; rfl⟩
end PURQ
