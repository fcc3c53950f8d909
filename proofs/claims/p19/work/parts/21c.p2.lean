-- pure part 2: words of the middle state; what each side reads
theorem i32_3 : (3 : Int32) = nI 3 := by decide
theorem i32_9 : (9 : Int32) = nI 9 := by decide
theorem i32_24 : (24 : Int32) = nI 24 := by decide
theorem i3 (s : Nat) : (nI s + 1) * 3 = nI (3 * s + 3) := by rw [nI_1, i32_3, pk_mul, show (s + 1) * 3 = 3 * s + 3 from by omega]
theorem i3s (s : Nat) : nI s * 3 = nI (3 * s) := by rw [i32_3, pk_mul, Nat.mul_comm]
theorem i9s (s : Nat) : nI s * 9 = nI (9 * s) := by rw [i32_9, pk_mul, Nat.mul_comm]
def pl (α : AS) (s : Nat) : Nat := nn α (10 + s)
def kd (α : AS) (c : Nat) : Nat := match oo α 1 c with
  | none => 0
  | some p => match oo α 2 p with
    | none => 1
    | some _ => 2
def fb (α : AS) (s k : Nat) : Option Nat := ffind (fun b => kd α (3 * s + b) == k) 0 3
def com (α : AS) (s : Nat) : Int32 := isum (fun p => bI (decide (oo α 2 p = some s ∧ oo α 3 p = none))) 0 (nn α 1)
def dst (α : AS) (i x : Nat) : Nat := (pl α x + 24 - pl α i) % 24
theorem kd_0 {α : AS} {c : Nat} (h : oo α 1 c = none) : kd α c = 0 := by unfold kd; rw [h]
theorem kd_1 {α : AS} {c p : Nat} (h : oo α 1 c = some p) (g : oo α 2 p = none) : kd α c = 1 := by unfold kd; rw [h]; show (match oo α 2 p with | none => 1 | some _ => 2) = 1; rw [g]
theorem kd_2 {α : AS} {c p g : Nat} (h : oo α 1 c = some p) (e : oo α 2 p = some g) : kd α c = 2 := by unfold kd; rw [h]; show (match oo α 2 p with | none => 1 | some _ => 2) = 2; rw [e]
theorem kd_lt {α : AS} {c : Nat} : kd α c < 3 := by
  cases h : oo α 1 c with
  | none => rw [kd_0 h]; decide
  | some p => cases g : oo α 2 p with
    | none => rw [kd_1 h g]; decide
    | some q => rw [kd_2 h g]; decide
theorem ffind_shift {Q : Nat → Bool} {a : Nat} : ∀ {k i : Nat}, ffind Q (a + i) k = (ffind (fun b => Q (a + b)) i k).map (fun b => a + b) := by
  intro k
  induction k with
  | zero => intro i; rfl
  | succ k ih =>
    intro i
    rw [ffind, ffind]
    by_cases c : Q (a + i) = true
    · rw [if_pos c, if_pos c]; rfl
    · rw [if_neg c, if_neg c]; exact ih (i := i + 1)
theorem fb_some {α : AS} {s k b : Nat} (h : fb α s k = some b) : b < 3 ∧ kd α (3 * s + b) = k ∧ ∀ m, m < b → kd α (3 * s + m) ≠ k := by
  obtain ⟨_, h2, h3, h4⟩ := ffind_some h
  refine ⟨by omega, eq_of_beq h3, fun m hm e => ?_⟩
  have := h4 m (Nat.zero_le _) hm
  rw [e] at this
  exact absurd this (by simp)
theorem fb_none {α : AS} {s k : Nat} (h : fb α s k = none) : ∀ m, m < 3 → kd α (3 * s + m) ≠ k := fun m hm e => by
  have := ffind_none h m (Nat.zero_le _) (by omega)
  rw [e] at this
  exact absurd this (by simp)
-- bounds
theorem A_len {α : AS} (h : AI α) (s : Nat) : (qq α s).length ≤ 9 := h.2.2.2.2.2.2.2.2.2.2.2.2.2.1 s
theorem A_q {α : AS} (h : AI α) {s : Nat} {e : Nat × Nat × Nat} (he : e ∈ qq α s) : e.1 < nn α 0 ∧ e.1 ≠ s ∧ e.2.2 < nn α 3 ∧ s < nn α 0 := h.2.2.2.2.2.2.2.2.2.2.2.2.2.2.1 s e he
theorem A_z {α : AS} (h : AI α) {p : Nat} (hp : nn α 1 ≤ p) : ii α 1 p = 0 ∧ ii α 3 p = 0 := h.2.2.2.2.2.2.2.2.2.2.2.2.2.2.2 p hp
theorem A_pl {α : AS} (h : AI α) {s : Nat} (hs : s < nn α 0) : pl α s < 24 := h.2.2.2.2.1 s hs
theorem A_0 {α : AS} (h : AI α) {x p : Nat} (e : oo α 0 x = some p) : x < 24 ∧ p < nn α 1 := h.2.2.2.2.2.1 x p e
theorem A_1 {α : AS} (h : AI α) {x p : Nat} (e : oo α 1 x = some p) : x < 18 ∧ p < nn α 1 ∧ x / 3 < nn α 0 ∧ oo α 2 p ≠ some (x / 3) := h.2.2.2.2.2.2.1 x p e
theorem A_00 {α : AS} (h : AI α) {x y p : Nat} (e : oo α 0 x = some p) (f : oo α 0 y = some p) : x = y := h.2.2.2.2.2.2.2.1 x y p e f
theorem A_11 {α : AS} (h : AI α) {x y p : Nat} (e : oo α 1 x = some p) (f : oo α 1 y = some p) : x = y := h.2.2.2.2.2.2.2.2.1 x y p e f
theorem A_01 {α : AS} (h : AI α) {x y p : Nat} (e : oo α 0 x = some p) : oo α 1 y ≠ some p := h.2.2.2.2.2.2.2.2.2.1 x y p e
theorem A_2 {α : AS} (h : AI α) {p g : Nat} (e : oo α 2 p = some g) : g < nn α 0 ∧ p < nn α 1 := h.2.2.2.2.2.2.2.2.2.2.1 p g e
theorem A_3 {α : AS} (h : AI α) {p g : Nat} (e : oo α 3 p = some g) : g < nn α 3 ∧ p < nn α 1 := h.2.2.2.2.2.2.2.2.2.2.2.1 p g e
theorem A_23 {α : AS} (h : AI α) {p : Nat} (e : oo α 2 p = none) : oo α 3 p = none := h.2.2.2.2.2.2.2.2.2.2.2.2.1 p e
theorem A_ns {α : AS} (h : AI α) : nn α 0 ≤ 6 := h.1
theorem A_np {α : AS} (h : AI α) : nn α 1 ≤ 12 := h.2.1
theorem A_t {α : AS} (h : AI α) : nn α 2 < 2 ^ 29 := h.2.2.1
theorem A_nr {α : AS} (h : AI α) : nn α 3 < 2 ^ 29 := h.2.2.2.1
-- the class
section PURC
variable {α : AS} {S : RS}
theorem C_t (h : RC α S) : S.1 0 = nI (nn α 2) := h.1
theorem C_ns (h : RC α S) : S.1 1 = nI (nn α 0) := h.2.1
theorem C_np (h : RC α S) : S.1 2 = nI (nn α 1) := h.2.2.1
theorem C_nr (h : RC α S) : S.1 3 = nI (nn α 3) := h.2.2.2.1
theorem C_an (h : RC α S) : S.1 4 = ii α 2 0 := h.2.2.2.2.1
theorem C_wt (h : RC α S) : S.1 5 = ii α 2 1 := h.2.2.2.2.2.1
theorem C_0 (h : RC α S) {x : Nat} (hx : x < 24) : S.2 0 x = oI (oo α 0 x) := h.2.2.2.2.2.2.1 x hx
theorem C_1 (h : RC α S) {x : Nat} (hx : x < 18) : S.2 1 x = oI (oo α 1 x) := h.2.2.2.2.2.2.2.1 x hx
theorem C_2 (h : RC α S) {x : Nat} (hx : x < nn α 0) : S.2 2 x = nI (pl α x) := h.2.2.2.2.2.2.2.2.1 x hx
theorem C_3 (h : RC α S) {x : Nat} (hx : x < 6) : S.2 3 x = ii α 0 x := h.2.2.2.2.2.2.2.2.2.1 x hx
theorem C_4 (h : RC α S) {x : Nat} (hx : x < 6) : S.2 4 x = nI (qq α x).length := h.2.2.2.2.2.2.2.2.2.2.1 x hx
theorem C_5 (h : RC α S) {s k : Nat} {e : Nat × Nat × Nat} (hx : s < 6) (he : (qq α s)[k]? = some e) : S.2 5 (9 * s + k) = nI e.2.2 ∧ S.2 6 (9 * s + k) = nI e.1 ∧ S.2 7 (9 * s + k) = nI e.2.1 := h.2.2.2.2.2.2.2.2.2.2.2.1 s k e hx he
theorem C_8 (h : RC α S) {x : Nat} (hx : x < 12) : S.2 8 x = oI (oo α 2 x) := h.2.2.2.2.2.2.2.2.2.2.2.2.1 x hx
theorem C_9 (h : RC α S) {x : Nat} (hx : x < 12) : S.2 9 x = oI (oo α 3 x) := h.2.2.2.2.2.2.2.2.2.2.2.2.2.1 x hx
theorem C_10 (h : RC α S) {x : Nat} (hx : x < 12) : S.2 10 x = ii α 1 x := h.2.2.2.2.2.2.2.2.2.2.2.2.2.2 x hx
theorem c_place (hA : AI α) (h : RC α S) {s : Nat} (hs : s < nn α 0) : f_X0_placeOf S (nI s) = some (nI (pl α s)) := by
  have := A_ns hA
  unfold f_X0_placeOf
  rw [c_read (by omega) (by decide), ob_v, C_2 h hs]
theorem c_wait (hA : AI α) (h : RC α S) {s : Nat} (hs : s < 6) : f_X0_waitingAt S (nI s) = some (nI (qq α s).length) := by
  have := A_len hA s
  unfold f_X0_waitingAt
  rw [c_read hs (by decide), ob_v, C_4 h hs]
  by_cases c : (qq α s).length = 0
  · rw [c]; rfl
  · rw [if_pos (by rw [i32_0]; exact nI_lt (by omega) (by omega))]
theorem c_pod (h : RC α S) {x : Nat} (hx : x < 24) : f_X0_podAtPlace S (nI x) = some (oI (oo α 0 x)) := by
  unfold f_X0_podAtPlace
  rw [c_read hx (by decide), ob_v, C_0 h hx]
theorem c_goal (h : RC α S) {x : Nat} (hx : x < 12) : f_X0_goalOf S (nI x) = some (oI (oo α 2 x)) := by
  unfold f_X0_goalOf
  rw [c_read hx (by decide), ob_v, C_8 h hx]
theorem c_rider (h : RC α S) {x : Nat} (hx : x < 12) : f_X0_read 12 (S.2 9) (nI x) = some (oI (oo α 3 x)) := by
  rw [c_read hx (by decide), C_9 h hx]
theorem c_berth (h : RC α S) {x : Nat} (hx : x < 18) : f_X0_read 18 (S.2 1) (nI x) = some (oI (oo α 1 x)) := by
  rw [c_read hx (by decide), C_1 h hx]
theorem c_holds (hA : AI α) (h : RC α S) {c : Nat} (hc : c < 18) : f_X0_berthHolds S (nI c) = some (nI (kd α c)) := by
  have := A_np hA
  have := A_ns hA
  unfold f_X0_berthHolds
  rw [c_berth h hc, ob_v]
  cases e : oo α 1 c with
  | none => rw [oI_none, if_pos rfl, kd_0 e]; rfl
  | some p =>
    obtain ⟨_, h2, _, _⟩ := A_1 hA e
    rw [oI_some, if_neg (nI_ne_m1 (by omega)), c_read (by omega) (by decide), ob_v, C_8 h (by omega)]
    cases g : oo α 2 p with
    | none => rw [oI_none, if_pos rfl, kd_1 e g]; rfl
    | some q =>
      obtain ⟨_, _⟩ := A_2 hA g
      rw [oI_some, if_neg (nI_ne_m1 (by omega)), kd_2 e g]; rfl
def bI3 (s : Nat) (o : Option Nat) : Int32 := match o with | none => -1 | some b => nI (3 * s + b)
theorem c_first (hA : AI α) (h : RC α S) {s k : Nat} (hs : s < 6) (hk : k < 3) : f_X0_firstBerth S (nI s) (nI k) = some (bI3 s (fb α s k)) := by
  unfold f_X0_firstBerth
  rw [i3s]
  have := g_search (F := fun n x => f_X0_firstBerth_L4 S n (nI s) (nI k) x) (P := fun c => kd α c == k) (r := fun c => nI c) (d := -1) (N := 3 * s + 3) (fun n i hi => by
    show f_X0_firstBerth_L4 S (n + 1) (nI s) (nI k) (nI i) = _
    rw [f_X0_firstBerth_L4, i3, if_neg (nI_ge hi (by omega)), c_holds hA h (by omega), ob_v]
    by_cases e : kd α i = k
    · rw [if_pos (by rw [e]), if_pos (by rw [e]; simp)]
    · rw [if_neg (fun q => e (nI_inj (Nat.lt_trans kd_lt (by decide)) (by omega) q)), if_neg (by simpa using e), nI_1])
    (fun n => by
      show f_X0_firstBerth_L4 S (n + 1) (nI s) (nI k) (nI (3 * s + 3)) = _
      rw [f_X0_firstBerth_L4, i3, if_pos (nI_le (Nat.le_refl _) (by omega))]) 3 (3 * s) FU rfl (by decide)
  rw [this]
  unfold fb
  have e := ffind_shift (Q := fun c => kd α c == k) (a := 3 * s) (k := 3) (i := 0)
  rw [Nat.add_zero] at e
  rw [e]
  cases ffind (fun b => kd α (3 * s + b) == k) 0 3 <;> rfl
theorem c_first0 (hA : AI α) (h : RC α S) {s : Nat} (hs : s < 6) : f_X0_firstBerth S (nI s) 0 = some (bI3 s (fb α s 0)) := c_first (k := 0) hA h hs (by decide)
theorem c_first1 (hA : AI α) (h : RC α S) {s : Nat} (hs : s < 6) : f_X0_firstBerth S (nI s) 1 = some (bI3 s (fb α s 1)) := c_first (k := 1) hA h hs (by decide)
theorem c_first2 (hA : AI α) (h : RC α S) {s : Nat} (hs : s < 6) : f_X0_firstBerth S (nI s) 2 = some (bI3 s (fb α s 2)) := c_first (k := 2) hA h hs (by decide)
theorem c_empty (hA : AI α) (h : RC α S) {s : Nat} (hs : s < nn α 0) : f_X0_emptyPodsTo S (nI s) = some (com α s) := by
  have h12 := A_np hA
  have h6 := A_ns hA
  unfold f_X0_emptyPodsTo com
  have := g_sum (F := fun n acc x => f_X0_emptyPodsTo_L4 S n (nI s) acc x) (g := fun p => bI (decide (oo α 2 p = some s ∧ oo α 3 p = none))) (fin := fun a => a) (N := nn α 1) (fun n acc i hi => by
    show f_X0_emptyPodsTo_L4 S (n + 1) (nI s) acc (nI i) = f_X0_emptyPodsTo_L4 S n (nI s) _ _
    rw [f_X0_emptyPodsTo_L4, C_np h, if_neg (nI_ge hi (by omega)), c_goal h (by omega), ob_v]
    by_cases e : oo α 2 i = some s
    · rw [if_pos (by rw [e, oI_some]), c_rider h (by omega), ob_v]
      by_cases r : oo α 3 i = none
      · rw [if_pos (by rw [r, oI_none]), nI_1]
        simp [e, r, bI]
      · rw [if_neg (fun q => r ((oI_m1 (fun k hk => by have := A_3 hA hk; have := A_nr hA; omega)).mp q)), nI_1]
        simp [e, r, bI]
    · rw [if_neg (fun q => e ((oI_nI (by omega) (fun k hk => by have := A_2 hA hk; omega)).mp q)), nI_1]
      simp [e, bI])
    (fun n acc => by
      show f_X0_emptyPodsTo_L4 S (n + 1) (nI s) acc (nI (nn α 1)) = _
      rw [f_X0_emptyPodsTo_L4, C_np h, if_pos (nI_le (Nat.le_refl _) (by omega))]) (nn α 1) 0 FU 0 (by omega) (by unfold FU; omega)
  rw [nI_0] at this
  rw [this, Int32.zero_add]
theorem fm_e : ∀ a b : Fin 24, f_J9_floorMod_7cf53 (nI b.val - nI a.val) 24 = some (nI ((b.val + 24 - a.val) % 24)) := by decide +kernel
theorem c_on (hA : AI α) (h : RC α S) {a b : Nat} (ha : a < nn α 0) (hb : b < nn α 0) : f_X0_placesOn S (nI a) (nI b) = some (nI (dst α a b)) := by
  unfold f_X0_placesOn
  rw [c_place hA h hb, ob_v, c_place hA h ha, ob_v, fm_e ⟨pl α a, A_pl hA ha⟩ ⟨pl α b, A_pl hA hb⟩, ob_v]
  rfl
end PURC
def anS (α : AS) (x i : Nat) (cur : Option Nat) : Option Nat :=
  if i = x then cur else if (qq α i).length = 0 then (match fb α i 1 with
    | none => cur
    | some _ => match cur with
      | none => some i
      | some j => if dst α j x ≤ dst α i x then cur else some i) else cur
def anL (α : AS) (x : Nat) : Nat → Nat → Option Nat → Option Nat
  | _, 0, cur => cur
  | i, k + 1, cur => anL α x (i + 1) k (anS α x i cur)
def ans (α : AS) (x : Nat) : Option Nat := anL α x 0 (nn α 0) none
def anD (α : AS) (x : Nat) (cur : Option Nat) : Int32 := match cur with | none => 24 | some j => nI (dst α j x)
theorem dst_lt {α : AS} {i x : Nat} : dst α i x < 24 := Nat.mod_lt _ (by decide)
theorem anS_lt {α : AS} {x i : Nat} {cur : Option Nat} (h : ∀ j, cur = some j → j < nn α 0) (hi : i < nn α 0) : ∀ j, anS α x i cur = some j → j < nn α 0 := by
  intro j
  unfold anS
  by_cases c1 : i = x
  · rw [if_pos c1]; exact h j
  · rw [if_neg c1]
    by_cases c2 : (qq α i).length = 0
    · rw [if_pos c2]
      cases fb α i 1 with
      | none => exact h j
      | some b =>
        cases cur with
        | none => intro q; cases q; exact hi
        | some k =>
          show (if dst α k x ≤ dst α i x then some k else some i) = some j → _
          by_cases c3 : dst α k x ≤ dst α i x
          · rw [if_pos c3]; exact h j
          · rw [if_neg c3]; intro q; cases q; exact hi
    · rw [if_neg c2]; exact h j
theorem c_ansL {α : AS} {S : RS} (hA : AI α) (h : RC α S) {x : Nat} (hx : x < nn α 0) : ∀ k i n cur, i + k = nn α 0 → k < n → (∀ j, cur = some j → j < nn α 0) → f_X0_stationThatAnswers_L8 S n (nI x) (oI cur) (anD α x cur) (nI i) = some (oI (anL α x i k cur)) := by
  have h6 := A_ns hA
  intro k
  induction k with
  | zero =>
    intro i n cur h1 h2 _
    obtain ⟨m, rfl⟩ : ∃ m, n = m + 1 := ⟨n - 1, by omega⟩
    rw [f_X0_stationThatAnswers_L8, C_ns h, if_pos (nI_le (by omega) (by omega))]
    rfl
  | succ k ih =>
    intro i n cur h1 h2 hc
    obtain ⟨m, rfl⟩ : ∃ m, n = m + 1 := ⟨n - 1, by omega⟩
    have hi : i < nn α 0 := by omega
    have hi2 := ih (i + 1) m (anS α x i cur) (by omega) (by omega) (anS_lt hc hi)
    rw [anL, ← hi2, f_X0_stationThatAnswers_L8, C_ns h, if_neg (nI_ge hi (by omega)), c_on hA h hi hx, ob_v, nI_1]
    unfold anS
    by_cases c1 : i = x
    · rw [if_pos (by rw [c1]), if_pos c1]
    · rw [if_neg (fun q => c1 (nI_inj (by omega) (by omega) q)), if_neg c1]
      have hl := A_len hA i
      have hd : dst α i x < 24 := dst_lt
      cases cur with
      | none =>
        have e0 : ¬ anD α x none ≤ nI (dst α i x) := by
          show ¬ (24 : Int32) ≤ _
          rw [i32_24]; exact nI_ge hd (by decide)
        rw [if_neg e0, c_wait hA h (by omega), ob_v]
        by_cases c2 : (qq α i).length = 0
        · rw [if_pos (by rw [c2]; rfl), if_pos c2, c_first1 hA h (by omega), ob_v]
          cases e : fb α i 1 with
          | none => rw [show bI3 i none = -1 from rfl, if_pos rfl]
          | some b =>
            have := (fb_some e).1
            rw [show bI3 i (some b) = nI (3 * i + b) from rfl, if_neg (nI_ne_m1 (by omega))]
            rfl
        · rw [if_neg (fun q => c2 (nI_inj (by omega) (by decide) (q.trans i32_0))), if_neg c2]
      | some j =>
        by_cases c3 : dst α j x ≤ dst α i x
        · rw [if_pos (show anD α x (some j) ≤ nI (dst α i x) from nI_le c3 (by omega))]
          by_cases c2 : (qq α i).length = 0
          · rw [if_pos c2]
            cases fb α i 1 with
            | none => rfl
            | some b => simp only [c3, if_true]
          · rw [if_neg c2]
        · rw [if_neg (show ¬ anD α x (some j) ≤ nI (dst α i x) from nI_ge (by omega) (by have : dst α j x < 24 := dst_lt; omega)), c_wait hA h (by omega), ob_v]
          by_cases c2 : (qq α i).length = 0
          · rw [if_pos (by rw [c2]; rfl), if_pos c2, c_first1 hA h (by omega), ob_v]
            cases e : fb α i 1 with
            | none => rw [show bI3 i none = -1 from rfl, if_pos rfl]
            | some b =>
              have := (fb_some e).1
              rw [show bI3 i (some b) = nI (3 * i + b) from rfl, if_neg (nI_ne_m1 (by omega))]
              simp only [c3, if_false]
              rfl
          · rw [if_neg (fun q => c2 (nI_inj (by omega) (by decide) (q.trans i32_0))), if_neg c2]
theorem c_ans {α : AS} {S : RS} (hA : AI α) (h : RC α S) {x : Nat} (hx : x < nn α 0) : f_X0_stationThatAnswers S (nI x) = some (oI (ans α x)) := by
  have h6 := A_ns hA
  have := c_ansL hA h hx (nn α 0) 0 FU none (by omega) (by unfold FU; omega) (fun j q => by cases q)
  rw [nI_0] at this
  exact this
