-- the pure part: numbers
theorem nI_m1 : (-1 : Int32).toInt = -1 := by decide
theorem nI_ne_m1 {n : Nat} (h : n < 2 ^ 31) : ¬ nI n = -1 := fun e => by
  have := congrArg Int32.toInt e
  rw [nI_toInt h, nI_m1] at this
  omega
theorem nI_inj {a b : Nat} (ha : a < 2 ^ 31) (hb : b < 2 ^ 31) (e : nI a = nI b) : a = b := (nI_eq ha hb).mp e
theorem nI_bad {i n : Nat} (h : i < n) (hn : n < 2 ^ 31) : ¬ (nI i < 0 ∨ n ≤ (nI i).toNatClampNeg) := nI_in h hn
theorem i32_0 : (0 : Int32) = nI 0 := nI_0.symm
def oI (o : Option Nat) : Int32 := match o with | none => -1 | some k => nI k
theorem oI_none : oI none = -1 := rfl
theorem oI_some (k : Nat) : oI (some k) = nI k := rfl
theorem oI_m1 {o : Option Nat} (h : ∀ k, o = some k → k < 2 ^ 31) : oI o = -1 ↔ o = none := by
  cases o with
  | none => exact ⟨fun _ => rfl, fun _ => rfl⟩
  | some k => exact ⟨fun e => absurd e (nI_ne_m1 (h k rfl)), fun e => by cases e⟩
theorem oI_nI {o : Option Nat} {n : Nat} (hn : n < 2 ^ 31) (h : ∀ k, o = some k → k < 2 ^ 31) : oI o = nI n ↔ o = some n := by
  cases o with
  | none => exact ⟨fun e => absurd e.symm (nI_ne_m1 hn), fun e => by cases e⟩
  | some k => exact ⟨fun e => by rw [nI_inj (h k rfl) hn e], fun e => by cases e; rfl⟩
theorem ob_e {α β : Type} {x : Option α} {k : α → Option β} {v : α} (h : x = some v) : ob x k = k v := by rw [h]; rfl
theorem ob2_e {α β γ : Type} {x : Option (α × β)} {k : α → β → Option γ} {v : α} {w : β} (h : x = some (v, w)) : ob2 x k = k v w := by rw [h]; rfl
theorem lt_e {α β : Type} {x : α} {k : α → β} : lt x k = k x := rfl
-- the class's rows
theorem c_read {n i : Nat} {f : Nat → Int32} (h : i < n) (hn : n < 2 ^ 31) : f_X0_read n f (nI i) = some (f i) := by
  unfold f_X0_read
  rw [if_neg (nI_pos (by omega)), if_neg (nI_ge h hn), if_neg (nI_bad h hn), nI_clamp (by omega)]
theorem c_write {n i : Nat} {f : Nat → Int32} {v : Int32} (h : i < n) (hn : n < 2 ^ 31) : f_X0_write n f (nI i) v = some (upd f i v) := by
  unfold f_X0_write
  rw [if_neg (nI_pos (by omega)), if_neg (nI_ge h hn), if_neg (nI_bad h hn), nI_clamp (by omega)]
  rfl
theorem c_read_m1 {n : Nat} {f : Nat → Int32} : f_X0_read n f (-1) = some (-1) := by
  unfold f_X0_read
  rw [if_pos (by decide)]
theorem c_write_m1 {n : Nat} {f : Nat → Int32} {v : Int32} : f_X0_write n f (-1) v = some f := by
  unfold f_X0_write
  rw [if_pos (by decide)]
def S_at (S : RS) (k i : Nat) : Int32 := S.2 k i
theorem sR_at {S : RS} {k k2 i : Nat} {f : Nat → Int32} : (sR S k f).2 k2 i = if k2 = k then f i else S.2 k2 i := by
  show (va_up S.2 k f) k2 i = _
  unfold va_up
  split <;> rfl
theorem sR_1 {S : RS} {k : Nat} {f : Nat → Int32} : (sR S k f).1 = S.1 := rfl
theorem sI_at {S : RS} {k k2 : Nat} {x : Int32} : (sI S k x).1 k2 = if k2 = k then x else S.1 k2 := rfl
theorem sI_2 {S : RS} {k : Nat} {x : Int32} : (sI S k x).2 = S.2 := rfl
theorem upd_at {f : Nat → Int32} {k j : Nat} {x : Int32} : upd f k x j = if j = k then x else f j := rfl
-- the reference's rows
def fl (M : RS) (p w : Nat) : Int32 := M.2 0 (7 * p + w)
def hl (M : RS) (s w : Nat) : Int32 := M.2 1 (3 * s + w)
def pp (M : RS) (s k w : Nat) : Int32 := M.2 2 (3 * (9 * s + k) + w)
theorem x7 (p w : Nat) : (7 * nI p) + nI w = nI (7 * p + w) := by rw [show (7 : Int32) = nI 7 from by decide, pk_mul, nI_add]
theorem x3 (p w : Nat) : (3 * nI p) + nI w = nI (3 * p + w) := by rw [show (3 : Int32) = nI 3 from by decide, pk_mul, nI_add]
theorem x9 (s k : Nat) : (9 * nI s) + nI k = nI (9 * s + k) := by rw [show (9 : Int32) = nI 9 from by decide, pk_mul, nI_add]
theorem y9 (s k : Nat) : (nI s * 9) + nI k = nI (9 * s + k) := by rw [show (9 : Int32) = nI 9 from by decide, pk_mul, nI_add, Nat.mul_comm]
theorem m_po {M : RS} {p w : Nat} (hp : p < 12) (hw : w < 7) : f_X2_po M (nI p) (nI w) = some (fl M p w) := by
  unfold f_X2_po
  rw [x7, if_neg (nI_bad (by omega) (by omega)), nI_clamp (by omega)]
  rfl
def mF (M : RS) (p w : Nat) (v : Int32) : RS := sR M 0 (upd (M.2 0) (7 * p + w) v)
def mH (M : RS) (s w : Nat) (v : Int32) : RS := sR M 1 (upd (M.2 1) (3 * s + w) v)
def mP (M : RS) (s k w : Nat) (v : Int32) : RS := sR M 2 (upd (M.2 2) (3 * (9 * s + k) + w) v)
def mN (M : RS) (k : Nat) (v : Int32) : RS := sR M 3 (upd (M.2 3) k v)
theorem m_put {M : RS} {p w : Nat} {v : Int32} (hp : p < 12) (hw : w < 7) : f_X2_put M (nI p) (nI w) v = some (mF M p w v) := by
  unfold f_X2_put
  rw [x7, if_neg (nI_bad (by omega) (by omega)), nI_clamp (by omega)]
  rfl
theorem m_st {M : RS} {s w : Nat} (hs : s < 6) (hw : w < 3) : f_X2_st M (nI s) (nI w) = some (hl M s w) := by
  unfold f_X2_st
  rw [x3, if_neg (nI_bad (by omega) (by omega)), nI_clamp (by omega)]
  rfl
theorem m_pe {M : RS} {s k w : Nat} (hs : s < 6) (hk : k < 9) (hw : w < 3) : f_X2_pe M (nI s) (nI k) (nI w) = some (pp M s k w) := by
  unfold f_X2_pe
  rw [x9, x3, if_neg (nI_bad (by omega) (by omega)), nI_clamp (by omega)]
  rfl
theorem fl_mF {M : RS} {p w p2 w2 : Nat} {v : Int32} (hw : w < 7) (hw2 : w2 < 7) : fl (mF M p w v) p2 w2 = if p2 = p ∧ w2 = w then v else fl M p2 w2 := by
  unfold fl mF
  rw [sR_at, if_pos rfl, upd_at]
  by_cases h : p2 = p ∧ w2 = w
  · rw [if_pos h, if_pos (by rw [h.1, h.2])]
  · rw [if_neg h, if_neg (fun e => h (by omega))]
theorem fl_mH {M : RS} {s w p2 w2 : Nat} {v : Int32} : fl (mH M s w v) p2 w2 = fl M p2 w2 := rfl
theorem fl_mP {M : RS} {s k w p2 w2 : Nat} {v : Int32} : fl (mP M s k w v) p2 w2 = fl M p2 w2 := rfl
theorem fl_mN {M : RS} {k p2 w2 : Nat} {v : Int32} : fl (mN M k v) p2 w2 = fl M p2 w2 := rfl
theorem hl_mF {M : RS} {p w s2 w2 : Nat} {v : Int32} : hl (mF M p w v) s2 w2 = hl M s2 w2 := rfl
theorem hl_mH {M : RS} {s w s2 w2 : Nat} {v : Int32} (hw : w < 3) (hw2 : w2 < 3) : hl (mH M s w v) s2 w2 = if s2 = s ∧ w2 = w then v else hl M s2 w2 := by
  unfold hl mH
  rw [sR_at, if_pos rfl, upd_at]
  by_cases h : s2 = s ∧ w2 = w
  · rw [if_pos h, if_pos (by rw [h.1, h.2])]
  · rw [if_neg h, if_neg (fun e => h (by omega))]
theorem hl_mP {M : RS} {s k w s2 w2 : Nat} {v : Int32} : hl (mP M s k w v) s2 w2 = hl M s2 w2 := rfl
theorem hl_mN {M : RS} {k s2 w2 : Nat} {v : Int32} : hl (mN M k v) s2 w2 = hl M s2 w2 := rfl
theorem pp_mF {M : RS} {p w s2 k2 w2 : Nat} {v : Int32} : pp (mF M p w v) s2 k2 w2 = pp M s2 k2 w2 := rfl
theorem pp_mH {M : RS} {s w s2 k2 w2 : Nat} {v : Int32} : pp (mH M s w v) s2 k2 w2 = pp M s2 k2 w2 := rfl
theorem pp_mN {M : RS} {k s2 k2 w2 : Nat} {v : Int32} : pp (mN M k v) s2 k2 w2 = pp M s2 k2 w2 := rfl
theorem nu_mF {M : RS} {p w j : Nat} {v : Int32} : (mF M p w v).2 3 j = M.2 3 j := rfl
theorem nu_mH {M : RS} {s w j : Nat} {v : Int32} : (mH M s w v).2 3 j = M.2 3 j := rfl
theorem nu_mP {M : RS} {s k w j : Nat} {v : Int32} : (mP M s k w v).2 3 j = M.2 3 j := rfl
theorem nu_mN {M : RS} {k j : Nat} {v : Int32} : (mN M k v).2 3 j = if j = k then v else M.2 3 j := by
  unfold mN
  rw [sR_at, if_pos rfl, upd_at]
theorem n1_mF {M : RS} {p w : Nat} {v : Int32} : (mF M p w v).1 = M.1 := rfl
theorem n1_mH {M : RS} {s w : Nat} {v : Int32} : (mH M s w v).1 = M.1 := rfl
theorem n1_mP {M : RS} {s k w : Nat} {v : Int32} : (mP M s k w v).1 = M.1 := rfl
theorem n1_mN {M : RS} {k : Nat} {v : Int32} : (mN M k v).1 = M.1 := rfl
-- what both are: α
abbrev AS : Type := (Nat → Nat) × (Nat → Nat → Option Nat) × (Nat → Nat → Int32) × (Nat → List (Nat × Nat × Nat))
def nn (α : AS) (k : Nat) : Nat := α.1 k
def oo (α : AS) (k j : Nat) : Option Nat := α.2.1 k j
def ii (α : AS) (k j : Nat) : Int32 := α.2.2.1 k j
def qq (α : AS) (s : Nat) : List (Nat × Nat × Nat) := α.2.2.2 s
def aN (α : AS) (k : Nat) (v : Nat) : AS := (fun j => if j = k then v else α.1 j, α.2)
def aO (α : AS) (k j : Nat) (v : Option Nat) : AS := (α.1, fun k2 j2 => if k2 = k ∧ j2 = j then v else α.2.1 k2 j2, α.2.2)
def aI (α : AS) (k j : Nat) (v : Int32) : AS := (α.1, α.2.1, fun k2 j2 => if k2 = k ∧ j2 = j then v else α.2.2.1 k2 j2, α.2.2.2)
def aQ (α : AS) (s : Nat) (v : List (Nat × Nat × Nat)) : AS := (α.1, α.2.1, α.2.2.1, fun s2 => if s2 = s then v else α.2.2.2 s2)
theorem nn_aN {α : AS} {k v j : Nat} : nn (aN α k v) j = if j = k then v else nn α j := rfl
theorem nn_aO {α : AS} {k j k2 : Nat} {v : Option Nat} : nn (aO α k j v) k2 = nn α k2 := rfl
theorem nn_aI {α : AS} {k j k2 : Nat} {v : Int32} : nn (aI α k j v) k2 = nn α k2 := rfl
theorem nn_aQ {α : AS} {s k2 : Nat} {v : List (Nat × Nat × Nat)} : nn (aQ α s v) k2 = nn α k2 := rfl
theorem oo_aN {α : AS} {k v k2 j2 : Nat} : oo (aN α k v) k2 j2 = oo α k2 j2 := rfl
theorem oo_aO {α : AS} {k j k2 j2 : Nat} {v : Option Nat} : oo (aO α k j v) k2 j2 = if k2 = k ∧ j2 = j then v else oo α k2 j2 := rfl
theorem oo_aI {α : AS} {k j k2 j2 : Nat} {v : Int32} : oo (aI α k j v) k2 j2 = oo α k2 j2 := rfl
theorem oo_aQ {α : AS} {s k2 j2 : Nat} {v : List (Nat × Nat × Nat)} : oo (aQ α s v) k2 j2 = oo α k2 j2 := rfl
theorem ii_aN {α : AS} {k v k2 j2 : Nat} : ii (aN α k v) k2 j2 = ii α k2 j2 := rfl
theorem ii_aO {α : AS} {k j k2 j2 : Nat} {v : Option Nat} : ii (aO α k j v) k2 j2 = ii α k2 j2 := rfl
theorem ii_aI {α : AS} {k j k2 j2 : Nat} {v : Int32} : ii (aI α k j v) k2 j2 = if k2 = k ∧ j2 = j then v else ii α k2 j2 := rfl
theorem ii_aQ {α : AS} {s k2 j2 : Nat} {v : List (Nat × Nat × Nat)} : ii (aQ α s v) k2 j2 = ii α k2 j2 := rfl
theorem qq_aN {α : AS} {k v s : Nat} : qq (aN α k v) s = qq α s := rfl
theorem qq_aO {α : AS} {k j s : Nat} {v : Option Nat} : qq (aO α k j v) s = qq α s := rfl
theorem qq_aI {α : AS} {k j s : Nat} {v : Int32} : qq (aI α k j v) s = qq α s := rfl
theorem qq_aQ {α : AS} {s s2 : Nat} {v : List (Nat × Nat × Nat)} : qq (aQ α s v) s2 = if s2 = s then v else qq α s2 := rfl
theorem some_ne {α : Type} {a b : α} (h : a ≠ b) : (some a : Option α) ≠ some b := fun e => h (Option.some.inj e)
-- loops
def ffind (P : Nat → Bool) : Nat → Nat → Option Nat
  | _, 0 => none
  | i, k + 1 => if P i = true then some i else ffind P (i + 1) k
def isum (g : Nat → Int32) : Nat → Nat → Int32
  | _, 0 => 0
  | i, k + 1 => g i + isum g (i + 1) k
theorem ffind_some {P : Nat → Bool} {j : Nat} : ∀ {k i : Nat}, ffind P i k = some j → i ≤ j ∧ j < i + k ∧ P j = true ∧ ∀ m, i ≤ m → m < j → P m = false := by
  intro k
  induction k with
  | zero => intro i h; cases h
  | succ k ih =>
    intro i h
    rw [ffind] at h
    by_cases c : P i = true
    · rw [if_pos c] at h
      cases h
      exact ⟨Nat.le_refl _, by omega, c, fun m h1 h2 => by omega⟩
    · rw [if_neg c] at h
      obtain ⟨h1, h2, h3, h4⟩ := ih h
      refine ⟨by omega, by omega, h3, fun m m1 m2 => ?_⟩
      rcases Nat.eq_or_lt_of_le m1 with e | e
      · subst e; exact Bool.eq_false_iff.mpr c
      · exact h4 m e m2
theorem ffind_none {P : Nat → Bool} : ∀ {k i : Nat}, ffind P i k = none → ∀ m, i ≤ m → m < i + k → P m = false := by
  intro k
  induction k with
  | zero => intro i _ m h1 h2; omega
  | succ k ih =>
    intro i h m h1 h2
    rw [ffind] at h
    by_cases c : P i = true
    · rw [if_pos c] at h; cases h
    · rw [if_neg c] at h
      rcases Nat.eq_or_lt_of_le h1 with e | e
      · subst e; exact Bool.eq_false_iff.mpr c
      · exact ih h m e (by omega)
/-- at most one: the search finds it -/
theorem ffind_one {P : Nat → Bool} {k : Nat} {o : Option Nat} (h : ∀ j, j < k → (P j = true ↔ o = some j)) (hk : ∀ j, o = some j → j < k) : ffind P 0 k = o := by
  cases hf : ffind P 0 k with
  | none =>
    cases o with
    | none => rfl
    | some j =>
      have := ffind_none hf j (Nat.zero_le _) (by have := hk j rfl; omega)
      rw [(h j (hk j rfl)).mpr rfl] at this
      cases this
  | some j =>
    obtain ⟨_, h2, h3, _⟩ := ffind_some hf
    exact ((h j (by omega)).mp h3).symm
theorem ffind_ext {P Q : Nat → Bool} : ∀ {k i : Nat}, (∀ m, i ≤ m → m < i + k → P m = Q m) → ffind P i k = ffind Q i k := by
  intro k
  induction k with
  | zero => intro i _; rfl
  | succ k ih =>
    intro i h
    rw [ffind, ffind, h i (Nat.le_refl _) (by omega), ih (fun m h1 h2 => h m (by omega) (by omega))]
theorem isum_ext {f g : Nat → Int32} : ∀ {k i : Nat}, (∀ m, i ≤ m → m < i + k → f m = g m) → isum f i k = isum g i k := by
  intro k
  induction k with
  | zero => intro i _; rfl
  | succ k ih =>
    intro i h
    rw [isum, isum, h i (Nat.le_refl _) (by omega), ih (fun m h1 h2 => h m (by omega) (by omega))]
theorem i32_az (a : Int32) : a + 0 = a := Int32.add_zero a
theorem isum_add {f g : Nat → Int32} : ∀ {k i : Nat}, isum (fun j => f j + g j) i k = isum f i k + isum g i k := by
  intro k
  induction k with
  | zero => intro i; exact (Int32.add_zero 0).symm
  | succ k ih =>
    intro i
    rw [isum, isum, isum, ih]
    simp only [Int32.add_assoc]
    rw [← Int32.add_assoc (g i), Int32.add_comm (g i) (isum f (i + 1) k), Int32.add_assoc]
theorem isum_0 : ∀ {k i : Nat}, isum (fun _ => 0) i k = 0 := by
  intro k
  induction k with
  | zero => intro i; rfl
  | succ k ih => intro i; rw [isum, ih]; rfl
def bI (b : Bool) : Int32 := if b = true then 1 else 0
theorem isum_one {P : Nat → Bool} {o : Option Nat} : ∀ {k i : Nat}, (∀ j, i ≤ j → j < i + k → (P j = true ↔ o = some j)) → (∀ j, o = some j → i ≤ j ∧ j < i + k) → isum (fun j => bI (P j)) i k = bI o.isSome := by
  intro k
  induction k with
  | zero =>
    intro i _ h
    cases o with
    | none => rfl
    | some j => have := h j rfl; omega
  | succ k ih =>
    intro i h1 h2
    rw [isum]
    by_cases c : o = some i
    · have h0 : P i = true := (h1 i (Nat.le_refl _) (by omega)).mpr c
      have hz : isum (fun j => bI (P j)) (i + 1) k = 0 := by
        rw [← isum_0 (k := k) (i := i + 1)]
        refine isum_ext (fun m m1 m2 => ?_)
        have : P m = false := Bool.eq_false_iff.mpr (fun q => by
          have e := (h1 m (by omega) (by omega)).mp q
          rw [c] at e
          have := Option.some.inj e
          omega)
        rw [this]; rfl
      rw [hz, h0, c]
      rfl
    · have h0 : P i = false := Bool.eq_false_iff.mpr (fun q => c ((h1 i (Nat.le_refl _) (by omega)).mp q))
      have h3 : ∀ j, o = some j → i + 1 ≤ j ∧ j < i + 1 + k := fun j q => by
        have := h2 j q
        have hne : j ≠ i := fun e => c (by rw [q, e])
        omega
      rw [ih (fun j a b => h1 j (by omega) (by omega)) h3, h0]
      show (0 : Int32) + _ = _
      exact Int32.zero_add _
theorem g_search {β : Type} (F : Nat → Int32 → Option β) (P : Nat → Bool) (r : Nat → β) (d : β) (N : Nat) (hs : ∀ n i, i < N → F (n + 1) (nI i) = if P i = true then some (r i) else F n (nI (i + 1))) (he : ∀ n, F (n + 1) (nI N) = some d) :
    ∀ k i n, i + k = N → k < n → F n (nI i) = some (match ffind P i k with | none => d | some j => r j) := by
  intro k
  induction k with
  | zero =>
    intro i n h1 h2
    obtain ⟨m, rfl⟩ : ∃ m, n = m + 1 := ⟨n - 1, by omega⟩
    have : i = N := by omega
    subst this
    exact he m
  | succ k ih =>
    intro i n h1 h2
    obtain ⟨m, rfl⟩ : ∃ m, n = m + 1 := ⟨n - 1, by omega⟩
    rw [hs m i (by omega), ffind]
    by_cases c : P i = true
    · rw [if_pos c, if_pos c]
    · rw [if_neg c, if_neg c]
      exact ih (i + 1) m (by omega) (by omega)
theorem g_sum {β : Type} (F : Nat → Int32 → Int32 → Option β) (g : Nat → Int32) (fin : Int32 → β) (N : Nat) (hs : ∀ n acc i, i < N → F (n + 1) acc (nI i) = F n (acc + g i) (nI (i + 1))) (he : ∀ n acc, F (n + 1) acc (nI N) = some (fin acc)) :
    ∀ k i n acc, i + k = N → k < n → F n acc (nI i) = some (fin (acc + isum g i k)) := by
  intro k
  induction k with
  | zero =>
    intro i n acc h1 h2
    obtain ⟨m, rfl⟩ : ∃ m, n = m + 1 := ⟨n - 1, by omega⟩
    have : i = N := by omega
    subst this
    rw [he m acc, isum, Int32.add_zero]
  | succ k ih =>
    intro i n acc h1 h2
    obtain ⟨m, rfl⟩ : ∃ m, n = m + 1 := ⟨n - 1, by omega⟩
    rw [hs m acc i (by omega), isum, ← Int32.add_assoc]
    exact ih (i + 1) m _ (by omega) (by omega)
/-- the class is α -/
def RC (α : AS) (S : RS) : Prop :=
  S.1 0 = nI (nn α 2) ∧ S.1 1 = nI (nn α 0) ∧ S.1 2 = nI (nn α 1) ∧ S.1 3 = nI (nn α 3) ∧ S.1 4 = ii α 2 0 ∧ S.1 5 = ii α 2 1 ∧
  (∀ x, x < 24 → S.2 0 x = oI (oo α 0 x)) ∧ (∀ c, c < 18 → S.2 1 c = oI (oo α 1 c)) ∧ (∀ s, s < nn α 0 → S.2 2 s = nI (nn α (10 + s))) ∧ (∀ s, s < 6 → S.2 3 s = ii α 0 s) ∧ (∀ s, s < 6 → S.2 4 s = nI (qq α s).length) ∧
  (∀ s k e, s < 6 → (qq α s)[k]? = some e → S.2 5 (9 * s + k) = nI e.2.2 ∧ S.2 6 (9 * s + k) = nI e.1 ∧ S.2 7 (9 * s + k) = nI e.2.1) ∧
  (∀ p, p < 12 → S.2 8 p = oI (oo α 2 p)) ∧ (∀ p, p < 12 → S.2 9 p = oI (oo α 3 p)) ∧ (∀ p, p < 12 → S.2 10 p = ii α 1 p)
def rk (mk : Option Nat) (o : Option Nat) : Int32 := match o with | none => 0 | some r => if mk = some r then 2 else 1
def mkI (mk : Option Nat) (r : Nat) : Int32 := if mk = some r then 1 else 0
/-- where a pod is -/
def LOC (α : AS) (M : RS) (p : Nat) : Prop := (∃ x, x < 24 ∧ oo α 0 x = some p ∧ fl M p 0 = nI x ∧ fl M p 1 = -1 ∧ fl M p 2 = -1) ∨ (∃ s b, s < 6 ∧ b < 3 ∧ oo α 1 (3 * s + b) = some p ∧ fl M p 0 = -1 ∧ fl M p 1 = nI s ∧ fl M p 2 = nI b)
/-- the reference is α; mk: the rider that is marked -/
def RM (mk : Option Nat) (α : AS) (M : RS) : Prop :=
  (M.1 0 = 0 ∧ M.1 1 = nI (nn α 0)) ∧ M.1 2 = nI (nn α 1) ∧ M.2 3 0 = nI (nn α 2) ∧ M.2 3 1 = ii α 2 0 ∧ M.2 3 2 = ii α 2 1 ∧ M.2 3 3 = ii α 4 0 ∧
  (∀ s, s < nn α 0 → hl M s 0 = nI (nn α (10 + s))) ∧ (∀ s, s < 6 → hl M s 1 = nI (qq α s).length) ∧ (∀ s, s < 6 → hl M s 2 = ii α 0 s) ∧
  (∀ s k e, s < 6 → (qq α s)[k]? = some e → pp M s k 0 = nI e.1 ∧ pp M s k 1 = nI (nn α 2) - nI e.2.1 ∧ pp M s k 2 = mkI mk e.2.2) ∧
  (∀ p, p < nn α 1 → fl M p 3 = oI (oo α 2 p)) ∧ (∀ p, p < nn α 1 → fl M p 4 = rk mk (oo α 3 p)) ∧ (∀ p, p < nn α 1 → fl M p 5 = ii α 1 p) ∧ (∀ p, p < nn α 1 → fl M p 6 = ii α 3 p) ∧
  (∀ p, p < nn α 1 → LOC α M p)
/-- what always holds; place of station s: nn α (10 + s) -/
def AI (α : AS) : Prop :=
  nn α 0 ≤ 6 ∧ nn α 1 ≤ 12 ∧ nn α 2 < 2 ^ 29 ∧ nn α 3 < 2 ^ 29 ∧
  (∀ s, s < nn α 0 → nn α (10 + s) < 24) ∧
  (∀ x p, oo α 0 x = some p → x < 24 ∧ p < nn α 1) ∧ (∀ c p, oo α 1 c = some p → c < 18 ∧ p < nn α 1 ∧ c / 3 < nn α 0 ∧ oo α 2 p ≠ some (c / 3)) ∧
  (∀ x y p, oo α 0 x = some p → oo α 0 y = some p → x = y) ∧ (∀ x y p, oo α 1 x = some p → oo α 1 y = some p → x = y) ∧ (∀ x y p, oo α 0 x = some p → oo α 1 y ≠ some p) ∧
  (∀ p g, oo α 2 p = some g → g < nn α 0 ∧ p < nn α 1) ∧ (∀ p r, oo α 3 p = some r → r < nn α 3 ∧ p < nn α 1) ∧ (∀ p, oo α 2 p = none → oo α 3 p = none) ∧
  (∀ s, (qq α s).length ≤ 9) ∧ (∀ s e, e ∈ qq α s → e.1 < nn α 0 ∧ e.1 ≠ s ∧ e.2.2 < nn α 3 ∧ s < nn α 0) ∧ (∀ p, nn α 1 ≤ p → ii α 1 p = 0 ∧ ii α 3 p = 0)
theorem RC0 {α : AS} {S : RS} {x : Nat} {v : Option Nat} (h : RC α S) : RC (aO α 0 x v) (sR S 0 (upd (S.2 0) x (oI v))) := by
  obtain ⟨h0, h1, h2, h3, h4, h5, r0, r1, r2, r3, r4, r5, r8, r9, r10⟩ := h
  refine ⟨h0, h1, h2, h3, h4, h5, ?_, r1, r2, r3, r4, r5, r8, r9, r10⟩
  · intro y hy
    show (if y = x then oI v else S.2 0 y) = oI (if 0 = 0 ∧ y = x then v else oo α 0 y)
    by_cases e : y = x
    · subst e; simp
    · simp only [e, and_false, if_false]; exact r0 y hy
theorem RC1 {α : AS} {S : RS} {x : Nat} {v : Option Nat} (h : RC α S) : RC (aO α 1 x v) (sR S 1 (upd (S.2 1) x (oI v))) := by
  obtain ⟨h0, h1, h2, h3, h4, h5, r0, r1, r2, r3, r4, r5, r8, r9, r10⟩ := h
  refine ⟨h0, h1, h2, h3, h4, h5, r0, ?_, r2, r3, r4, r5, r8, r9, r10⟩
  · intro y hy
    show (if y = x then oI v else S.2 1 y) = oI (if 1 = 1 ∧ y = x then v else oo α 1 y)
    by_cases e : y = x
    · subst e; simp
    · simp only [e, and_false, if_false]; exact r1 y hy
theorem RC8 {α : AS} {S : RS} {x : Nat} {v : Option Nat} (h : RC α S) : RC (aO α 2 x v) (sR S 8 (upd (S.2 8) x (oI v))) := by
  obtain ⟨h0, h1, h2, h3, h4, h5, r0, r1, r2, r3, r4, r5, r8, r9, r10⟩ := h
  refine ⟨h0, h1, h2, h3, h4, h5, r0, r1, r2, r3, r4, r5, ?_, r9, r10⟩
  · intro y hy
    show (if y = x then oI v else S.2 8 y) = oI (if 2 = 2 ∧ y = x then v else oo α 2 y)
    by_cases e : y = x
    · subst e; simp
    · simp only [e, and_false, if_false]; exact r8 y hy
theorem RC9 {α : AS} {S : RS} {x : Nat} {v : Option Nat} (h : RC α S) : RC (aO α 3 x v) (sR S 9 (upd (S.2 9) x (oI v))) := by
  obtain ⟨h0, h1, h2, h3, h4, h5, r0, r1, r2, r3, r4, r5, r8, r9, r10⟩ := h
  refine ⟨h0, h1, h2, h3, h4, h5, r0, r1, r2, r3, r4, r5, r8, ?_, r10⟩
  · intro y hy
    show (if y = x then oI v else S.2 9 y) = oI (if 3 = 3 ∧ y = x then v else oo α 3 y)
    by_cases e : y = x
    · subst e; simp
    · simp only [e, and_false, if_false]; exact r9 y hy
theorem RC3 {α : AS} {S : RS} {x : Nat} {v : Int32} (h : RC α S) : RC (aI α 0 x v) (sR S 3 (upd (S.2 3) x v)) := by
  obtain ⟨h0, h1, h2, h3, h4, h5, r0, r1, r2, r3, r4, r5, r8, r9, r10⟩ := h
  refine ⟨h0, h1, h2, h3, h4, h5, r0, r1, r2, ?_, r4, r5, r8, r9, r10⟩
  · intro y hy
    show (if y = x then v else S.2 3 y) = (if 0 = 0 ∧ y = x then v else ii α 0 y)
    by_cases e : y = x
    · subst e; simp
    · simp only [e, and_false, if_false]; exact r3 y hy
theorem RC10 {α : AS} {S : RS} {x : Nat} {v : Int32} (h : RC α S) : RC (aI α 1 x v) (sR S 10 (upd (S.2 10) x v)) := by
  obtain ⟨h0, h1, h2, h3, h4, h5, r0, r1, r2, r3, r4, r5, r8, r9, r10⟩ := h
  refine ⟨h0, h1, h2, h3, h4, h5, r0, r1, r2, r3, r4, r5, r8, r9, ?_⟩
  · intro y hy
    show (if y = x then v else S.2 10 y) = (if 1 = 1 ∧ y = x then v else ii α 1 y)
    by_cases e : y = x
    · subst e; simp
    · simp only [e, and_false, if_false]; exact r10 y hy
theorem RCa {α : AS} {S : RS} {v : Int32} (h : RC α S) : RC (aI α 2 0 v) (sI S 4 v) := by
  obtain ⟨h0, h1, h2, h3, h4, h5, r0, r1, r2, r3, r4, r5, r8, r9, r10⟩ := h
  refine ⟨h0, h1, h2, h3, ?_, h5, r0, r1, r2, r3, r4, r5, r8, r9, r10⟩
  · rfl
theorem RCw {α : AS} {S : RS} {v : Int32} (h : RC α S) : RC (aI α 2 1 v) (sI S 5 v) := by
  obtain ⟨h0, h1, h2, h3, h4, h5, r0, r1, r2, r3, r4, r5, r8, r9, r10⟩ := h
  refine ⟨h0, h1, h2, h3, h4, ?_, r0, r1, r2, r3, r4, r5, r8, r9, r10⟩
  · rfl
theorem RCt {α : AS} {S : RS} (h : RC α S) : RC (aN α 2 (nn α 2 + 1)) (sI S 0 (S.1 0 + 1)) := by
  obtain ⟨h0, h1, h2, h3, h4, h5, r0, r1, r2, r3, r4, r5, r8, r9, r10⟩ := h
  refine ⟨?_, h1, h2, h3, h4, h5, r0, r1, ?_, r3, r4, r5, r8, r9, r10⟩
  · show S.1 0 + 1 = nI (nn α 2 + 1)
    rw [h0, nI_1]
  · intro s hs
    rw [nn_aN, if_neg (by omega)]; exact r2 s hs
theorem RCi3 {α : AS} {S : RS} {x : Nat} {v : Int32} (h : RC α S) : RC (aI α 3 x v) S := by
  obtain ⟨h0, h1, h2, h3, h4, h5, r0, r1, r2, r3, r4, r5, r8, r9, r10⟩ := h
  refine ⟨h0, h1, h2, h3, h4, h5, r0, r1, r2, r3, r4, r5, r8, r9, r10⟩
theorem RCi4 {α : AS} {S : RS} {x : Nat} {v : Int32} (h : RC α S) : RC (aI α 4 x v) S := by
  obtain ⟨h0, h1, h2, h3, h4, h5, r0, r1, r2, r3, r4, r5, r8, r9, r10⟩ := h
  refine ⟨h0, h1, h2, h3, h4, h5, r0, r1, r2, r3, r4, r5, r8, r9, r10⟩
theorem RM3 {mk : Option Nat} {α : AS} {M : RS} {x : Nat} {v : Option Nat} (h : RM mk α M) : RM mk (aO α 2 x v) (mF M x 3 (oI v)) := by
  obtain ⟨k1, k2, t0, t1, t2, t3, s0, s1, s2, qs, f3, f4, f5, f6, lc⟩ := h
  refine ⟨k1, k2, t0, t1, t2, t3, s0, s1, s2, qs, ?_, ?_, ?_, ?_, ?_⟩
  · intro y hy
    rw [fl_mF (by decide) (by decide)]
    show _ = oI (if 2 = 2 ∧ y = x then v else oo α 2 y)
    by_cases e : y = x
    · subst e; simp
    · simp only [e, and_false, false_and, if_false]; exact f3 y hy
  · intro y hy
    rw [fl_mF (by decide) (by decide), if_neg (fun h => absurd h.2 (by decide))]; exact f4 y hy
  · intro y hy
    rw [fl_mF (by decide) (by decide), if_neg (fun h => absurd h.2 (by decide))]; exact f5 y hy
  · intro y hy
    rw [fl_mF (by decide) (by decide), if_neg (fun h => absurd h.2 (by decide))]; exact f6 y hy
  · intro y hy
    rcases lc y hy with ⟨x, a1, a2, a3, a4, a5⟩ | ⟨s, b, a1, a2, a3, a4, a5, a6⟩
    · refine Or.inl ⟨x, a1, a2, ?_, ?_, ?_⟩ <;> rw [fl_mF (by decide) (by decide), if_neg (fun h => absurd h.2 (by decide))] <;> assumption
    · refine Or.inr ⟨s, b, a1, a2, a3, ?_, ?_, ?_⟩ <;> rw [fl_mF (by decide) (by decide), if_neg (fun h => absurd h.2 (by decide))] <;> assumption
theorem RM4 {mk : Option Nat} {α : AS} {M : RS} {x : Nat} {v : Option Nat} (h : RM mk α M) : RM mk (aO α 3 x v) (mF M x 4 (rk mk v)) := by
  obtain ⟨k1, k2, t0, t1, t2, t3, s0, s1, s2, qs, f3, f4, f5, f6, lc⟩ := h
  refine ⟨k1, k2, t0, t1, t2, t3, s0, s1, s2, qs, ?_, ?_, ?_, ?_, ?_⟩
  · intro y hy
    rw [fl_mF (by decide) (by decide), if_neg (fun h => absurd h.2 (by decide))]; exact f3 y hy
  · intro y hy
    rw [fl_mF (by decide) (by decide)]
    show _ = rk mk (if 3 = 3 ∧ y = x then v else oo α 3 y)
    by_cases e : y = x
    · subst e; simp
    · simp only [e, and_false, false_and, if_false]; exact f4 y hy
  · intro y hy
    rw [fl_mF (by decide) (by decide), if_neg (fun h => absurd h.2 (by decide))]; exact f5 y hy
  · intro y hy
    rw [fl_mF (by decide) (by decide), if_neg (fun h => absurd h.2 (by decide))]; exact f6 y hy
  · intro y hy
    rcases lc y hy with ⟨x, a1, a2, a3, a4, a5⟩ | ⟨s, b, a1, a2, a3, a4, a5, a6⟩
    · refine Or.inl ⟨x, a1, a2, ?_, ?_, ?_⟩ <;> rw [fl_mF (by decide) (by decide), if_neg (fun h => absurd h.2 (by decide))] <;> assumption
    · refine Or.inr ⟨s, b, a1, a2, a3, ?_, ?_, ?_⟩ <;> rw [fl_mF (by decide) (by decide), if_neg (fun h => absurd h.2 (by decide))] <;> assumption
theorem RM5 {mk : Option Nat} {α : AS} {M : RS} {x : Nat} {v : Int32} (h : RM mk α M) : RM mk (aI α 1 x v) (mF M x 5 v) := by
  obtain ⟨k1, k2, t0, t1, t2, t3, s0, s1, s2, qs, f3, f4, f5, f6, lc⟩ := h
  refine ⟨k1, k2, t0, t1, t2, t3, s0, s1, s2, qs, ?_, ?_, ?_, ?_, ?_⟩
  · intro y hy
    rw [fl_mF (by decide) (by decide), if_neg (fun h => absurd h.2 (by decide))]; exact f3 y hy
  · intro y hy
    rw [fl_mF (by decide) (by decide), if_neg (fun h => absurd h.2 (by decide))]; exact f4 y hy
  · intro y hy
    rw [fl_mF (by decide) (by decide)]
    show _ = (if 1 = 1 ∧ y = x then v else ii α 1 y)
    by_cases e : y = x
    · subst e; simp
    · simp only [e, and_false, false_and, if_false]; exact f5 y hy
  · intro y hy
    rw [fl_mF (by decide) (by decide), if_neg (fun h => absurd h.2 (by decide))]; exact f6 y hy
  · intro y hy
    rcases lc y hy with ⟨x, a1, a2, a3, a4, a5⟩ | ⟨s, b, a1, a2, a3, a4, a5, a6⟩
    · refine Or.inl ⟨x, a1, a2, ?_, ?_, ?_⟩ <;> rw [fl_mF (by decide) (by decide), if_neg (fun h => absurd h.2 (by decide))] <;> assumption
    · refine Or.inr ⟨s, b, a1, a2, a3, ?_, ?_, ?_⟩ <;> rw [fl_mF (by decide) (by decide), if_neg (fun h => absurd h.2 (by decide))] <;> assumption
theorem RM6 {mk : Option Nat} {α : AS} {M : RS} {x : Nat} {v : Int32} (h : RM mk α M) : RM mk (aI α 3 x v) (mF M x 6 v) := by
  obtain ⟨k1, k2, t0, t1, t2, t3, s0, s1, s2, qs, f3, f4, f5, f6, lc⟩ := h
  refine ⟨k1, k2, t0, t1, t2, t3, s0, s1, s2, qs, ?_, ?_, ?_, ?_, ?_⟩
  · intro y hy
    rw [fl_mF (by decide) (by decide), if_neg (fun h => absurd h.2 (by decide))]; exact f3 y hy
  · intro y hy
    rw [fl_mF (by decide) (by decide), if_neg (fun h => absurd h.2 (by decide))]; exact f4 y hy
  · intro y hy
    rw [fl_mF (by decide) (by decide), if_neg (fun h => absurd h.2 (by decide))]; exact f5 y hy
  · intro y hy
    rw [fl_mF (by decide) (by decide)]
    show _ = (if 3 = 3 ∧ y = x then v else ii α 3 y)
    by_cases e : y = x
    · subst e; simp
    · simp only [e, and_false, false_and, if_false]; exact f6 y hy
  · intro y hy
    rcases lc y hy with ⟨x, a1, a2, a3, a4, a5⟩ | ⟨s, b, a1, a2, a3, a4, a5, a6⟩
    · refine Or.inl ⟨x, a1, a2, ?_, ?_, ?_⟩ <;> rw [fl_mF (by decide) (by decide), if_neg (fun h => absurd h.2 (by decide))] <;> assumption
    · refine Or.inr ⟨s, b, a1, a2, a3, ?_, ?_, ?_⟩ <;> rw [fl_mF (by decide) (by decide), if_neg (fun h => absurd h.2 (by decide))] <;> assumption
theorem RMh2 {mk : Option Nat} {α : AS} {M : RS} {x : Nat} {v : Int32} (h : RM mk α M) : RM mk (aI α 0 x v) (mH M x 2 v) := by
  obtain ⟨k1, k2, t0, t1, t2, t3, s0, s1, s2, qs, f3, f4, f5, f6, lc⟩ := h
  refine ⟨k1, k2, t0, t1, t2, t3, ?_, ?_, ?_, qs, f3, f4, f5, f6, lc⟩
  · intro y hy
    rw [hl_mH (by decide) (by decide), if_neg (fun h => absurd h.2 (by decide))]; exact s0 y hy
  · intro y hy
    rw [hl_mH (by decide) (by decide), if_neg (fun h => absurd h.2 (by decide))]; exact s1 y hy
  · intro y hy
    rw [hl_mH (by decide) (by decide)]
    show _ = (if 0 = 0 ∧ y = x then v else ii α 0 y)
    by_cases e : y = x
    · subst e; simp
    · simp only [e, and_false, false_and, if_false]; exact s2 y hy
theorem RMn1 {mk : Option Nat} {α : AS} {M : RS} {v : Int32} (h : RM mk α M) : RM mk (aI α 2 0 v) (mN M 1 v) := by
  obtain ⟨k1, k2, t0, t1, t2, t3, s0, s1, s2, qs, f3, f4, f5, f6, lc⟩ := h
  refine ⟨k1, k2, t0, ?_, t2, t3, s0, s1, s2, qs, f3, f4, f5, f6, lc⟩
  · rfl
theorem RMn2 {mk : Option Nat} {α : AS} {M : RS} {v : Int32} (h : RM mk α M) : RM mk (aI α 2 1 v) (mN M 2 v) := by
  obtain ⟨k1, k2, t0, t1, t2, t3, s0, s1, s2, qs, f3, f4, f5, f6, lc⟩ := h
  refine ⟨k1, k2, t0, t1, ?_, t3, s0, s1, s2, qs, f3, f4, f5, f6, lc⟩
  · rfl
theorem RMn3 {mk : Option Nat} {α : AS} {M : RS} {v : Int32} (h : RM mk α M) : RM mk (aI α 4 0 v) (mN M 3 v) := by
  obtain ⟨k1, k2, t0, t1, t2, t3, s0, s1, s2, qs, f3, f4, f5, f6, lc⟩ := h
  refine ⟨k1, k2, t0, t1, t2, ?_, s0, s1, s2, qs, f3, f4, f5, f6, lc⟩
  · rfl
