-- places, counts, the mean, the end
def lst (o : Option Nat) (i : Nat) : Int32 := match o with
  | some p => if p < i then nI p else -1
  | none => -1
theorem td_3 {α : AS} : td α 3 = vC α 3 := by
  have a : isum (td1 α 3) 0 (nn α 0) = vC α 3 := isum_ext (fun m _ _ => if_pos rfl)
  have b : isum (td2 α 3) 0 (nn α 0) = 0 := (isum_ext (g := fun _ => 0) (fun m _ _ => if_neg (by decide))).trans isum_0
  have c : isum (td3 α 3) 0 (nn α 1) = 0 := (isum_ext (g := fun _ => 0) (fun m _ _ => by
    unfold td3
    rw [if_neg (fun z => absurd z.1 (by decide)), if_neg (fun z => absurd z.1 (by decide))])).trans isum_0
  have d : tdB α 3 = 0 := by unfold tdB; rw [if_neg (by decide), if_neg (by decide)]
  unfold td
  rw [a, b, c, d]
  grind
theorem td_4 {α : AS} : td α 4 = vC α 4 := by
  have a : isum (td1 α 4) 0 (nn α 0) = 0 := (isum_ext (g := fun _ => 0) (fun m _ _ => if_neg (by decide))).trans isum_0
  have b : isum (td2 α 4) 0 (nn α 0) = 0 := (isum_ext (g := fun _ => 0) (fun m _ _ => if_neg (by decide))).trans isum_0
  have c : isum (td3 α 4) 0 (nn α 1) = vC α 4 := isum_ext (fun m _ _ => by
    unfold td3
    cases e : oo α 3 m with
    | none => rw [if_neg (fun z => by cases z.2), if_neg (fun z => absurd z.1 (by decide))]; rfl
    | some r => rw [if_pos ⟨rfl, rfl⟩]; rfl)
  have d : tdB α 4 = 0 := by unfold tdB; rw [if_neg (by decide), if_neg (by decide)]
  unfold td
  rw [a, b, c, d]
  grind
theorem td_5 {α : AS} : td α 5 = vC α 5 := by
  have a : isum (td1 α 5) 0 (nn α 0) = 0 := (isum_ext (g := fun _ => 0) (fun m _ _ => if_neg (by decide))).trans isum_0
  have b : isum (td2 α 5) 0 (nn α 0) = vC α 5 := isum_ext (fun m _ _ => if_pos rfl)
  have c : isum (td3 α 5) 0 (nn α 1) = 0 := (isum_ext (g := fun _ => 0) (fun m _ _ => by
    unfold td3
    rw [if_neg (fun z => absurd z.1 (by decide)), if_neg (fun z => absurd z.1 (by decide))])).trans isum_0
  have d : tdB α 5 = 0 := by unfold tdB; rw [if_neg (by decide), if_neg (by decide)]
  unfold td
  rw [a, b, c, d]
  grind
theorem td_6 {α : AS} : td α 6 = vC α 6 := by
  have a : isum (td1 α 6) 0 (nn α 0) = 0 := (isum_ext (g := fun _ => 0) (fun m _ _ => if_neg (by decide))).trans isum_0
  have b : isum (td2 α 6) 0 (nn α 0) = 0 := (isum_ext (g := fun _ => 0) (fun m _ _ => if_neg (by decide))).trans isum_0
  have c : isum (td3 α 6) 0 (nn α 1) + isum (fun p => bI (exs α p 24)) 0 (nn α 1) = 0 := by
    rw [← isum_add]
    exact (isum_ext (g := fun _ => 0) (fun m _ _ => by
      unfold td3
      rw [if_neg (fun z => absurd z.1 (by decide))]
      by_cases e : exs α m 24 = true
      · rw [if_pos ⟨rfl, e⟩, e]; decide
      · rw [if_neg (fun z => e z.2), Bool.eq_false_iff.mpr e]; decide)).trans isum_0
  have d : tdB α 6 = 24 := by unfold tdB; rw [if_neg (by decide), if_pos rfl]
  unfold td
  rw [a, b, d]
  show ((24 + 0) + 0) + isum (td3 α 6) 0 (nn α 1) = 24 - isum (fun p => bI (exs α p 24)) 0 (nn α 1)
  grind
theorem len_nat {α : AS} (hl : ∀ s, (qq α s).length ≤ 9) : ∀ n, ∃ k, k ≤ 9 * n ∧ isum (fun s => nI (qq α s).length) 0 n = nI k := by
  intro n
  induction n with
  | zero => exact ⟨0, Nat.le_refl _, nI_0.symm⟩
  | succ n ih =>
    obtain ⟨k, h1, h2⟩ := ih
    have := hl n
    refine ⟨k + (qq α (0 + n)).length, by rw [Nat.zero_add]; omega, ?_⟩
    rw [isum_last, h2, nI_add]
theorem nan64_of {v : UInt64} (h : FP.Core.dIsNaN v = false) : isNaN64 v = false := by
  cases e : isNaN64 v with
  | false => rfl
  | true =>
    rw [isN64_iff] at e
    have h2 : ¬ FP.Core.dIsNaN v = true := by rw [h]; decide
    rw [FP.Core.isNaN_bits] at h2
    have e2 : v.toNat &&& 0x7fffffffffffffff = v.toNat % 2 ^ 63 := Nat.and_two_pow_sub_one_eq_mod v.toNat 63
    rw [e2] at e
    exact absurd e h2
theorem div_nan {a b : Int32} (hb : b ≠ 0) : isNaN64 (FP.ddiv (FP.i2d a) (FP.i2d b)) = false :=
  nan64_of (FP.Core.ddiv_out (FP.Core.i2d_fin a).notNaN (FP.Core.i2d_fin b) (fun z => FP.Core.i2d_ne_zero hb ((FP.Core.zero_bits2 _).mp z)))
