-- the law's simulation is α
def SLOC (α : AS) (σ : SG) (p : Nat) : Prop := (∃ x, x < 24 ∧ oo α 0 x = some p ∧ sV σ 3 p = nI x) ∨ (∃ s b, s < 6 ∧ b < 3 ∧ oo α 1 (3 * s + b) = some p ∧ sV σ 3 p = -1 ∧ sV σ 4 p = nI s ∧ sV σ 5 p = nI b)
def SR (α : AS) (σ : SG) : Prop :=
  sN σ 0 = nn α 0 ∧ sN σ 1 = nn α 1 ∧ sV σ 0 0 = nI (nn α 2) ∧ sV σ 0 1 = ii α 2 0 ∧ sV σ 0 2 = ii α 2 1 ∧
  (∀ s, s < nn α 0 → sV σ 1 s = nI (pl α s)) ∧ (∀ s, s < nn α 0 → sV σ 2 s = ii α 0 s) ∧ (∀ s, s < nn α 0 → (sL σ s).length = (qq α s).length) ∧
  (∀ (s i : Nat) (e : RwT) (e2 : Nat × Nat × Nat), s < nn α 0 → (sL σ s)[i]? = some e → (qq α s)[i]? = some e2 → e.2 0 = nI e2.1 ∧ e.2 1 = nI (nn α 2) - nI e2.2.1 ∧ e.2 2 = 0) ∧
  (∀ p, p < nn α 1 → sV σ 6 p = oI (oo α 2 p)) ∧ (∀ p, p < nn α 1 → sV σ 7 p = rk none (oo α 3 p)) ∧ (∀ p, p < nn α 1 → sV σ 8 p = ii α 1 p) ∧ (∀ p, p < nn α 1 → sV σ 9 p = ii α 3 p) ∧ (∀ p, p < nn α 1 → SLOC α σ p)
/-- no two stations at one place -/
def DP (α : AS) : Prop := ∀ i j, i < nn α 0 → j < nn α 0 → pl α i = pl α j → i = j
theorem gsP (F : Nat → Int32 → Prop) (P : Nat → Bool) (R : Option Nat → Prop) (N : Nat) (hs : ∀ n i, i < N → (if P i = true then R (some i) else F n (nI (i + 1))) → F (n + 1) (nI i)) (he : ∀ n, R none → F (n + 1) (nI N)) : ∀ k i n, i + k = N → k < n → R (ffind P i k) → F n (nI i) := by
  intro k
  induction k with
  | zero =>
    intro i n h1 h2 hR
    obtain ⟨m, rfl⟩ : ∃ m, n = m + 1 := ⟨n - 1, by omega⟩
    rw [show i = N from by omega]
    exact he m hR
  | succ k ih =>
    intro i n h1 h2 hR
    obtain ⟨m, rfl⟩ : ∃ m, n = m + 1 := ⟨n - 1, by omega⟩
    refine hs m i (by omega) ?_
    rw [ffind] at hR
    by_cases c : P i = true
    · rw [if_pos c] at hR ⊢; exact hR
    · rw [if_neg c] at hR ⊢; exact ih (i + 1) m (by omega) (by omega) hR
theorem gsumP (F : Nat → Int32 → Int32 → Prop) (g : Nat → Int32) (R : Int32 → Prop) (N : Nat) (hs : ∀ n acc i, i < N → F n (acc + g i) (nI (i + 1)) → F (n + 1) acc (nI i)) (he : ∀ n acc, R acc → F (n + 1) acc (nI N)) : ∀ k i n acc, i + k = N → k < n → R (acc + isum g i k) → F n acc (nI i) := by
  intro k
  induction k with
  | zero =>
    intro i n acc h1 h2 hR
    obtain ⟨m, rfl⟩ : ∃ m, n = m + 1 := ⟨n - 1, by omega⟩
    rw [show i = N from by omega]
    rw [isum, i32_az] at hR
    exact he m acc hR
  | succ k ih =>
    intro i n acc h1 h2 hR
    obtain ⟨m, rfl⟩ : ∃ m, n = m + 1 := ⟨n - 1, by omega⟩
    refine hs m acc i (by omega) (ih (i + 1) m _ (by omega) (by omega) ?_)
    rw [isum, ← Int32.add_assoc] at hR
    exact hR
section SRD
variable {Φ : FR} {Z : Nat → ClassId} {h : PH} {t : Nat} {σ : SG} {α : AS}
theorem S_n (S : SR α σ) : sN σ 0 = nn α 0 := S.1
theorem S_m (S : SR α σ) : sN σ 1 = nn α 1 := S.2.1
theorem S_t (S : SR α σ) : sV σ 0 0 = nI (nn α 2) := S.2.2.1
theorem S_an (S : SR α σ) : sV σ 0 1 = ii α 2 0 := S.2.2.2.1
theorem S_bd (S : SR α σ) : sV σ 0 2 = ii α 2 1 := S.2.2.2.2.1
theorem S_pl (S : SR α σ) {s : Nat} (hs : s < nn α 0) : sV σ 1 s = nI (pl α s) := S.2.2.2.2.2.1 s hs
theorem S_ar (S : SR α σ) {s : Nat} (hs : s < nn α 0) : sV σ 2 s = ii α 0 s := S.2.2.2.2.2.2.1 s hs
theorem S_len (S : SR α σ) {s : Nat} (hs : s < nn α 0) : (sL σ s).length = (qq α s).length := S.2.2.2.2.2.2.2.1 s hs
theorem S_q (S : SR α σ) {s i : Nat} {e : RwT} {e2 : Nat × Nat × Nat} (hs : s < nn α 0) (h1 : (sL σ s)[i]? = some e) (h2 : (qq α s)[i]? = some e2) : e.2 0 = nI e2.1 ∧ e.2 1 = nI (nn α 2) - nI e2.2.1 ∧ e.2 2 = 0 := S.2.2.2.2.2.2.2.2.1 s i e e2 hs h1 h2
theorem S_go (S : SR α σ) {p : Nat} (hp : p < nn α 1) : sV σ 6 p = oI (oo α 2 p) := S.2.2.2.2.2.2.2.2.2.1 p hp
theorem S_ri (S : SR α σ) {p : Nat} (hp : p < nn α 1) : sV σ 7 p = rk none (oo α 3 p) := S.2.2.2.2.2.2.2.2.2.2.1 p hp
theorem S_mi (S : SR α σ) {p : Nat} (hp : p < nn α 1) : sV σ 8 p = ii α 1 p := S.2.2.2.2.2.2.2.2.2.2.2.1 p hp
theorem S_of (S : SR α σ) {p : Nat} (hp : p < nn α 1) : sV σ 9 p = ii α 3 p := S.2.2.2.2.2.2.2.2.2.2.2.2.1 p hp
theorem S_lc (S : SR α σ) {p : Nat} (hp : p < nn α 1) : SLOC α σ p := S.2.2.2.2.2.2.2.2.2.2.2.2.2 p hp
theorem P_0 (hA : AI α) (S : SR α σ) {p x : Nat} (hp : p < nn α 1) (hx : x < 24) : sV σ 3 p = nI x ↔ oo α 0 x = some p := by
  rcases S_lc S hp with ⟨y, a1, a2, a3⟩ | ⟨s, b, a1, a2, a3, a4, a5, a6⟩
  · rw [a3]
    exact ⟨fun e => by rw [← nI_inj (by omega) (by omega) e]; exact a2, fun e => by rw [A_00 hA a2 e]⟩
  · rw [a4]
    exact ⟨fun e => absurd e.symm (nI_ne_m1 (by omega)), fun e => absurd a3 (A_01 hA e)⟩
theorem P_neg (S : SR α σ) {p : Nat} (hp : p < nn α 1) : sV σ 3 p < 0 ↔ ∃ s b, s < 6 ∧ b < 3 ∧ oo α 1 (3 * s + b) = some p ∧ sV σ 4 p = nI s ∧ sV σ 5 p = nI b ∧ sV σ 3 p = -1 := by
  rcases S_lc S hp with ⟨y, a1, a2, a3⟩ | ⟨s, b, a1, a2, a3, a4, a5, a6⟩
  · rw [a3]
    exact ⟨fun e => absurd e (nI_pos (by omega)), fun ⟨_, _, _, _, _, _, _, e⟩ => absurd e (nI_ne_m1 (by omega))⟩
  · exact ⟨fun _ => ⟨s, b, a1, a2, a3, a5, a6, a4⟩, fun _ => by rw [a4]; decide⟩
theorem P_in (hA : AI α) (S : SR α σ) {p s b : Nat} (hp : p < nn α 1) (hs : s < 6) (hb : b < 3) : (sV σ 3 p < 0 ∧ sV σ 4 p = nI s ∧ sV σ 5 p = nI b) ↔ oo α 1 (3 * s + b) = some p := by
  rw [P_neg S hp]
  constructor
  · rintro ⟨⟨s2, b2, h1, h2, h3, h4, h5, _⟩, h7, h8⟩
    rw [h4] at h7; rw [h5] at h8
    rw [← nI_inj (by omega) (by omega) h7, ← nI_inj (by omega) (by omega) h8]
    exact h3
  · intro e
    rcases S_lc S hp with ⟨y, a1, a2, a3⟩ | ⟨s2, b2, a1, a2, a3, a4, a5, a6⟩
    · exact absurd e (A_01 hA a2)
    · have := A_11 hA a3 e
      have e1 : s2 = s := by omega
      have e2 : b2 = b := by omega
      subst e1; subst e2
      exact ⟨⟨s2, b2, a1, a2, a3, a5, a6, a4⟩, a5, a6⟩
theorem i32_nle0 {x : Int32} : ¬ 0 ≤ x ↔ x < 0 := by rw [Int32.not_le]
theorem S_inb {K : Option Nat → PH → Prop} {s b : Nat} (hA : AI α) (H : HR Φ Z h t σ) (S : SR α σ) (hs : s < 6) (hb : b < 3) (hK : K ((oo α 1 (3 * s + b)).map (sB σ 0)) h) : w_X3_in Z t (nI s) (nI b) K h := by
  have h12 := A_np hA
  have hm := S_m S
  unfold w_X3_in
  refine H_pods H (H_nD H ?_)
  refine gsP (fun n i => w_X3_in_L12 Z t (nI s) (nI b) K n (sN σ 5) (nI (sN σ 1)) i h) (fun p => decide (oo α 1 (3 * s + b) = some p)) (fun o => K (o.map (sB σ 0)) h) (sN σ 1) (fun n i hi hc => ?_) (fun n hc => ?_) (sN σ 1) 0 FU (Nat.zero_add _) (by unfold FU; omega) ?_
  · show w_X3_in_L12 Z t (nI s) (nI b) K (n + 1) (sN σ 5) (nI (sN σ 1)) (nI i) h
    rw [w_X3_in_L12, if_neg (nI_ge hi (by omega))]
    refine H_p H hi (H_f0 H hi ?_)
    have hiff := P_in hA S (p := i) (by omega) hs hb
    by_cases c : oo α 1 (3 * s + b) = some i
    · rw [if_pos (decide_eq_true c)] at hc
      obtain ⟨a1, a2, a3⟩ := hiff.mpr c
      rw [if_neg (Int32.not_le.mpr a1)]
      refine H_f1 H hi ?_
      rw [if_pos a2]
      refine H_f2 H hi ?_
      rw [if_pos a3]
      exact hc
    · rw [if_neg (by simp [c]), ← nI_1] at hc
      by_cases a1 : 0 ≤ sV σ 3 i
      · rw [if_pos a1]; exact hc
      · rw [if_neg a1]
        refine H_f1 H hi ?_
        by_cases a2 : sV σ 4 i = nI s
        · rw [if_pos a2]
          refine H_f2 H hi ?_
          by_cases a3 : sV σ 5 i = nI b
          · exact absurd (hiff.mp ⟨i32_nle0.mp a1, a2, a3⟩) c
          · rw [if_neg a3]; exact hc
        · rw [if_neg a2]; exact hc
  · show w_X3_in_L12 Z t (nI s) (nI b) K (n + 1) (sN σ 5) (nI (sN σ 1)) (nI (sN σ 1)) h
    rw [w_X3_in_L12, if_pos (nI_le (Nat.le_refl _) (by omega))]
    exact hc
  · rw [ffind_one (o := oo α 1 (3 * s + b)) (fun j _ => by rw [decide_eq_true_eq]) (fun j e => by have := (A_1 hA e).2.1; omega)]
    exact hK
theorem S_slot {K : Option Nat → PH → Prop} {x : Nat} (hA : AI α) (H : HR Φ Z h t σ) (S : SR α σ) (hx : x < 24) (hK : K ((oo α 0 x).map (sB σ 0)) h) : w_X3_slot Z t (nI x) K h := by
  have h12 := A_np hA
  have hm := S_m S
  unfold w_X3_slot
  refine H_pods H (H_nD H ?_)
  refine gsP (fun n i => w_X3_slot_L11 Z t (nI x) K n (sN σ 5) (nI (sN σ 1)) i h) (fun p => decide (oo α 0 x = some p)) (fun o => K (o.map (sB σ 0)) h) (sN σ 1) (fun n i hi hc => ?_) (fun n hc => ?_) (sN σ 1) 0 FU (Nat.zero_add _) (by unfold FU; omega) ?_
  · show w_X3_slot_L11 Z t (nI x) K (n + 1) (sN σ 5) (nI (sN σ 1)) (nI i) h
    rw [w_X3_slot_L11, if_neg (nI_ge hi (by omega))]
    refine H_p H hi (H_f0 H hi ?_)
    have hiff := P_0 hA S (p := i) (by omega) hx
    by_cases c : oo α 0 x = some i
    · rw [if_pos (decide_eq_true c)] at hc
      rw [if_pos (hiff.mpr c)]
      exact hc
    · rw [if_neg (by simp [c]), ← nI_1] at hc
      rw [if_neg (fun z => c (hiff.mp z))]
      exact hc
  · show w_X3_slot_L11 Z t (nI x) K (n + 1) (sN σ 5) (nI (sN σ 1)) (nI (sN σ 1)) h
    rw [w_X3_slot_L11, if_pos (nI_le (Nat.le_refl _) (by omega))]
    exact hc
  · rw [ffind_one (o := oo α 0 x) (fun j _ => by rw [decide_eq_true_eq]) (fun j e => by have := (A_0 hA e).2; omega)]
    exact hK
theorem S_free {K : Int32 → PH → Prop} {s : Nat} (hA : AI α) (H : HR Φ Z h t σ) (S : SR α σ) (hs : s < 6) (hK : K (oI (fb α s 0)) h) : w_X3_free Z t (nI s) K h := by
  unfold w_X3_free
  refine gsP (fun n i => w_X3_free_L2 Z t (nI s) K n i h) (fun b => kd α (3 * s + b) == 0) (fun o => K (oI o) h) 3 (fun n i hi hc => ?_) (fun n hc => ?_) 3 0 FU rfl (by decide) hK
  · show w_X3_free_L2 Z t (nI s) K (n + 1) (nI i) h
    rw [w_X3_free_L2, i32_3, if_neg (nI_ge hi (by omega))]
    refine ⟨rc3_of H, S_inb hA H S hs hi ?_⟩
    cases e : oo α 1 (3 * s + i) with
    | none =>
      rw [if_pos (by rw [kd_0 e]; rfl)] at hc
      exact hc
    | some p =>
      rw [if_neg (by
        intro z
        have := kd_e0 (eq_of_beq z)
        rw [e] at this; cases this), ← nI_1] at hc
      exact hc
  · show w_X3_free_L2 Z t (nI s) K (n + 1) (nI 3) h
    rw [w_X3_free_L2, i32_3, if_pos (nI_le (Nat.le_refl _) (by omega))]
    exact hc
/-- the pod that is idle in the first berth that has one -/
def idp (α : AS) (s : Nat) : Option Nat := (fb α s 1).bind (fun b => oo α 1 (3 * s + b))
theorem idp_some {s p : Nat} (e : idp α s = some p) : ∃ b, fb α s 1 = some b ∧ b < 3 ∧ oo α 1 (3 * s + b) = some p ∧ oo α 2 p = none := by
  unfold idp at e
  cases f : fb α s 1 with
  | none => rw [f] at e; cases e
  | some b =>
    rw [f] at e
    have e : oo α 1 (3 * s + b) = some p := e
    obtain ⟨h3, hk, _⟩ := fb_some f
    obtain ⟨q, g1, g2⟩ := kd_e1 hk
    rw [e] at g1; cases g1
    exact ⟨b, rfl, h3, e, g2⟩
theorem idp_none {s : Nat} : idp α s = none ↔ fb α s 1 = none := by
  unfold idp
  cases f : fb α s 1 with
  | none => exact ⟨fun _ => rfl, fun _ => rfl⟩
  | some b =>
    obtain ⟨h3, hk, _⟩ := fb_some f
    obtain ⟨q, g1, g2⟩ := kd_e1 hk
    refine ⟨fun e => ?_, fun e => by cases e⟩
    have e : oo α 1 (3 * s + b) = none := e
    rw [e] at g1; cases g1
theorem S_idle {K : Option Nat → PH → Prop} {s : Nat} (hA : AI α) (H : HR Φ Z h t σ) (S : SR α σ) (hs : s < 6) (hK : K ((idp α s).map (sB σ 0)) h) : w_X3_idle Z t (nI s) K h := by
  have hm := S_m S
  have h6 := A_ns hA
  unfold w_X3_idle
  refine gsP (fun n i => w_X3_idle_L2 Z t (nI s) K n i h) (fun b => kd α (3 * s + b) == 1) (fun o => K ((o.bind (fun b => oo α 1 (3 * s + b))).map (sB σ 0)) h) 3 (fun n i hi hc => ?_) (fun n hc => ?_) 3 0 FU rfl (by decide) hK
  · show w_X3_idle_L2 Z t (nI s) K (n + 1) (nI i) h
    rw [w_X3_idle_L2, i32_3, if_neg (nI_ge hi (by omega))]
    refine ⟨rc3_of H, S_inb hA H S hs hi ?_⟩
    cases e : oo α 1 (3 * s + i) with
    | none =>
      rw [if_neg (by rw [kd_0 e]; decide), ← nI_1] at hc
      exact hc
    | some p =>
      have hp := (A_1 hA e).2.1
      show gI h 2 3 (sB σ 0 p) _
      refine H_f3 H (by omega) ?_
      rw [S_go S hp]
      cases g : oo α 2 p with
      | none =>
        rw [if_pos (by rw [kd_1 e g]; rfl)] at hc
        have hc : K ((oo α 1 (3 * s + i)).map (sB σ 0)) h := hc
        rw [e] at hc
        rw [oI_none, if_neg (by decide)]
        exact hc
      | some g2 =>
        have hg := (A_2 hA g).1
        rw [if_neg (by rw [kd_2 e g]; decide), ← nI_1] at hc
        rw [oI_some, if_pos (nI_pos' (by omega))]
        exact hc
  · show w_X3_idle_L2 Z t (nI s) K (n + 1) (nI 3) h
    rw [w_X3_idle_L2, i32_3, if_pos (nI_le (Nat.le_refl _) (by omega))]
    exact hc
theorem rkn_0 {o : Option Nat} : rk none o = 0 ↔ o = none := rk_0 (mk := none)
theorem S_com {K : Int32 → PH → Prop} {s : Nat} (hA : AI α) (H : HR Φ Z h t σ) (S : SR α σ) (hs : s < nn α 0) (hK : K (com α s) h) : w_X3_coming Z t (nI s) K h := by
  have hm := S_m S
  have h6 := A_ns hA
  have h12 := A_np hA
  unfold w_X3_coming
  refine H_pods H (H_nD H ?_)
  refine gsumP (fun n acc i => w_X3_coming_L14 Z t (nI s) K n acc (sN σ 5) (nI (sN σ 1)) i h) (fun p => bI (decide (oo α 2 p = some s ∧ oo α 3 p = none))) (fun v => K v h) (sN σ 1) (fun n acc i hi hc => ?_) (fun n acc hc => ?_) (sN σ 1) 0 FU 0 (Nat.zero_add _) (by unfold FU; omega) ?_
  · show w_X3_coming_L14 Z t (nI s) K (n + 1) acc (sN σ 5) (nI (sN σ 1)) (nI i) h
    rw [← nI_1] at hc
    rw [w_X3_coming_L14, if_neg (nI_ge hi (by omega))]
    refine H_p H hi (H_f3 H hi ?_)
    rw [S_go S (by omega)]
    have e1 : oI (oo α 2 i) = nI s ↔ oo α 2 i = some s := oI_nI (by omega) (fun k hk => by have := A_2 hA hk; omega)
    by_cases c1 : oo α 2 i = some s
    · rw [if_pos (e1.mpr c1)]
      refine H_f4 H hi ?_
      rw [S_ri S (by omega)]
      by_cases c2 : oo α 3 i = none
      · rw [if_pos (rkn_0.mpr c2)]
        rw [show bI (decide (oo α 2 i = some s ∧ oo α 3 i = none)) = 1 from by rw [decide_eq_true ⟨c1, c2⟩]; rfl] at hc
        exact hc
      · rw [if_neg (fun z => c2 (rkn_0.mp z))]
        rw [show bI (decide (oo α 2 i = some s ∧ oo α 3 i = none)) = 0 from by rw [decide_eq_false (fun z => c2 z.2)]; rfl] at hc
        exact hc
    · rw [if_neg (fun z => c1 (e1.mp z))]
      rw [show bI (decide (oo α 2 i = some s ∧ oo α 3 i = none)) = 0 from by rw [decide_eq_false (fun z => c1 z.1)]; rfl] at hc
      exact hc
  · show w_X3_coming_L14 Z t (nI s) K (n + 1) acc (sN σ 5) (nI (sN σ 1)) (nI (sN σ 1)) h
    rw [w_X3_coming_L14, if_pos (nI_le (Nat.le_refl _) (by omega))]
    exact hc
  · rw [Int32.zero_add, S_m S]
    exact hK
-- who answers, going back place by place
def cand (α : AS) (i : Nat) : Prop := (qq α i).length = 0 ∧ fb α i 1 ≠ none
theorem anS_spec {x i : Nat} {cur : Option Nat} : (i ≠ x ∧ cand α i → ∃ j, anS α x i cur = some j ∧ dst α j x ≤ dst α i x) ∧ (∀ j, cur = some j → ∃ j2, anS α x i cur = some j2 ∧ dst α j2 x ≤ dst α j x) ∧ (∀ j, anS α x i cur = some j → (j = i ∧ i ≠ x ∧ cand α i) ∨ cur = some j) := by
  unfold anS cand
  by_cases c1 : i = x
  · rw [if_pos c1]
    exact ⟨fun z => absurd c1 z.1, fun j e => ⟨j, e, Nat.le_refl _⟩, fun j e => Or.inr e⟩
  · rw [if_neg c1]
    by_cases c2 : (qq α i).length = 0
    · rw [if_pos c2]
      cases e : fb α i 1 with
      | none => exact ⟨fun z => absurd rfl z.2.2, fun j e => ⟨j, e, Nat.le_refl _⟩, fun j e => Or.inr e⟩
      | some b =>
        cases cur with
        | none => exact ⟨fun _ => ⟨i, rfl, Nat.le_refl _⟩, fun j e => by (cases e), fun j e => by cases e; exact Or.inl ⟨rfl, c1, c2, fun z => by cases z⟩⟩
        | some k =>
          dsimp only
          by_cases c3 : dst α k x ≤ dst α i x
          · rw [if_pos c3]
            exact ⟨fun _ => ⟨k, rfl, c3⟩, fun j e => by cases e; exact ⟨k, rfl, Nat.le_refl _⟩, fun j e => Or.inr e⟩
          · rw [if_neg c3]
            exact ⟨fun _ => ⟨i, rfl, Nat.le_refl _⟩, fun j e => by cases e; exact ⟨i, rfl, by omega⟩, fun j e => by cases e; exact Or.inl ⟨rfl, c1, c2, fun z => by cases z⟩⟩
    · rw [if_neg c2]
      exact ⟨fun z => absurd z.2.1 c2, fun j e => ⟨j, e, Nat.le_refl _⟩, fun j e => Or.inr e⟩
theorem anL_spec {x : Nat} : ∀ k i cur, (∀ m, i ≤ m → m < i + k → m ≠ x → cand α m → ∃ j, anL α x i k cur = some j ∧ dst α j x ≤ dst α m x) ∧ (∀ j, cur = some j → ∃ j2, anL α x i k cur = some j2 ∧ dst α j2 x ≤ dst α j x) ∧ (∀ j, anL α x i k cur = some j → (i ≤ j ∧ j < i + k ∧ j ≠ x ∧ cand α j) ∨ cur = some j) := by
  intro k
  induction k with
  | zero => intro i cur; exact ⟨fun m h1 h2 => absurd h2 (by omega), fun j e => ⟨j, e, Nat.le_refl _⟩, fun j e => Or.inr e⟩
  | succ k ih =>
    intro i cur
    obtain ⟨a1, a2, a3⟩ := ih (i + 1) (anS α x i cur)
    obtain ⟨b1, b2, b3⟩ := anS_spec (α := α) (x := x) (i := i) (cur := cur)
    show (∀ m, i ≤ m → m < i + (k + 1) → m ≠ x → cand α m → ∃ j, anL α x (i + 1) k (anS α x i cur) = some j ∧ _) ∧ _
    refine ⟨fun m h1 h2 h3 h4 => ?_, fun j e => ?_, fun j e => ?_⟩
    · by_cases c : m = i
      · subst c
        obtain ⟨j, d1, d2⟩ := b1 ⟨h3, h4⟩
        obtain ⟨j2, d3, d4⟩ := a2 j d1
        exact ⟨j2, d3, by omega⟩
      · exact a1 m (by omega) (by omega) h3 h4
    · obtain ⟨j2, d1, d2⟩ := b2 j e
      obtain ⟨j3, d3, d4⟩ := a2 j2 d1
      exact ⟨j3, d3, by omega⟩
    · rcases a3 j e with ⟨d1, d2, d3, d4⟩ | d1
      · exact Or.inl ⟨by omega, by omega, d3, d4⟩
      · rcases b3 j d1 with ⟨d2, d3, d4⟩ | d2
        · subst d2; exact Or.inl ⟨Nat.le_refl _, by omega, d3, d4⟩
        · exact Or.inr d2
theorem ans_some {x j : Nat} (e : ans α x = some j) : j < nn α 0 ∧ j ≠ x ∧ cand α j ∧ ∀ m, m < nn α 0 → m ≠ x → cand α m → dst α j x ≤ dst α m x := by
  obtain ⟨a1, a2, a3⟩ := anL_spec (α := α) (x := x) (nn α 0) 0 none
  unfold ans at e
  rcases a3 j e with ⟨d1, d2, d3, d4⟩ | d1
  · refine ⟨by omega, d3, d4, fun m h1 h2 h3 => ?_⟩
    obtain ⟨j2, b1, b2⟩ := a1 m (Nat.zero_le _) (by omega) h2 h3
    rw [e] at b1; cases b1
    exact b2
  · cases d1
theorem ans_none {x : Nat} (e : ans α x = none) : ∀ m, m < nn α 0 → m ≠ x → ¬ cand α m := by
  obtain ⟨a1, a2, a3⟩ := anL_spec (α := α) (x := x) (nn α 0) 0 none
  unfold ans at e
  intro m h1 h2 h3
  obtain ⟨j2, b1, b2⟩ := a1 m (Nat.zero_le _) (by omega) h2 h3
  rw [e] at b1; cases b1
def bkP (α : AS) (x b i : Nat) : Bool := decide ((pl α i + b) % 24 = pl α x ∧ (qq α i).length = 0 ∧ (fb α i 1).isSome = true)
def bk (α : AS) (x b : Nat) : Option Nat := ffind (bkP α x b) 0 (nn α 0)
def bkR (α : AS) (x : Nat) : Option Nat := (ffind (fun b => (bk α x b).isSome) 1 23).bind (bk α x)
theorem isSome_ne {β : Type} {o : Option β} : o.isSome = true ↔ o ≠ none := by cases o <;> simp
theorem dst_iff {x b i : Nat} (hx : pl α x < 24) (hi : pl α i < 24) (hb : b < 24) : (pl α i + b) % 24 = pl α x ↔ dst α i x = b := by
  unfold dst
  constructor <;> intro e <;> omega
theorem bk_none {x b : Nat} (e : bk α x b = none) (hA : AI α) (hx : x < nn α 0) (hb : b < 24) : ∀ i, i < nn α 0 → cand α i → dst α i x ≠ b := by
  intro i hi hc hd
  have := ffind_none e i (Nat.zero_le _) (by omega)
  unfold bkP at this
  exact of_decide_eq_false this ⟨(dst_iff (A_pl hA hx) (A_pl hA hi) hb).mpr hd, hc.1, isSome_ne.mpr hc.2⟩
theorem bk_some {x b i : Nat} (e : bk α x b = some i) (hA : AI α) (hx : x < nn α 0) (hb : b < 24) : i < nn α 0 ∧ cand α i ∧ dst α i x = b := by
  obtain ⟨h1, h2, h3, _⟩ := ffind_some e
  unfold bkP at h3
  obtain ⟨a1, a2, a3⟩ := of_decide_eq_true h3
  have hi : i < nn α 0 := by omega
  exact ⟨hi, ⟨a2, isSome_ne.mp a3⟩, (dst_iff (A_pl hA hx) (A_pl hA hi) hb).mp a1⟩
theorem dst_inj (hA : AI α) (hd : DP α) {x i j : Nat} (hx : x < nn α 0) (hi : i < nn α 0) (hj : j < nn α 0) (e : dst α i x = dst α j x) : i = j := by
  have h1 := A_pl hA hx
  have h2 := A_pl hA hi
  have h3 := A_pl hA hj
  refine hd i j hi hj ?_
  unfold dst at e
  omega
theorem dst_self {x : Nat} (hA : AI α) (hx : x < nn α 0) : dst α x x = 0 := by
  have h1 := A_pl hA hx
  unfold dst
  omega
theorem bkR_ans (hA : AI α) (hd : DP α) {x : Nat} (hx : x < nn α 0) : bkR α x = ans α x := by
  cases e : ans α x with
  | none =>
    have hn := ans_none e
    unfold bkR
    cases f : ffind (fun b => (bk α x b).isSome) 1 23 with
    | none => rfl
    | some b =>
      exfalso
      obtain ⟨h1, h2, h3, _⟩ := ffind_some f
      cases g : bk α x b with
      | none => rw [g] at h3; cases h3
      | some i =>
        obtain ⟨b1, b2, b3⟩ := bk_some g hA hx (by omega)
        refine hn i b1 (fun z => ?_) b2
        rw [z, dst_self hA hx] at b3
        omega
  | some j =>
    obtain ⟨j1, j2, j3, j4⟩ := ans_some e
    have hj0 : dst α j x ≠ 0 := fun z => j2 (dst_inj hA hd hx j1 hx (by rw [z, dst_self hA hx]))
    have hj24 : dst α j x < 24 := dst_lt
    have hsm : ∀ b, b < 24 → b ≠ 0 → b < dst α j x → bk α x b = none := fun b hb h0 hlt => by
      cases g : bk α x b with
      | none => rfl
      | some i =>
        obtain ⟨b1, b2, b3⟩ := bk_some g hA hx hb
        have := j4 i b1 (fun z => by rw [z, dst_self hA hx] at b3; omega) b2
        omega
    have hjj : bk α x (dst α j x) = some j := by
      cases g : bk α x (dst α j x) with
      | none => exact absurd rfl (bk_none g hA hx hj24 j j1 j3)
      | some i =>
        obtain ⟨b1, b2, b3⟩ := bk_some g hA hx hj24
        rw [dst_inj hA hd hx b1 j1 b3]
    unfold bkR
    cases f : ffind (fun b => (bk α x b).isSome) 1 23 with
    | none =>
      have := ffind_none f (dst α j x) (by omega) (by omega)
      rw [hjj] at this; cases this
    | some b =>
      obtain ⟨h1, h2, h3, h4⟩ := ffind_some f
      have hb : b = dst α j x := by
        rcases Nat.lt_trichotomy b (dst α j x) with c | c | c
        · rw [hsm b (by omega) (by omega) c] at h3; cases h3
        · exact c
        · have := h4 (dst α j x) (by omega) c
          rw [hjj] at this; cases this
      subst hb
      exact hjj
theorem mod24 (a b : Nat) (h : a < 1000) (h2 : b < 1000) : (nI a + nI b) - (nI a + nI b) / 24 * 24 = nI ((a + b) % 24) := by
  rw [nI_add, i32_24, pk_rem (by omega) (by omega) (by omega)]
theorem S_answer {K : Int32 → PH → Prop} {x : Nat} (hA : AI α) (hd : DP α) (H : HR Φ Z h t σ) (S : SR α σ) (hx : x < nn α 0) (hK : K (oI (ans α x)) h) : w_X3_answer Z t (nI x) K h := by
  have h6 := A_ns hA
  have hn := S_n S
  have hpx := A_pl hA hx
  unfold w_X3_answer
  rw [← bkR_ans hA hd hx] at hK
  refine gsP (fun n i => w_X3_answer_L2 Z t (nI x) K n i h) (fun b => (bk α x b).isSome) (fun o => K (oI (o.bind (bk α x))) h) 24 (fun n b hb hc => ?_) (fun n hc => ?_) 23 1 FU rfl (by decide) hK
  · show w_X3_answer_L2 Z t (nI x) K (n + 1) (nI b) h
    rw [w_X3_answer_L2, i32_24, if_neg (nI_ge hb (by omega))]
    refine gsP (fun n2 i => w_X3_answer_L10 Z t (nI x) (fun x2 h => w_X3_answer_L2 Z t (nI x) K n x2 h) K n2 (nI b) i h) (bkP α x b) (fun o => match o with | none => w_X3_answer_L2 Z t (nI x) K n (nI b + 1) h | some i => K (nI i) h) (nn α 0) (fun n2 i hi hc => ?_) (fun n2 hc => ?_) (nn α 0) 0 FU (Nat.zero_add _) (by unfold FU; omega) ?_
    · show w_X3_answer_L10 Z t (nI x) _ K (n2 + 1) (nI b) (nI i) h
      rw [w_X3_answer_L10]
      have hpi := A_pl hA hi
      refine H_place H (H_nP H ?_)
      rw [hn, if_neg (nI_ge hi (by omega))]
      refine H_place H (H_pl H (by omega) (H_place H (H_pl H (by omega) ?_)))
      rw [S_pl S hi, S_pl S hx, mod24 _ _ (by omega) (by omega)]
      rw [← nI_1] at hc
      by_cases c1 : (pl α i + b) % 24 = pl α x
      · rw [if_pos (by rw [c1])]
        refine H_waits H (H_w H (by omega) (H_nw H (by omega) ?_))
        rw [S_len S hi]
        have h9 := A_len hA i
        by_cases c2 : (qq α i).length = 0
        · rw [c2, if_pos nI_0]
          refine ⟨rc3_of H, S_idle hA H S (by omega) ?_⟩
          cases e : idp α i with
          | none =>
            rw [if_neg (by
              unfold bkP
              rw [decide_eq_true_eq, idp_none.mp e]
              exact fun z => by cases z.2.2)] at hc
            exact hc
          | some q =>
            rw [if_pos (by
              unfold bkP
              rw [decide_eq_true_eq]
              exact ⟨c1, c2, isSome_ne.mpr (fun z => by rw [idp_none.mpr z] at e; cases e)⟩)] at hc
            exact hc
        · rw [if_neg (nI_ne0 (by omega) (by omega))]
          rw [if_neg (by unfold bkP; rw [decide_eq_true_eq]; exact fun z => c2 z.2.1)] at hc
          exact hc
      · rw [if_neg (fun z => c1 (nI_inj (by omega) (by omega) z))]
        rw [if_neg (by unfold bkP; rw [decide_eq_true_eq]; exact fun z => c1 z.1)] at hc
        exact hc
    · show w_X3_answer_L10 Z t (nI x) _ K (n2 + 1) (nI b) (nI (nn α 0)) h
      rw [w_X3_answer_L10]
      refine H_place H (H_nP H ?_)
      rw [hn, if_pos (nI_le (Nat.le_refl _) (by omega))]
      exact hc
    · show (match bk α x b with | none => _ | some i => _)
      cases e : bk α x b with
      | none =>
        rw [if_neg (by rw [e]; decide), ← nI_1] at hc
        exact hc
      | some i =>
        rw [if_pos (by rw [e]; rfl)] at hc
        have hc : K (oI (bk α x b)) h := hc
        rw [e] at hc
        exact hc
  · show w_X3_answer_L2 Z t (nI x) K (n + 1) (nI 24) h
    rw [w_X3_answer_L2, i32_24, if_pos (nI_le (Nat.le_refl _) (by omega))]
    exact hc
-- what is told in all
def tdB (α : AS) (p1 : Int32) : Int32 := if p1 = 7 then ii α 2 0 else if p1 = 6 then 24 else 0
def td1 (α : AS) (p1 : Int32) (s : Nat) : Int32 := if p1 = 3 then nI (qq α s).length else 0
def td2 (α : AS) (p1 : Int32) (s : Nat) : Int32 := if p1 = 5 then ii α 0 s else 0
def td3 (α : AS) (p1 : Int32) (p : Nat) : Int32 := if p1 = 4 ∧ (oo α 3 p).isSome = true then 1 else if p1 = 6 ∧ exs α p 24 = true then -1 else 0
def td (α : AS) (p1 : Int32) : Int32 := ((tdB α p1 + isum (td1 α p1) 0 (nn α 0)) + isum (td2 α p1) 0 (nn α 0)) + isum (td3 α p1) 0 (nn α 1)
theorem P_neg2 (hA : AI α) (S : SR α σ) {p : Nat} (hp : p < nn α 1) : sV σ 3 p < 0 ↔ ¬ exs α p 24 = true := by
  rw [exs_t]
  rcases S_lc S hp with ⟨y, a1, a2, a3⟩ | ⟨s, b, a1, a2, a3, a4, a5, a6⟩
  · rw [a3]
    exact ⟨fun e => absurd e (nI_pos (by omega)), fun e => absurd ⟨y, a1, a2⟩ e⟩
  · rw [a4]
    exact ⟨fun _ ⟨x, _, e⟩ => A_01 hA e a3, fun _ => by decide⟩
theorem rk_le0 {o : Option Nat} : rk none o ≤ 0 ↔ o = none := rk_le (mk := none)
theorem S_told {K : Int32 → PH → Prop} {p1 : Int32} (hA : AI α) (H : HR Φ Z h t σ) (S : SR α σ) (hK : K (td α p1) h) : w_X3_told Z t p1 K h := by
  have h6 := A_ns hA
  have h12 := A_np hA
  have hn := S_n S
  have hm := S_m S
  have key : ∀ y : Int32, y = tdB α p1 → w_X3_told_L25 Z t p1 K y h := fun y hy => by
    unfold w_X3_told_L25
    refine H_waits H (H_nW H ?_)
    refine gsumP (fun n acc i => w_X3_told_L38 Z t p1 K n acc (sN σ 3) (nI (sN σ 0)) i h) (td1 α p1) (fun a => K ((a + isum (td2 α p1) 0 (nn α 0)) + isum (td3 α p1) 0 (nn α 1)) h) (sN σ 0) (fun n acc i hi hc => ?_) (fun n acc hc => ?_) (sN σ 0) 0 FU y (Nat.zero_add _) (by unfold FU; omega) ?_
    · show w_X3_told_L38 Z t p1 K (n + 1) acc (sN σ 3) (nI (sN σ 0)) (nI i) h
      rw [← nI_1] at hc
      rw [w_X3_told_L38, if_neg (nI_ge hi (by omega))]
      refine H_w H hi ?_
      unfold td1 at hc
      by_cases c : p1 = 3
      · rw [if_pos c] at hc ⊢
        refine H_nw H hi ?_
        rw [S_len S (by omega)]
        exact hc
      · rw [if_neg c] at hc ⊢
        exact hc
    · show w_X3_told_L38 Z t p1 K (n + 1) acc (sN σ 3) (nI (sN σ 0)) (nI (sN σ 0)) h
      rw [w_X3_told_L38, if_pos (nI_le (Nat.le_refl _) (by omega))]
      refine H_arr H (H_nA H ?_)
      refine gsumP (fun n acc i => w_X3_told_L84 Z t p1 K n acc (sN σ 4) (nI (sN σ 0)) i h) (td2 α p1) (fun a => K (a + isum (td3 α p1) 0 (nn α 1)) h) (sN σ 0) (fun n acc i hi hc => ?_) (fun n acc hc => ?_) (sN σ 0) 0 FU acc (Nat.zero_add _) (by unfold FU; omega) (by rw [hn]; exact hc)
      · show w_X3_told_L84 Z t p1 K (n + 1) acc (sN σ 4) (nI (sN σ 0)) (nI i) h
        rw [← nI_1] at hc
        rw [w_X3_told_L84, if_neg (nI_ge hi (by omega))]
        refine H_ar H hi ?_
        unfold td2 at hc
        by_cases c : p1 = 5
        · rw [if_pos c] at hc ⊢
          rw [S_ar S (by omega)]
          exact hc
        · rw [if_neg c] at hc ⊢
          exact hc
      · show w_X3_told_L84 Z t p1 K (n + 1) acc (sN σ 4) (nI (sN σ 0)) (nI (sN σ 0)) h
        rw [w_X3_told_L84, if_pos (nI_le (Nat.le_refl _) (by omega))]
        refine H_pods H (H_nD H ?_)
        refine gsumP (fun n acc i => w_X3_told_L129 Z t p1 K n acc (sN σ 5) (nI (sN σ 1)) i h) (td3 α p1) (fun a => K a h) (sN σ 1) (fun n acc i hi hc => ?_) (fun n acc hc => ?_) (sN σ 1) 0 FU acc (Nat.zero_add _) (by unfold FU; omega) (by rw [hm]; exact hc)
        · show w_X3_told_L129 Z t p1 K (n + 1) acc (sN σ 5) (nI (sN σ 1)) (nI i) h
          rw [← nI_1] at hc
          rw [w_X3_told_L129, if_neg (nI_ge hi (by omega))]
          refine H_p H hi ?_
          have k160 : ¬ (p1 = 4 ∧ (oo α 3 i).isSome = true) → w_X3_told_L160 Z t p1 (fun x2 x3 x4 x5 h => w_X3_told_L129 Z t p1 K n x2 x3 x4 x5 h) K acc (sN σ 5) (nI (sN σ 1)) (nI i) (sB σ 0 i) h := fun h4 => by
            unfold td3 at hc
            rw [if_neg h4] at hc
            unfold w_X3_told_L160
            by_cases c : p1 = 6
            · rw [if_pos c]
              refine H_f0 H hi ?_
              by_cases d : exs α i 24 = true
              · rw [if_pos ⟨c, d⟩] at hc
                rw [if_neg (fun z => (P_neg2 hA S (by omega)).mp z d)]
                exact hc
              · rw [if_neg (fun z => d z.2)] at hc
                rw [if_pos ((P_neg2 hA S (by omega)).mpr d)]
                exact hc
            · rw [if_neg c]
              rw [if_neg (fun z => c z.1)] at hc
              exact hc
          by_cases c : p1 = 4
          · rw [if_pos c]
            refine H_f4 H hi ?_
            rw [S_ri S (by omega)]
            by_cases d : oo α 3 i = none
            · rw [if_pos (rk_le0.mpr d)]
              exact k160 (fun z => by rw [d] at z; cases z.2)
            · rw [if_neg (fun z => d (rk_le0.mp z))]
              unfold td3 at hc
              rw [if_pos ⟨c, isSome_ne.mpr d⟩] at hc
              exact hc
          · rw [if_neg c]
            exact k160 (fun z => c z.1)
        · show w_X3_told_L129 Z t p1 K (n + 1) acc (sN σ 5) (nI (sN σ 1)) (nI (sN σ 1)) h
          rw [w_X3_told_L129, if_pos (nI_le (Nat.le_refl _) (by omega))]
          exact hc
    · rw [hn, hy]; exact hK
  unfold w_X3_told
  by_cases c : p1 = 7
  · rw [if_pos c]
    refine H_ans H ?_
    exact key _ (by rw [S_an S]; unfold tdB; rw [if_pos c])
  · rw [if_neg c]
    by_cases d : p1 = 6
    · rw [if_pos d]; exact key _ (by unfold tdB; rw [if_neg c, if_pos d])
    · rw [if_neg d]; exact key _ (by unfold tdB; rw [if_neg c, if_neg d])
end SRD
