-- single writes: the law's simulation and α go together
section SSET
variable {Φ : FR} {Z : Nat → ClassId} {h : PH} {t : Nat} {σ : SG} {α : AS}
theorem vne {k j k2 j2 : Nat} {v : Int32} (hk : k2 ≠ k) : sV (uV σ k j v) k2 j2 = sV σ k2 j2 := by rw [sV_uV, if_neg (fun z => hk z.1)]
theorem vne2 {k j k2 j2 : Nat} {v : Int32} (hj : j2 ≠ j) : sV (uV σ k j v) k2 j2 = sV σ k2 j2 := by rw [sV_uV, if_neg (fun z => hj z.2)]
theorem veq {k j : Nat} {v : Int32} : sV (uV σ k j v) k j = v := by rw [sV_uV, if_pos ⟨rfl, rfl⟩]
theorem SLOC_ne {k j : Nat} {v : Int32} {p : Nat} {β : AS} (h3 : k ≠ 3) (h4 : k ≠ 4) (h5 : k ≠ 5) (e0 : ∀ x, oo β 0 x = oo α 0 x) (e1 : ∀ x, oo β 1 x = oo α 1 x) (hl : SLOC α σ p) : SLOC β (uV σ k j v) p := by
  rcases hl with ⟨x, a1, a2, a3⟩ | ⟨s, b, a1, a2, a3, a4, a5, a6⟩
  · exact Or.inl ⟨x, a1, (e0 x).trans a2, (vne h3.symm).trans a3⟩
  · exact Or.inr ⟨s, b, a1, a2, (e1 _).trans a3, (vne h3.symm).trans a4, (vne h4.symm).trans a5, (vne h5.symm).trans a6⟩
theorem SR3 {x : Nat} {v : Option Nat} (S : SR α σ) : SR (aO α 2 x v) (uV σ 6 x (oI v)) := by
  obtain ⟨h0, h1, h2, h3, h4, h5, h6, h7, h8, h9, h10, h11, h12, h13⟩ := S
  refine ⟨h0, h1, (vne (by decide)).trans h2, (vne (by decide)).trans h3, (vne (by decide)).trans h4, fun s hs => (vne (by decide)).trans (h5 s hs), fun s hs => (vne (by decide)).trans (h6 s hs), h7, h8, ?_, fun p hp => (vne (by decide)).trans (h10 p hp), fun p hp => (vne (by decide)).trans (h11 p hp), fun p hp => (vne (by decide)).trans (h12 p hp), fun p hp => SLOC_ne (by decide) (by decide) (by decide) (fun _ => rfl) (fun _ => rfl) (h13 p hp)⟩
  intro p hp
  rw [sV_uV, oo_aO]
  by_cases c : p = x
  · rw [if_pos ⟨rfl, c⟩, if_pos ⟨rfl, c⟩]
  · rw [if_neg (fun z => c z.2), if_neg (fun z => c z.2)]; exact h9 p hp
theorem SR4 {x : Nat} {v : Option Nat} (S : SR α σ) : SR (aO α 3 x v) (uV σ 7 x (rk none v)) := by
  obtain ⟨h0, h1, h2, h3, h4, h5, h6, h7, h8, h9, h10, h11, h12, h13⟩ := S
  refine ⟨h0, h1, (vne (by decide)).trans h2, (vne (by decide)).trans h3, (vne (by decide)).trans h4, fun s hs => (vne (by decide)).trans (h5 s hs), fun s hs => (vne (by decide)).trans (h6 s hs), h7, h8, fun p hp => (vne (by decide)).trans (h9 p hp), ?_, fun p hp => (vne (by decide)).trans (h11 p hp), fun p hp => (vne (by decide)).trans (h12 p hp), fun p hp => SLOC_ne (by decide) (by decide) (by decide) (fun _ => rfl) (fun _ => rfl) (h13 p hp)⟩
  intro p hp
  rw [sV_uV, oo_aO]
  by_cases c : p = x
  · rw [if_pos ⟨rfl, c⟩, if_pos ⟨rfl, c⟩]
  · rw [if_neg (fun z => c z.2), if_neg (fun z => c z.2)]; exact h10 p hp
theorem SR5 {x : Nat} {v : Int32} (S : SR α σ) : SR (aI α 1 x v) (uV σ 8 x v) := by
  obtain ⟨h0, h1, h2, h3, h4, h5, h6, h7, h8, h9, h10, h11, h12, h13⟩ := S
  refine ⟨h0, h1, (vne (by decide)).trans h2, (vne (by decide)).trans h3, (vne (by decide)).trans h4, fun s hs => (vne (by decide)).trans (h5 s hs), fun s hs => (vne (by decide)).trans (h6 s hs), h7, h8, fun p hp => (vne (by decide)).trans (h9 p hp), fun p hp => (vne (by decide)).trans (h10 p hp), ?_, fun p hp => (vne (by decide)).trans (h12 p hp), fun p hp => SLOC_ne (by decide) (by decide) (by decide) (fun _ => rfl) (fun _ => rfl) (h13 p hp)⟩
  intro p hp
  rw [sV_uV, ii_aI]
  by_cases c : p = x
  · rw [if_pos ⟨rfl, c⟩, if_pos ⟨rfl, c⟩]
  · rw [if_neg (fun z => c z.2), if_neg (fun z => c z.2)]; exact h11 p hp
theorem SR6 {x : Nat} {v : Int32} (S : SR α σ) : SR (aI α 3 x v) (uV σ 9 x v) := by
  obtain ⟨h0, h1, h2, h3, h4, h5, h6, h7, h8, h9, h10, h11, h12, h13⟩ := S
  refine ⟨h0, h1, (vne (by decide)).trans h2, (vne (by decide)).trans h3, (vne (by decide)).trans h4, fun s hs => (vne (by decide)).trans (h5 s hs), fun s hs => (vne (by decide)).trans (h6 s hs), h7, h8, fun p hp => (vne (by decide)).trans (h9 p hp), fun p hp => (vne (by decide)).trans (h10 p hp), fun p hp => (vne (by decide)).trans (h11 p hp), ?_, fun p hp => SLOC_ne (by decide) (by decide) (by decide) (fun _ => rfl) (fun _ => rfl) (h13 p hp)⟩
  intro p hp
  rw [sV_uV, ii_aI]
  by_cases c : p = x
  · rw [if_pos ⟨rfl, c⟩, if_pos ⟨rfl, c⟩]
  · rw [if_neg (fun z => c z.2), if_neg (fun z => c z.2)]; exact h12 p hp
theorem SRar {x : Nat} {v : Int32} (S : SR α σ) : SR (aI α 0 x v) (uV σ 2 x v) := by
  obtain ⟨h0, h1, h2, h3, h4, h5, h6, h7, h8, h9, h10, h11, h12, h13⟩ := S
  refine ⟨h0, h1, (vne (by decide)).trans h2, (vne (by decide)).trans h3, (vne (by decide)).trans h4, fun s hs => (vne (by decide)).trans (h5 s hs), ?_, h7, h8, fun p hp => (vne (by decide)).trans (h9 p hp), fun p hp => (vne (by decide)).trans (h10 p hp), fun p hp => (vne (by decide)).trans (h11 p hp), fun p hp => (vne (by decide)).trans (h12 p hp), fun p hp => SLOC_ne (by decide) (by decide) (by decide) (fun _ => rfl) (fun _ => rfl) (h13 p hp)⟩
  intro p hp
  rw [sV_uV, ii_aI]
  by_cases c : p = x
  · rw [if_pos ⟨rfl, c⟩, if_pos ⟨rfl, c⟩]
  · rw [if_neg (fun z => c z.2), if_neg (fun z => c z.2)]; exact h6 p hp
theorem SRan {v : Int32} (S : SR α σ) : SR (aI α 2 0 v) (uV σ 0 1 v) := by
  obtain ⟨h0, h1, h2, h3, h4, h5, h6, h7, h8, h9, h10, h11, h12, h13⟩ := S
  exact ⟨h0, h1, (vne2 (by decide)).trans h2, veq, (vne2 (by decide)).trans h4, fun s hs => (vne (by decide)).trans (h5 s hs), fun s hs => (vne (by decide)).trans (h6 s hs), h7, h8, fun p hp => (vne (by decide)).trans (h9 p hp), fun p hp => (vne (by decide)).trans (h10 p hp), fun p hp => (vne (by decide)).trans (h11 p hp), fun p hp => (vne (by decide)).trans (h12 p hp), fun p hp => SLOC_ne (by decide) (by decide) (by decide) (fun _ => rfl) (fun _ => rfl) (h13 p hp)⟩
theorem SRbd {v : Int32} (S : SR α σ) : SR (aI α 2 1 v) (uV σ 0 2 v) := by
  obtain ⟨h0, h1, h2, h3, h4, h5, h6, h7, h8, h9, h10, h11, h12, h13⟩ := S
  exact ⟨h0, h1, (vne2 (by decide)).trans h2, (vne2 (by decide)).trans h3, veq, fun s hs => (vne (by decide)).trans (h5 s hs), fun s hs => (vne (by decide)).trans (h6 s hs), h7, h8, fun p hp => (vne (by decide)).trans (h9 p hp), fun p hp => (vne (by decide)).trans (h10 p hp), fun p hp => (vne (by decide)).trans (h11 p hp), fun p hp => (vne (by decide)).trans (h12 p hp), fun p hp => SLOC_ne (by decide) (by decide) (by decide) (fun _ => rfl) (fun _ => rfl) (h13 p hp)⟩
theorem SR_in {p x s b : Nat} (hA : AI α) (S : SR α σ) (hx : oo α 0 x = some p) (hs : s < 6) (hb : b < 3) (hc : oo α 1 (3 * s + b) = none) : SR (aO (aO α 0 x none) 1 (3 * s + b) (some p)) (uV (uV (uV σ 3 p (-1)) 4 p (nI s)) 5 p (nI b)) := by
  obtain ⟨h0, h1, h2, h3, h4, h5, h6, h7, h8, h9, h10, h11, h12, h13⟩ := S
  have e : ∀ k j, k ≠ 3 → k ≠ 4 → k ≠ 5 → sV (uV (uV (uV σ 3 p (-1)) 4 p (nI s)) 5 p (nI b)) k j = sV σ k j := fun k j a b c => by rw [vne c, vne b, vne a]
  refine ⟨h0, h1, (e 0 0 (by decide) (by decide) (by decide)).trans h2, (e 0 1 (by decide) (by decide) (by decide)).trans h3, (e 0 2 (by decide) (by decide) (by decide)).trans h4, fun s hs => (e 1 s (by decide) (by decide) (by decide)).trans (h5 s hs), fun s hs => (e 2 s (by decide) (by decide) (by decide)).trans (h6 s hs), h7, h8, fun q hq => (e 6 q (by decide) (by decide) (by decide)).trans (h9 q hq), fun q hq => (e 7 q (by decide) (by decide) (by decide)).trans (h10 q hq), fun q hq => (e 8 q (by decide) (by decide) (by decide)).trans (h11 q hq), fun q hq => (e 9 q (by decide) (by decide) (by decide)).trans (h12 q hq), fun q hq => ?_⟩
  by_cases c : q = p
  · subst c
    refine Or.inr ⟨s, b, hs, hb, ?_, ?_, ?_, veq⟩
    · rw [oo_aO, if_pos ⟨rfl, rfl⟩]
    · rw [vne (by decide), vne (by decide), veq]
    · rw [vne (by decide), veq]
  · have e2 : ∀ k, sV (uV (uV (uV σ 3 p (-1)) 4 p (nI s)) 5 p (nI b)) k q = sV σ k q := fun k => by rw [vne2 c, vne2 c, vne2 c]
    rcases h13 q hq with ⟨y, a1, a2, a3⟩ | ⟨s2, b2, a1, a2, a3, a4, a5, a6⟩
    · refine Or.inl ⟨y, a1, ?_, (e2 3).trans a3⟩
      rw [oo_aO, if_neg (fun z => absurd z.1 (by decide)), oo_aO, if_neg (fun z => by
        have z2 := z.2
        rw [z2, hx] at a2
        exact c (Option.some.inj a2).symm)]
      exact a2
    · refine Or.inr ⟨s2, b2, a1, a2, ?_, (e2 3).trans a4, (e2 4).trans a5, (e2 5).trans a6⟩
      rw [oo_aO, if_neg (fun z => by rw [z.2, hc] at a3; cases a3), oo_aO, if_neg (fun z => absurd z.1 (by decide))]
      exact a3
theorem SR_out {p x c : Nat} (S : SR α σ) (hx : oo α 0 x = none) (hx4 : x < 24) (hc : oo α 1 c = some p) : SR (aO (aO α 0 x (some p)) 1 c none) (uV σ 3 p (nI x)) := by
  obtain ⟨h0, h1, h2, h3, h4, h5, h6, h7, h8, h9, h10, h11, h12, h13⟩ := S
  refine ⟨h0, h1, (vne (by decide)).trans h2, (vne (by decide)).trans h3, (vne (by decide)).trans h4, fun s hs => (vne (by decide)).trans (h5 s hs), fun s hs => (vne (by decide)).trans (h6 s hs), h7, h8, fun q hq => (vne (by decide)).trans (h9 q hq), fun q hq => (vne (by decide)).trans (h10 q hq), fun q hq => (vne (by decide)).trans (h11 q hq), fun q hq => (vne (by decide)).trans (h12 q hq), fun q hq => ?_⟩
  by_cases d : q = p
  · subst d
    exact Or.inl ⟨x, hx4, by rw [oo_aO, if_neg (fun z => absurd z.1 (by decide)), oo_aO, if_pos ⟨rfl, rfl⟩], veq⟩
  · rcases h13 q hq with ⟨y, a1, a2, a3⟩ | ⟨s2, b2, a1, a2, a3, a4, a5, a6⟩
    · refine Or.inl ⟨y, a1, ?_, (vne2 d).trans a3⟩
      rw [oo_aO, if_neg (fun z => absurd z.1 (by decide)), oo_aO, if_neg (fun z => by rw [z.2, hx] at a2; cases a2)]
      exact a2
    · refine Or.inr ⟨s2, b2, a1, a2, ?_, (vne2 d).trans a4, (vne2 d).trans a5, (vne2 d).trans a6⟩
      rw [oo_aO, if_neg (fun z => by
        rw [z.2, hc] at a3
        exact d (Option.some.inj a3).symm), oo_aO, if_neg (fun z => absurd z.1 (by decide))]
      exact a3
theorem SR_fol {v : Int32} (S : SR α σ) : SR α (uV σ 0 3 v) := by
  obtain ⟨h0, h1, h2, h3, h4, h5, h6, h7, h8, h9, h10, h11, h12, h13⟩ := S
  exact ⟨h0, h1, (vne2 (by decide)).trans h2, (vne2 (by decide)).trans h3, (vne2 (by decide)).trans h4, fun s hs => (vne (by decide)).trans (h5 s hs), fun s hs => (vne (by decide)).trans (h6 s hs), h7, h8, fun p hp => (vne (by decide)).trans (h9 p hp), fun p hp => (vne (by decide)).trans (h10 p hp), fun p hp => (vne (by decide)).trans (h11 p hp), fun p hp => (vne (by decide)).trans (h12 p hp), fun p hp => SLOC_ne (by decide) (by decide) (by decide) (fun _ => rfl) (fun _ => rfl) (h13 p hp)⟩
/-- the queue of s is another one -/
theorem SR_queue {s b : Nat} {q : List (Nat × Nat × Nat)} {l : List RwT} (S : SR α σ) (hl : l.length = q.length) (hq : ∀ (i : Nat) (e : RwT) (e2 : Nat × Nat × Nat), l[i]? = some e → q[i]? = some e2 → e.2 0 = nI e2.1 ∧ e.2 1 = nI (nn α 2) - nI e2.2.1 ∧ e.2 2 = 0) : SR (aQ α s q) (uB (uL σ s l) 1 s b) := by
  obtain ⟨h0, h1, h2, h3, h4, h5, h6, h7, h8, h9, h10, h11, h12, h13⟩ := S
  refine ⟨h0, h1, h2, h3, h4, h5, h6, fun k hk => ?_, fun k i e e2 hk e1 e3 => ?_, h9, h10, h11, h12, h13⟩
  · rw [sL_uB, sL_uL, qq_aQ]
    by_cases c : k = s
    · rw [if_pos c, if_pos c]; exact hl
    · rw [if_neg c, if_neg c]; exact h7 k hk
  · rw [sL_uB, sL_uL] at e1
    rw [qq_aQ] at e3
    by_cases c : k = s
    · rw [if_pos c] at e1 e3; exact hq i e e2 e1 e3
    · rw [if_neg c] at e1 e3; exact h8 k i e e2 hk e1 e3
-- what grows: nothing that was there is touched
def EXT (h0 h : PH) : Prop := ∀ a, a ∈ h0.1 → a ∈ h.1 ∧ h.2 a = h0.2 a
theorem EXT_rf : EXT h h := fun _ q => ⟨q, rfl⟩
theorem EXT_ad {h0 : PH} {q : Nat} {e : va_E} (E : EXT h0 h) (hq : q ∉ h.1) : EXT h0 (had h q e) := fun a ha => ⟨List.mem_append_left _ (E a ha).1, (va_up_ne h.2 e (fun z => hq (by rw [← z]; exact (E a ha).1))).trans (E a ha).2⟩
theorem EXT_up {h0 : PH} {q : Nat} {e : va_E} (E : EXT h0 h) (hq : q ∉ h0.1) : EXT h0 (hup h q e) := fun a ha => ⟨(E a ha).1, (va_up_ne h.2 e (fun z => hq (by rw [← z]; exact ha))).trans (E a ha).2⟩
theorem EXT_at {h0 : PH} {a : Nat} {e : va_E} (E : EXT h0 h) (k : at_ h0 a e) : at_ h a e := ⟨(E a k.1).1, (E a k.1).2.trans k.2⟩
theorem EXT_tr {h0 h1 : PH} (E : EXT h0 h1) (F : EXT h1 h) : EXT h0 h := fun a ha => ⟨(F a (E a ha).1).1, (F a (E a ha).1).2.trans (E a ha).2⟩
theorem HR_ext {h0 : PH} (E : EXT h0 h) (H : HR Φ Z h0 t σ) : HR Φ Z h t σ := by
  obtain ⟨h1, h2, h4, ⟨f5, h5, g5⟩, ⟨f6, h6, g6⟩, h7, h8, h9, h10, h11, h12, h13, h14⟩ := H
  exact ⟨EXT_at E h1, EXT_at E h2, EXT_at E h4, ⟨f5, EXT_at E h5, g5⟩, ⟨f6, EXT_at E h6, g6⟩, fun k hk => by
    obtain ⟨f, a1, a2⟩ := h7 k hk
    exact ⟨f, EXT_at E a1, a2⟩, fun k hk i e hi => EXT_at E (h8 k hk i e hi), fun p hp => EXT_at E (h9 p hp), h10, h11, h12, h13, h14.1, h14.2.1, h14.2.2.1, fun a ha => ⟨EXT_at E (h14.2.2.2 a ha).1, (h14.2.2.2 a ha).2⟩⟩
/-- the station s has another queue: its new row of rows lies at q -/
theorem HU_w {K : PH → Prop} {s q : Nat} {l : List RwT} {f : Nat → Option Nat} (H : HR Φ Z h t σ) (hs : s < sN σ 0) (hq : at_ h q (.inl (Z 2, vQ l.length f))) (hf : ∀ (i : Nat) (e : RwT), l[i]? = some e → f i = some e.1) (hq3 : q ≠ sN σ 3)
    (c1 : ∀ (i : Nat) (e : RwT), l[i]? = some e → at_ h e.1 (.inl (Z 0, 3, .inl e.2)) ∧ e.1 ≠ sN σ 2 ∧ e.1 ≠ sN σ 4) (c2 : ∀ (i j : Nat) (e e2 : RwT), l[i]? = some e → l[j]? = some e2 → e.1 = e2.1 → i = j) (c3 : ∀ (i k j : Nat) (e e2 : RwT), l[i]? = some e → k < sN σ 0 → k ≠ s → (sL σ k)[j]? = some e2 → e.1 ≠ e2.1) (c4 : l.length ≤ 9) (c5 : ∀ a, a ∈ Φ → ∀ (i : Nat) (e : RwT), l[i]? = some e → a.1 ≠ e.1)
    (hK : ∀ h1, HR Φ Z h1 t (uB (uL σ s l) 1 s q) → K h1) : sQ3 Z h (sN σ 3) (nI s) q K := by
  have h6' := H_n6 H
  obtain ⟨h1, h2, h4, ⟨f5, h5, g5⟩, ⟨f6, h6, g6⟩, h7, h8, h9, h10, h11, h12, h13, h14⟩ := H
  refine ⟨_, f5, h5.1, h5.2, in_lt hs (by omega), ⟨_, f, hq.1, hq.2⟩, hK _ ?_⟩
  rw [nI_clamp (by omega)]
  have sl : ∀ (k2 i2 : Nat) (e2 : RwT), (sL (uB (uL σ s l) 1 s q) k2)[i2]? = some e2 → (k2 = s ∧ l[i2]? = some e2) ∨ (k2 ≠ s ∧ (sL σ k2)[i2]? = some e2) := fun k2 i2 e2 z => by
    rw [sL_uB, sL_uL] at z
    by_cases c : k2 = s
    · rw [if_pos c] at z; exact Or.inl ⟨c, z⟩
    · rw [if_neg c] at z; exact Or.inr ⟨c, z⟩
  refine ⟨at_up h1 (at_ne h1 h5 (fun z => by cases z)), at_up h2 (at_ne h2 h5 (Ne.symm ri_ne)), at_up h4 (at_ne h4 h5 (Ne.symm ri_ne)), ⟨va_up f5 s (some q), at_upS h5, fun k hk => ?_⟩, ⟨f6, at_up h6 h12.2.1.symm, g6⟩, fun k hk => ?_, fun k hk i e hi => ?_, fun p hp => at_up (h9 p hp) (at_ne (h9 p hp) h5 (fun z => by cases z)), h10, fun k i e k2 i2 e2 hk hk2 q1 q2 q3 => ?_, ⟨h12.1, h12.2.1, fun k hk => ?_⟩, fun k i e hk hi => ?_, h14.1, h14.2.1, fun k => ?_, fun a ha => ⟨at_up (h14.2.2.2 a ha).1 (at_ne (h14.2.2.2 a ha).1 h5 (Ne.symm ri_ne)), (h14.2.2.2 a ha).2.1, (h14.2.2.2 a ha).2.2.1, fun k i e hk hi => ?_⟩⟩
  · rw [sB_uB]
    by_cases c : k = s
    · rw [if_pos ⟨rfl, c⟩, c, va_up_self]
    · rw [if_neg (fun z => c z.2), va_up_ne _ _ c]; exact g5 k hk
  · rw [sL_uB, sL_uL, sB_uB]
    by_cases c : k = s
    · rw [if_pos c, if_pos ⟨rfl, c⟩]
      exact ⟨f, at_up hq hq3, hf⟩
    · rw [if_neg c, if_neg (fun z => c z.2)]
      obtain ⟨g, a1, a2⟩ := h7 k hk
      exact ⟨g, at_up a1 (h12.2.2 k hk), a2⟩
  · rcases sl k i e hi with ⟨_, z⟩ | ⟨_, z⟩
    · exact at_up (c1 i e z).1 (at_ne (c1 i e z).1 h5 (Ne.symm ri_ne))
    · exact at_up (h8 k hk i e z) (at_ne (h8 k hk i e z) h5 (Ne.symm ri_ne))
  · rcases sl k i e q1 with ⟨b1, z1⟩ | ⟨b1, z1⟩ <;> rcases sl k2 i2 e2 q2 with ⟨b2, z2⟩ | ⟨b2, z2⟩
    · exact ⟨b1.trans b2.symm, c2 i i2 e e2 z1 z2 q3⟩
    · exact absurd q3 (c3 i k2 i2 e e2 z1 hk2 b2 z2)
    · exact absurd q3.symm (c3 i2 k i e2 e z2 hk b1 z1)
    · exact h11 k i e k2 i2 e2 hk hk2 z1 z2 q3
  · rw [sB_uB]
    by_cases c : k = s
    · rw [if_pos ⟨rfl, c⟩]; exact hq3
    · rw [if_neg (fun z => c z.2)]; exact h12.2.2 k hk
  · rcases sl k i e hi with ⟨_, z⟩ | ⟨_, z⟩
    · exact (c1 i e z).2
    · exact h13 k i e hk z
  · rw [sL_uB, sL_uL]
    by_cases c : k = s
    · rw [if_pos c]; exact c4
    · rw [if_neg c]; exact h14.2.2.1 k
  · rcases sl k i e hi with ⟨_, z⟩ | ⟨_, z⟩
    · exact c5 a ha i e z
    · exact (h14.2.2.2 a ha).2.2.2 k i e hk z
end SSET
