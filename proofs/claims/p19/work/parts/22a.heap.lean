-- the law's own simulation: what its heap holds, as numbers and addresses
abbrev RwT : Type := Nat × (Nat → Int32)
abbrev SG : Type := (Nat → Nat) × (Nat → Nat → Nat) × (Nat → Nat → Int32) × (Nat → List (Nat × (Nat → Int32)))
def sN (σ : SG) (k : Nat) : Nat := σ.1 k
def sB (σ : SG) (k j : Nat) : Nat := σ.2.1 k j
def sV (σ : SG) (k j : Nat) : Int32 := σ.2.2.1 k j
def sL (σ : SG) (s : Nat) : List (Nat × (Nat → Int32)) := σ.2.2.2 s
def uN (σ : SG) (k v : Nat) : SG := (fun j => if j = k then v else σ.1 j, σ.2)
def uB (σ : SG) (k j v : Nat) : SG := (σ.1, fun k2 j2 => if k2 = k ∧ j2 = j then v else σ.2.1 k2 j2, σ.2.2)
def uV (σ : SG) (k j : Nat) (v : Int32) : SG := (σ.1, σ.2.1, fun k2 j2 => if k2 = k ∧ j2 = j then v else σ.2.2.1 k2 j2, σ.2.2.2)
def uL (σ : SG) (s : Nat) (l : List (Nat × (Nat → Int32))) : SG := (σ.1, σ.2.1, σ.2.2.1, fun s2 => if s2 = s then l else σ.2.2.2 s2)
theorem sN_uN {σ : SG} {k v j : Nat} : sN (uN σ k v) j = if j = k then v else sN σ j := rfl
theorem sN_uB {σ : SG} {k j v i : Nat} : sN (uB σ k j v) i = sN σ i := rfl
theorem sN_uV {σ : SG} {k j i : Nat} {v : Int32} : sN (uV σ k j v) i = sN σ i := rfl
theorem sN_uL {σ : SG} {s i : Nat} {l : List (Nat × (Nat → Int32))} : sN (uL σ s l) i = sN σ i := rfl
theorem sB_uB {σ : SG} {k j v k2 j2 : Nat} : sB (uB σ k j v) k2 j2 = if k2 = k ∧ j2 = j then v else sB σ k2 j2 := rfl
theorem sB_uN {σ : SG} {k v k2 j2 : Nat} : sB (uN σ k v) k2 j2 = sB σ k2 j2 := rfl
theorem sB_uV {σ : SG} {k j k2 j2 : Nat} {v : Int32} : sB (uV σ k j v) k2 j2 = sB σ k2 j2 := rfl
theorem sB_uL {σ : SG} {s k2 j2 : Nat} {l : List (Nat × (Nat → Int32))} : sB (uL σ s l) k2 j2 = sB σ k2 j2 := rfl
theorem sV_uV {σ : SG} {k j k2 j2 : Nat} {v : Int32} : sV (uV σ k j v) k2 j2 = if k2 = k ∧ j2 = j then v else sV σ k2 j2 := rfl
theorem sV_uN {σ : SG} {k v k2 j2 : Nat} : sV (uN σ k v) k2 j2 = sV σ k2 j2 := rfl
theorem sV_uB {σ : SG} {k j v k2 j2 : Nat} : sV (uB σ k j v) k2 j2 = sV σ k2 j2 := rfl
theorem sV_uL {σ : SG} {s k2 j2 : Nat} {l : List (Nat × (Nat → Int32))} : sV (uL σ s l) k2 j2 = sV σ k2 j2 := rfl
theorem sL_uL {σ : SG} {s s2 : Nat} {l : List (Nat × (Nat → Int32))} : sL (uL σ s l) s2 = if s2 = s then l else sL σ s2 := rfl
theorem sL_uN {σ : SG} {k v s : Nat} : sL (uN σ k v) s = sL σ s := rfl
theorem sL_uB {σ : SG} {k j v s : Nat} : sL (uB σ k j v) s = sL σ s := rfl
theorem sL_uV {σ : SG} {k j s : Nat} {v : Int32} : sL (uV σ k j v) s = sL σ s := rfl
abbrev simF (σ : SG) : List Value := [.ref (sN σ 2), .ref (sN σ 3), .ref (sN σ 4), .ref (sN σ 5), .int (sV σ 0 0), .int (sV σ 0 1), .int (sV σ 0 2), .int (sV σ 0 3)]
abbrev podF (σ : SG) (p : Nat) : List Value := [.int (sV σ 3 p), .int (sV σ 4 p), .int (sV σ 5 p), .int (sV σ 6 p), .int (sV σ 7 p), .int (sV σ 8 p), .int (sV σ 9 p)]
/-- a cell of the heap -/
def at_ (h : PH) (a : Nat) (e : va_E) : Prop := a ∈ h.1 ∧ h.2 a = e
/-- arrays beside it, that it never touches -/
abbrev FR : Type := List (Nat × Nat × (Nat → Int32))
/-- numbers: 0 stations, 1 pods; addresses: 2 places, 3 waits, 4 arrived, 5 pods -/
def HR (Φ : FR) (Z : Nat → ClassId) (h : PH) (t : Nat) (σ : SG) : Prop :=
  at_ h t (.inr (3, simF σ)) ∧
  at_ h (sN σ 2) (.inl (Z 0, sN σ 0, .inl (sV σ 1))) ∧
  at_ h (sN σ 4) (.inl (Z 0, sN σ 0, .inl (sV σ 2))) ∧
  (∃ f, at_ h (sN σ 3) (.inl (Z 3, vQ (sN σ 0) f)) ∧ ∀ k, k < sN σ 0 → f k = some (sB σ 1 k)) ∧
  (∃ f, at_ h (sN σ 5) (.inl (Z 1, vQ (sN σ 1) f)) ∧ ∀ j, j < sN σ 1 → f j = some (sB σ 0 j)) ∧
  (∀ k, k < sN σ 0 → ∃ f, at_ h (sB σ 1 k) (.inl (Z 2, vQ (sL σ k).length f)) ∧ ∀ (i : Nat) (e : RwT), (sL σ k)[i]? = some e → f i = some e.1) ∧
  (∀ k, k < sN σ 0 → ∀ (i : Nat) (e : RwT), (sL σ k)[i]? = some e → at_ h e.1 (.inl (Z 0, 3, .inl e.2))) ∧
  (∀ p, p < sN σ 1 → at_ h (sB σ 0 p) (.inr (2, podF σ p))) ∧
  (∀ p q, p < sN σ 1 → q < sN σ 1 → sB σ 0 p = sB σ 0 q → p = q) ∧
  (∀ (k i : Nat) (e : RwT) (k2 i2 : Nat) (e2 : RwT), k < sN σ 0 → k2 < sN σ 0 → (sL σ k)[i]? = some e → (sL σ k2)[i2]? = some e2 → e.1 = e2.1 → k = k2 ∧ i = i2) ∧
  (sN σ 2 ≠ sN σ 4 ∧ sN σ 3 ≠ sN σ 5 ∧ ∀ k, k < sN σ 0 → sB σ 1 k ≠ sN σ 3) ∧
  (∀ (k i : Nat) (e : RwT), k < sN σ 0 → (sL σ k)[i]? = some e → e.1 ≠ sN σ 2 ∧ e.1 ≠ sN σ 4) ∧
  sN σ 0 ≤ 6 ∧ sN σ 1 ≤ 12 ∧ (∀ k, (sL σ k).length ≤ 9) ∧
  ∀ a, a ∈ Φ → at_ h a.1 (.inl (Z 0, a.2.1, .inl a.2.2)) ∧ a.1 ≠ sN σ 2 ∧ a.1 ≠ sN σ 4 ∧ ∀ (k i : Nat) (e : RwT), k < sN σ 0 → (sL σ k)[i]? = some e → a.1 ≠ e.1
theorem at_up {h : PH} {a b : Nat} {e e1 : va_E} (h1 : at_ h b e) (hn : b ≠ a) : at_ (hup h a e1) b e := ⟨h1.1, (va_up_ne h.2 e1 hn).trans h1.2⟩
theorem at_upS {h : PH} {a : Nat} {e e1 : va_E} (h1 : at_ h a e) : at_ (hup h a e1) a e1 := ⟨h1.1, va_up_self h.2 a e1⟩
theorem at_ad {h : PH} {q b : Nat} {e e1 : va_E} (h1 : at_ h b e) (hq : q ∉ h.1) : at_ (had h q e1) b e := ⟨List.mem_append_left _ h1.1, (va_up_ne h.2 e1 (fun z => hq (by rw [← z]; exact h1.1))).trans h1.2⟩
theorem at_adS {h : PH} {q : Nat} {e1 : va_E} : at_ (had h q e1) q e1 := ⟨List.mem_append_right _ List.mem_cons_self, va_up_self h.2 q e1⟩
theorem at_ne {h : PH} {a b : Nat} {e e1 : va_E} (h1 : at_ h b e) (h2 : at_ h a e1) (hn : e ≠ e1) : b ≠ a := fun z => hn (by rw [← h1.2, ← h2.2, z])
theorem ri_ne {z z2 : ClassId} {n m : Nat} {f : Nat → Option Nat} {g : Nat → Int32} : (Sum.inl (z, vQ n f) : va_E) ≠ Sum.inl (z2, m, Sum.inl g) := fun q => by
  have h := (Prod.mk.inj (Prod.mk.inj (Sum.inl.inj q)).2).2
  cases h
theorem at_fr {h : PH} {q b : Nat} {e : va_E} (h1 : at_ h b e) (hq : q ∉ h.1) : b ≠ q := fun z => hq (z ▸ h1.1)
section HEAP
variable {Φ : FR} {Z : Nat → ClassId} {h : PH} {t : Nat} {σ : SG}
theorem rc3_of (H : HR Φ Z h t σ) : rc3 h t := ⟨H.1.1, _, H.1.2⟩
-- reading
theorem H_place {K : Nat → Prop} (H : HR Φ Z h t σ) (hK : K (sN σ 2)) : gR h 3 0 t K := ⟨_, _, H.1.1, H.1.2, rfl, hK⟩
theorem H_waits {K : Nat → Prop} (H : HR Φ Z h t σ) (hK : K (sN σ 3)) : gR h 3 1 t K := ⟨_, _, H.1.1, H.1.2, rfl, hK⟩
theorem H_arr {K : Nat → Prop} (H : HR Φ Z h t σ) (hK : K (sN σ 4)) : gR h 3 2 t K := ⟨_, _, H.1.1, H.1.2, rfl, hK⟩
theorem H_pods {K : Nat → Prop} (H : HR Φ Z h t σ) (hK : K (sN σ 5)) : gR h 3 3 t K := ⟨_, _, H.1.1, H.1.2, rfl, hK⟩
theorem H_min {K : Int32 → Prop} (H : HR Φ Z h t σ) (hK : K (sV σ 0 0)) : gI h 3 4 t K := ⟨_, _, H.1.1, H.1.2, rfl, hK⟩
theorem H_ans {K : Int32 → Prop} (H : HR Φ Z h t σ) (hK : K (sV σ 0 1)) : gI h 3 5 t K := ⟨_, _, H.1.1, H.1.2, rfl, hK⟩
theorem H_brd {K : Int32 → Prop} (H : HR Φ Z h t σ) (hK : K (sV σ 0 2)) : gI h 3 6 t K := ⟨_, _, H.1.1, H.1.2, rfl, hK⟩
theorem H_nP {K : Int32 → Prop} (H : HR Φ Z h t σ) (hK : K (nI (sN σ 0))) : lI Z h (sN σ 2) K := ⟨_, _, H.2.1.1, H.2.1.2, hK⟩
theorem H_nA {K : Int32 → Prop} (H : HR Φ Z h t σ) (hK : K (nI (sN σ 0))) : lI Z h (sN σ 4) K := ⟨_, _, H.2.2.1.1, H.2.2.1.2, hK⟩
theorem H_nW {K : Int32 → Prop} (H : HR Φ Z h t σ) (hK : K (nI (sN σ 0))) : lQ Z h 3 (sN σ 3) K := by
  obtain ⟨f, h1, _⟩ := H.2.2.2.1
  exact ⟨_, f, h1.1, h1.2, hK⟩
theorem H_nD {K : Int32 → Prop} (H : HR Φ Z h t σ) (hK : K (nI (sN σ 1))) : lQ Z h 1 (sN σ 5) K := by
  obtain ⟨f, h1, _⟩ := H.2.2.2.2.1
  exact ⟨_, f, h1.1, h1.2, hK⟩
theorem in_lt {k n : Nat} (hk : k < n) (hn : n < 2 ^ 31) : vp_in (nI k) n := vp_in_nI hk hn
theorem H_n6 (H : HR Φ Z h t σ) : sN σ 0 ≤ 6 := H.2.2.2.2.2.2.2.2.2.2.2.2.1
theorem H_m12 (H : HR Φ Z h t σ) : sN σ 1 ≤ 12 := H.2.2.2.2.2.2.2.2.2.2.2.2.2.1
theorem H_l9 (H : HR Φ Z h t σ) (k : Nat) : (sL σ k).length ≤ 9 := H.2.2.2.2.2.2.2.2.2.2.2.2.2.2.1 k
theorem H_pl {K : Int32 → Prop} {k : Nat} (H : HR Φ Z h t σ) (hk : k < sN σ 0) (hK : K (sV σ 1 k)) : ldI Z h (sN σ 2) (nI k) K := by
  have := H_n6 H
  exact ⟨_, _, H.2.1.1, H.2.1.2, in_lt hk (by omega), by rw [nI_clamp (by omega)]; exact hK⟩
theorem H_ar {K : Int32 → Prop} {k : Nat} (H : HR Φ Z h t σ) (hk : k < sN σ 0) (hK : K (sV σ 2 k)) : ldI Z h (sN σ 4) (nI k) K := by
  have := H_n6 H
  exact ⟨_, _, H.2.2.1.1, H.2.2.1.2, in_lt hk (by omega), by rw [nI_clamp (by omega)]; exact hK⟩
theorem H_w {K : Nat → Prop} {k : Nat} (H : HR Φ Z h t σ) (hk : k < sN σ 0) (hK : K (sB σ 1 k)) : ldQ Z h 3 (sN σ 3) (nI k) K := by
  have := H_n6 H
  obtain ⟨f, h1, h2⟩ := H.2.2.2.1
  exact ⟨_, f, _, h1.1, h1.2, in_lt hk (by omega), by rw [nI_clamp (by omega)]; exact h2 k hk, hK⟩
theorem H_p {K : Nat → Prop} {p : Nat} (H : HR Φ Z h t σ) (hp : p < sN σ 1) (hK : K (sB σ 0 p)) : ldQ Z h 1 (sN σ 5) (nI p) K := by
  have := H_m12 H
  obtain ⟨f, h1, h2⟩ := H.2.2.2.2.1
  exact ⟨_, f, _, h1.1, h1.2, in_lt hp (by omega), by rw [nI_clamp (by omega)]; exact h2 p hp, hK⟩
theorem H_nw {K : Int32 → Prop} {k : Nat} (H : HR Φ Z h t σ) (hk : k < sN σ 0) (hK : K (nI (sL σ k).length)) : lQ Z h 2 (sB σ 1 k) K := by
  obtain ⟨f, h1, _⟩ := H.2.2.2.2.2.1 k hk
  exact ⟨_, f, h1.1, h1.2, hK⟩
theorem H_row {K : Nat → Prop} {k i : Nat} {e : Nat × (Nat → Int32)} (H : HR Φ Z h t σ) (hk : k < sN σ 0) (he : (sL σ k)[i]? = some e) (hK : K e.1) : ldQ Z h 2 (sB σ 1 k) (nI i) K := by
  have h9 := H_l9 H k
  have hi := (List.getElem?_eq_some_iff.mp he).1
  obtain ⟨f, h1, h2⟩ := H.2.2.2.2.2.1 k hk
  exact ⟨_, f, _, h1.1, h1.2, in_lt hi (by omega), by rw [nI_clamp (by omega)]; exact h2 i e he, hK⟩
theorem H_cell {K : Int32 → Prop} {k i j : Nat} {e : Nat × (Nat → Int32)} (H : HR Φ Z h t σ) (hk : k < sN σ 0) (he : (sL σ k)[i]? = some e) (hj : j < 3) (hK : K (e.2 j)) : ldI Z h e.1 (nI j) K := by
  have h1 := H.2.2.2.2.2.2.1 k hk i e he
  exact ⟨_, _, h1.1, h1.2, in_lt hj (by omega), by rw [nI_clamp (by omega)]; exact hK⟩
theorem H_pod (H : HR Φ Z h t σ) {p : Nat} (hp : p < sN σ 1) : at_ h (sB σ 0 p) (.inr (2, podF σ p)) := H.2.2.2.2.2.2.2.1 p hp
theorem H_f0 {K : Int32 → Prop} {p : Nat} (H : HR Φ Z h t σ) (hp : p < sN σ 1) (hK : K (sV σ 3 p)) : gI h 2 0 (sB σ 0 p) K := ⟨_, _, (H_pod H hp).1, (H_pod H hp).2, rfl, hK⟩
theorem H_f1 {K : Int32 → Prop} {p : Nat} (H : HR Φ Z h t σ) (hp : p < sN σ 1) (hK : K (sV σ 4 p)) : gI h 2 1 (sB σ 0 p) K := ⟨_, _, (H_pod H hp).1, (H_pod H hp).2, rfl, hK⟩
theorem H_f2 {K : Int32 → Prop} {p : Nat} (H : HR Φ Z h t σ) (hp : p < sN σ 1) (hK : K (sV σ 5 p)) : gI h 2 2 (sB σ 0 p) K := ⟨_, _, (H_pod H hp).1, (H_pod H hp).2, rfl, hK⟩
theorem H_f3 {K : Int32 → Prop} {p : Nat} (H : HR Φ Z h t σ) (hp : p < sN σ 1) (hK : K (sV σ 6 p)) : gI h 2 3 (sB σ 0 p) K := ⟨_, _, (H_pod H hp).1, (H_pod H hp).2, rfl, hK⟩
theorem H_f4 {K : Int32 → Prop} {p : Nat} (H : HR Φ Z h t σ) (hp : p < sN σ 1) (hK : K (sV σ 7 p)) : gI h 2 4 (sB σ 0 p) K := ⟨_, _, (H_pod H hp).1, (H_pod H hp).2, rfl, hK⟩
theorem H_f5 {K : Int32 → Prop} {p : Nat} (H : HR Φ Z h t σ) (hp : p < sN σ 1) (hK : K (sV σ 8 p)) : gI h 2 5 (sB σ 0 p) K := ⟨_, _, (H_pod H hp).1, (H_pod H hp).2, rfl, hK⟩
theorem H_f6 {K : Int32 → Prop} {p : Nat} (H : HR Φ Z h t σ) (hp : p < sN σ 1) (hK : K (sV σ 9 p)) : gI h 2 6 (sB σ 0 p) K := ⟨_, _, (H_pod H hp).1, (H_pod H hp).2, rfl, hK⟩
-- writing
theorem in_ne {a b : ClassId × vp_A} {c d : Nat × List Value} : (Sum.inl a : va_E) ≠ Sum.inr c := fun z => by cases z
theorem HU_of (H : HR Φ Z h t σ) {p : Nat} (hp : p < sN σ 1) {w : Nat} {v : Int32} (h3 : 3 ≤ w) (he : ∀ q, q < sN σ 1 → podF (uV σ w p v) q = if q = p then podF (uV σ w p v) p else podF σ q) : HR Φ Z (hup h (sB σ 0 p) (.inr (2, podF (uV σ w p v) p))) t (uV σ w p v) := by
  obtain ⟨h1, h2, h4, ⟨f5, h5, g5⟩, ⟨f6, h6, g6⟩, h7, h8, h9, h10, h11, h12, h13, h14⟩ := H
  have hpod := h9 p hp
  have e0 : ∀ k j, k < 3 → sV (uV σ w p v) k j = sV σ k j := fun k j hk => by rw [sV_uV, if_neg (by omega)]
  have e1 : sV (uV σ w p v) 1 = sV σ 1 := funext fun j => e0 1 j (by omega)
  have e2 : sV (uV σ w p v) 2 = sV σ 2 := funext fun j => e0 2 j (by omega)
  have es : simF (uV σ w p v) = simF σ := by unfold simF; rw [e0 0 0 (by omega), e0 0 1 (by omega), e0 0 2 (by omega), e0 0 3 (by omega)]; rfl
  refine ⟨?_, ?_, ?_, ⟨f5, ?_, g5⟩, ⟨f6, ?_, g6⟩, fun k hk => ?_, fun k hk i e hi => ?_, fun q hq => ?_, h10, h11, h12, h13, h14.1, h14.2.1, h14.2.2.1, fun a ha => ⟨at_up (h14.2.2.2 a ha).1 (at_ne (h14.2.2.2 a ha).1 hpod (fun z => by cases z)), (h14.2.2.2 a ha).2⟩⟩
  · rw [es]; exact at_up h1 (at_ne h1 hpod (fun z => by cases z))
  · rw [e1]; exact at_up h2 (at_ne h2 hpod (fun z => by cases z))
  · rw [e2]; exact at_up h4 (at_ne h4 hpod (fun z => by cases z))
  · exact at_up h5 (at_ne h5 hpod (fun z => by cases z))
  · exact at_up h6 (at_ne h6 hpod (fun z => by cases z))
  · obtain ⟨f, a1, a2⟩ := h7 k hk
    exact ⟨f, at_up a1 (at_ne a1 hpod (fun z => by cases z)), a2⟩
  · exact at_up (h8 k hk i e hi) (at_ne (h8 k hk i e hi) hpod (fun z => by cases z))
  · rw [he q hq]
    by_cases c : q = p
    · subst c; rw [if_pos rfl]; exact at_upS hpod
    · rw [if_neg c]; exact at_up (h9 q hq) (fun z => c (h10 q p hq hp z))
theorem HU_f0 {K : PH → Prop} {p : Nat} {v : Int32} (H : HR Φ Z h t σ) (hp : p < sN σ 1) (hK : ∀ h1, HR Φ Z h1 t (uV σ 3 p v) → K h1) : pV h 2 0 (sB σ 0 p) (.int v) K :=
  ⟨_, (H_pod H hp).1, (H_pod H hp).2, by show 0 < 7; omega, hK _ (by
    have e : (podF σ p).set 0 (.int v) = podF (uV σ 3 p v) p := by simp [podF, sV_uV]
    rw [e]; exact HU_of H hp (by omega) (fun q _ => by
      by_cases c : q = p
      · rw [if_pos c, c]
      · rw [if_neg c]; simp [podF, sV_uV, c]))⟩
theorem HU_f1 {K : PH → Prop} {p : Nat} {v : Int32} (H : HR Φ Z h t σ) (hp : p < sN σ 1) (hK : ∀ h1, HR Φ Z h1 t (uV σ 4 p v) → K h1) : pV h 2 1 (sB σ 0 p) (.int v) K :=
  ⟨_, (H_pod H hp).1, (H_pod H hp).2, by show 1 < 7; omega, hK _ (by
    have e : (podF σ p).set 1 (.int v) = podF (uV σ 4 p v) p := by simp [podF, sV_uV]
    rw [e]; exact HU_of H hp (by omega) (fun q _ => by
      by_cases c : q = p
      · rw [if_pos c, c]
      · rw [if_neg c]; simp [podF, sV_uV, c]))⟩
theorem HU_f2 {K : PH → Prop} {p : Nat} {v : Int32} (H : HR Φ Z h t σ) (hp : p < sN σ 1) (hK : ∀ h1, HR Φ Z h1 t (uV σ 5 p v) → K h1) : pV h 2 2 (sB σ 0 p) (.int v) K :=
  ⟨_, (H_pod H hp).1, (H_pod H hp).2, by show 2 < 7; omega, hK _ (by
    have e : (podF σ p).set 2 (.int v) = podF (uV σ 5 p v) p := by simp [podF, sV_uV]
    rw [e]; exact HU_of H hp (by omega) (fun q _ => by
      by_cases c : q = p
      · rw [if_pos c, c]
      · rw [if_neg c]; simp [podF, sV_uV, c]))⟩
theorem HU_f3 {K : PH → Prop} {p : Nat} {v : Int32} (H : HR Φ Z h t σ) (hp : p < sN σ 1) (hK : ∀ h1, HR Φ Z h1 t (uV σ 6 p v) → K h1) : pV h 2 3 (sB σ 0 p) (.int v) K :=
  ⟨_, (H_pod H hp).1, (H_pod H hp).2, by show 3 < 7; omega, hK _ (by
    have e : (podF σ p).set 3 (.int v) = podF (uV σ 6 p v) p := by simp [podF, sV_uV]
    rw [e]; exact HU_of H hp (by omega) (fun q _ => by
      by_cases c : q = p
      · rw [if_pos c, c]
      · rw [if_neg c]; simp [podF, sV_uV, c]))⟩
theorem HU_f4 {K : PH → Prop} {p : Nat} {v : Int32} (H : HR Φ Z h t σ) (hp : p < sN σ 1) (hK : ∀ h1, HR Φ Z h1 t (uV σ 7 p v) → K h1) : pV h 2 4 (sB σ 0 p) (.int v) K :=
  ⟨_, (H_pod H hp).1, (H_pod H hp).2, by show 4 < 7; omega, hK _ (by
    have e : (podF σ p).set 4 (.int v) = podF (uV σ 7 p v) p := by simp [podF, sV_uV]
    rw [e]; exact HU_of H hp (by omega) (fun q _ => by
      by_cases c : q = p
      · rw [if_pos c, c]
      · rw [if_neg c]; simp [podF, sV_uV, c]))⟩
theorem HU_f5 {K : PH → Prop} {p : Nat} {v : Int32} (H : HR Φ Z h t σ) (hp : p < sN σ 1) (hK : ∀ h1, HR Φ Z h1 t (uV σ 8 p v) → K h1) : pV h 2 5 (sB σ 0 p) (.int v) K :=
  ⟨_, (H_pod H hp).1, (H_pod H hp).2, by show 5 < 7; omega, hK _ (by
    have e : (podF σ p).set 5 (.int v) = podF (uV σ 8 p v) p := by simp [podF, sV_uV]
    rw [e]; exact HU_of H hp (by omega) (fun q _ => by
      by_cases c : q = p
      · rw [if_pos c, c]
      · rw [if_neg c]; simp [podF, sV_uV, c]))⟩
theorem HU_f6 {K : PH → Prop} {p : Nat} {v : Int32} (H : HR Φ Z h t σ) (hp : p < sN σ 1) (hK : ∀ h1, HR Φ Z h1 t (uV σ 9 p v) → K h1) : pV h 2 6 (sB σ 0 p) (.int v) K :=
  ⟨_, (H_pod H hp).1, (H_pod H hp).2, by show 6 < 7; omega, hK _ (by
    have e : (podF σ p).set 6 (.int v) = podF (uV σ 9 p v) p := by simp [podF, sV_uV]
    rw [e]; exact HU_of H hp (by omega) (fun q _ => by
      by_cases c : q = p
      · rw [if_pos c, c]
      · rw [if_neg c]; simp [podF, sV_uV, c]))⟩
theorem HU_sim (H : HR Φ Z h t σ) {j : Nat} {v : Int32} : HR Φ Z (hup h t (.inr (3, simF (uV σ 0 j v)))) t (uV σ 0 j v) := by
  obtain ⟨h1, h2, h4, ⟨f5, h5, g5⟩, ⟨f6, h6, g6⟩, h7, h8, h9, h10, h11, h12, h13, h14⟩ := H
  have e0 : ∀ k j2, k ≠ 0 → sV (uV σ 0 j v) k j2 = sV σ k j2 := fun k j2 hk => by rw [sV_uV, if_neg (fun z => hk z.1)]
  have e1 : sV (uV σ 0 j v) 1 = sV σ 1 := funext fun i => e0 1 i (by decide)
  have e2 : sV (uV σ 0 j v) 2 = sV σ 2 := funext fun i => e0 2 i (by decide)
  refine ⟨at_upS h1, ?_, ?_, ⟨f5, ?_, g5⟩, ⟨f6, ?_, g6⟩, fun k hk => ?_, fun k hk i e hi => ?_, fun q hq => ?_, h10, h11, h12, h13, h14.1, h14.2.1, h14.2.2.1, fun a ha => ⟨at_up (h14.2.2.2 a ha).1 (at_ne (h14.2.2.2 a ha).1 h1 (fun z => by cases z)), (h14.2.2.2 a ha).2⟩⟩
  · rw [e1]; exact at_up h2 (at_ne h2 h1 (fun z => by cases z))
  · rw [e2]; exact at_up h4 (at_ne h4 h1 (fun z => by cases z))
  · exact at_up h5 (at_ne h5 h1 (fun z => by cases z))
  · exact at_up h6 (at_ne h6 h1 (fun z => by cases z))
  · obtain ⟨f, a1, a2⟩ := h7 k hk
    exact ⟨f, at_up a1 (at_ne a1 h1 (fun z => by cases z)), a2⟩
  · exact at_up (h8 k hk i e hi) (at_ne (h8 k hk i e hi) h1 (fun z => by cases z))
  · have e3 : podF (uV σ 0 j v) q = podF σ q := by simp [podF, sV_uV]
    rw [e3]
    exact at_up (h9 q hq) (at_ne (h9 q hq) h1 (fun z => by cases z))
theorem HU_min {K : PH → Prop} {v : Int32} (H : HR Φ Z h t σ) (hK : ∀ h1, HR Φ Z h1 t (uV σ 0 0 v) → K h1) : pV h 3 4 t (.int v) K :=
  ⟨_, H.1.1, H.1.2, by show 4 < 8; omega, hK _ (by
    have e : (simF σ).set 4 (.int v) = simF (uV σ 0 0 v) := by simp [simF, sV_uV, sN_uV]
    rw [e]; exact HU_sim H)⟩
theorem HU_ans {K : PH → Prop} {v : Int32} (H : HR Φ Z h t σ) (hK : ∀ h1, HR Φ Z h1 t (uV σ 0 1 v) → K h1) : pV h 3 5 t (.int v) K :=
  ⟨_, H.1.1, H.1.2, by show 5 < 8; omega, hK _ (by
    have e : (simF σ).set 5 (.int v) = simF (uV σ 0 1 v) := by simp [simF, sV_uV, sN_uV]
    rw [e]; exact HU_sim H)⟩
theorem HU_brd {K : PH → Prop} {v : Int32} (H : HR Φ Z h t σ) (hK : ∀ h1, HR Φ Z h1 t (uV σ 0 2 v) → K h1) : pV h 3 6 t (.int v) K :=
  ⟨_, H.1.1, H.1.2, by show 6 < 8; omega, hK _ (by
    have e : (simF σ).set 6 (.int v) = simF (uV σ 0 2 v) := by simp [simF, sV_uV, sN_uV]
    rw [e]; exact HU_sim H)⟩
theorem HU_fol {K : PH → Prop} {v : Int32} (H : HR Φ Z h t σ) (hK : ∀ h1, HR Φ Z h1 t (uV σ 0 3 v) → K h1) : pV h 3 7 t (.int v) K :=
  ⟨_, H.1.1, H.1.2, by show 7 < 8; omega, hK _ (by
    have e : (simF σ).set 7 (.int v) = simF (uV σ 0 3 v) := by simp [simF, sV_uV, sN_uV]
    rw [e]; exact HU_sim H)⟩
theorem HU_ar {K : PH → Prop} {k : Nat} {v : Int32} (H : HR Φ Z h t σ) (hk : k < sN σ 0) (hK : ∀ h1, HR Φ Z h1 t (uV σ 2 k v) → K h1) : sA Z h (sN σ 4) (nI k) v K := by
  have h6' := H_n6 H
  obtain ⟨h1, h2, h4, ⟨f5, h5, g5⟩, ⟨f6, h6, g6⟩, h7, h8, h9, h10, h11, h12, h13, h14⟩ := H
  refine ⟨_, _, h4.1, h4.2, in_lt hk (by omega), hK _ ?_⟩
  rw [nI_clamp (by omega)]
  have e2 : upd (sV σ 2) k v = sV (uV σ 2 k v) 2 := funext fun j => by
    show (if j = k then v else sV σ 2 j) = _
    rw [sV_uV]
    by_cases c : j = k
    · rw [if_pos c, if_pos ⟨rfl, c⟩]
    · rw [if_neg c, if_neg (fun z => c z.2)]
  rw [e2]
  have e0 : ∀ k2 j2, k2 ≠ 2 → sV (uV σ 2 k v) k2 j2 = sV σ k2 j2 := fun k2 j2 hk2 => by rw [sV_uV, if_neg (fun z => hk2 z.1)]
  have e1 : sV (uV σ 2 k v) 1 = sV σ 1 := funext fun i => e0 1 i (by decide)
  have es : simF (uV σ 2 k v) = simF σ := by simp [simF, sV_uV, sN_uV]
  refine ⟨?_, ?_, at_upS h4, ⟨f5, ?_, g5⟩, ⟨f6, ?_, g6⟩, fun k hk => ?_, fun k hk i e hi => ?_, fun q hq => ?_, h10, h11, h12, h13, h14.1, h14.2.1, h14.2.2.1, fun a ha => ⟨at_up (h14.2.2.2 a ha).1 ((h14.2.2.2 a ha).2.2.1), (h14.2.2.2 a ha).2⟩⟩
  · rw [es]; exact at_up h1 (at_ne h1 h4 (fun z => by cases z))
  · rw [e1]; exact at_up h2 h12.1
  · exact at_up h5 (at_ne h5 h4 ri_ne)
  · exact at_up h6 (at_ne h6 h4 ri_ne)
  · obtain ⟨f, a1, a2⟩ := h7 k hk
    exact ⟨f, at_up a1 (at_ne a1 h4 ri_ne), a2⟩
  · exact at_up (h8 k hk i e hi) (h13 k i e hk hi).2
  · have e3 : podF (uV σ 2 k v) q = podF σ q := by simp [podF, sV_uV]
    rw [e3]
    exact at_up (h9 q hq) (at_ne (h9 q hq) h4 (fun z => by cases z))
/-- the row of a rider is another one, at the same address -/
theorem HU_cell {K : PH → Prop} {k i j : Nat} {v : Int32} {e : Nat × (Nat → Int32)} (H : HR Φ Z h t σ) (hk : k < sN σ 0) (he : (sL σ k)[i]? = some e) (hj : j < 3) (hK : ∀ h1, HR Φ Z h1 t (uL σ k ((sL σ k).set i (e.1, upd e.2 j v))) → K h1) : sA Z h e.1 (nI j) v K := by
  obtain ⟨h1, h2, h4, ⟨f5, h5, g5⟩, ⟨f6, h6, g6⟩, h7, h8, h9, h10, h11, h12, h13, h14⟩ := H
  have hc := h8 k hk i e he
  have hi := (List.getElem?_eq_some_iff.mp he).1
  refine ⟨_, _, hc.1, hc.2, in_lt hj (by omega), hK _ ?_⟩
  rw [nI_clamp (by omega)]
  have sl : ∀ k2, (sL (uL σ k ((sL σ k).set i (e.1, upd e.2 j v))) k2).length = (sL σ k2).length := fun k2 => by
    rw [sL_uL]
    by_cases c : k2 = k
    · rw [if_pos c, List.length_set, c]
    · rw [if_neg c]
  have se : ∀ (k2 i2 : Nat) (e2 : RwT), (sL (uL σ k ((sL σ k).set i (e.1, upd e.2 j v))) k2)[i2]? = some e2 → (k2 = k ∧ i2 = i ∧ e2 = (e.1, upd e.2 j v)) ∨ ((k2 ≠ k ∨ i2 ≠ i) ∧ (sL σ k2)[i2]? = some e2) := fun k2 i2 e2 q => by
    rw [sL_uL] at q
    by_cases c : k2 = k
    · rw [if_pos c] at q
      by_cases d : i2 = i
      · subst d
        rw [List.getElem?_set_self hi] at q
        exact Or.inl ⟨c, rfl, (Option.some.inj q).symm⟩
      · rw [List.getElem?_set_ne (Ne.symm d)] at q
        exact Or.inr ⟨Or.inr d, by rw [c]; exact q⟩
    · rw [if_neg c] at q
      exact Or.inr ⟨Or.inl c, q⟩
  have sa : ∀ (k2 i2 : Nat) (e2 : RwT), (sL (uL σ k ((sL σ k).set i (e.1, upd e.2 j v))) k2)[i2]? = some e2 → ∃ e3, (sL σ k2)[i2]? = some e3 ∧ e3.1 = e2.1 := fun k2 i2 e2 q => by
    rcases se k2 i2 e2 q with ⟨rfl, rfl, rfl⟩ | ⟨_, q2⟩
    · exact ⟨e, he, rfl⟩
    · exact ⟨e2, q2, rfl⟩
  refine ⟨at_up h1 (at_ne h1 hc (fun z => by cases z)), at_up h2 (h13 k i e hk he).1.symm, at_up h4 (h13 k i e hk he).2.symm, ⟨f5, at_up h5 (at_ne h5 hc ri_ne), g5⟩, ⟨f6, at_up h6 (at_ne h6 hc ri_ne), g6⟩, fun k2 hk2 => ?_, fun k2 hk2 i2 e2 hi2 => ?_, fun q hq => at_up (h9 q hq) (at_ne (h9 q hq) hc (fun z => by cases z)), h10, fun k1 i1 e1 k2 i2 e2 hk1 hk2 q1 q2 q3 => ?_, h12, fun k2 i2 e2 hk2 q => ?_, h14.1, h14.2.1, fun k2 => by rw [sl]; exact h14.2.2.1 k2, fun a ha => ⟨at_up (h14.2.2.2 a ha).1 ((h14.2.2.2 a ha).2.2.2 k i e hk he), (h14.2.2.2 a ha).2.1, (h14.2.2.2 a ha).2.2.1, fun k2 j e2 hk2 q => ?_⟩⟩
  · obtain ⟨f, a1, a2⟩ := h7 k2 hk2
    refine ⟨f, by rw [sl]; exact at_up a1 (at_ne a1 hc ri_ne), fun i2 e2 q => ?_⟩
    obtain ⟨e3, b1, b2⟩ := sa k2 i2 e2 q
    rw [a2 i2 e3 b1, b2]
  · rcases se k2 i2 e2 hi2 with ⟨rfl, rfl, rfl⟩ | ⟨q1, q2⟩
    · exact at_upS hc
    · refine at_up (h8 k2 hk2 i2 e2 q2) (fun z => ?_)
      obtain ⟨b1, b2⟩ := h11 k2 i2 e2 k i e hk2 hk q2 he z
      rcases q1 with q1 | q1
      · exact q1 b1
      · exact q1 b2
  · obtain ⟨e3, b1, b2⟩ := sa k1 i1 e1 q1
    obtain ⟨e4, b3, b4⟩ := sa k2 i2 e2 q2
    exact h11 k1 i1 e3 k2 i2 e4 hk1 hk2 b1 b3 (by rw [b2, b4]; exact q3)
  · obtain ⟨e3, b1, b2⟩ := sa k2 i2 e2 q
    rw [← b2]
    exact h13 k2 i2 e3 hk2 b1
  · obtain ⟨e3, b1, b2⟩ := sa k2 j e2 q
    rw [← b2]
    exact (h14.2.2.2 a ha).2.2.2 k2 j e3 hk2 b1
end HEAP
