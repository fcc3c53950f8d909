-- pure part 4: what keeps the invariant
theorem aO_same {α : AS} {k j : Nat} {v : Option Nat} (h : oo α k j = v) : aO α k j v = α := by
  have e : (fun k2 j2 => if k2 = k ∧ j2 = j then v else α.2.1 k2 j2) = α.2.1 := by
    funext k2 j2
    by_cases c : k2 = k ∧ j2 = j
    · rw [if_pos c, c.1, c.2]; exact h.symm
    · rw [if_neg c]
  show (α.1, (fun k2 j2 => if k2 = k ∧ j2 = j then v else α.2.1 k2 j2), α.2.2) = α
  rw [e]
theorem aO_comm {α : AS} {k j k' j' : Nat} {v w : Option Nat} (h : k ≠ k') : aO (aO α k j v) k' j' w = aO (aO α k' j' w) k j v := by
  have e : (fun k2 j2 => if k2 = k' ∧ j2 = j' then w else (if k2 = k ∧ j2 = j then v else α.2.1 k2 j2)) = (fun k2 j2 => if k2 = k ∧ j2 = j then v else (if k2 = k' ∧ j2 = j' then w else α.2.1 k2 j2)) := by
    funext k2 j2
    by_cases c : k2 = k ∧ j2 = j
    · rw [if_pos c, if_pos c, if_neg (fun q => h (c.1.symm.trans q.1))]
    · rw [if_neg c, if_neg c]
  show (α.1, (fun k2 j2 => if k2 = k' ∧ j2 = j' then w else (if k2 = k ∧ j2 = j then v else α.2.1 k2 j2)), α.2.2) = _
  rw [e]
  rfl
theorem I_oo {α : AS} {k j k2 j2 : Nat} {v : Int32} : oo (aI α k j v) k2 j2 = oo α k2 j2 := rfl
theorem AI_aI {α : AS} {k j : Nat} {v : Int32} (hA : AI α) (h : (k ≠ 1 ∧ k ≠ 3) ∨ j < nn α 1) : AI (aI α k j v) := by
  obtain ⟨a1, a2, a3, a4, a5, a6, a7, a8, a9, a10, a11, a12, a13, a14, a15, a16⟩ := hA
  refine ⟨a1, a2, a3, a4, a5, a6, a7, a8, a9, a10, a11, a12, a13, a14, a15, fun p hp => ?_⟩
  have hp : nn α 1 ≤ p := hp
  have := a16 p hp
  refine ⟨?_, ?_⟩
  · rw [ii_aI, if_neg (fun q => by rcases h with h | h <;> omega)]; exact this.1
  · rw [ii_aI, if_neg (fun q => by rcases h with h | h <;> omega)]; exact this.2
theorem AI_r0 {α : AS} {p : Nat} (hA : AI α) : AI (aO α 3 p none) := by
  obtain ⟨a1, a2, a3, a4, a5, a6, a7, a8, a9, a10, a11, a12, a13, a14, a15, a16⟩ := hA
  refine ⟨a1, a2, a3, a4, a5, a6, a7, a8, a9, a10, a11, fun q r h => ?_, fun q h => ?_, a14, a15, a16⟩
  · rw [oo_aO] at h
    by_cases c : 3 = 3 ∧ q = p
    · rw [if_pos c] at h; cases h
    · rw [if_neg c] at h; exact a12 q r h
  · rw [oo_aO]
    by_cases c : 3 = 3 ∧ q = p
    · rw [if_pos c]
    · rw [if_neg c]; exact a13 q h
theorem AI_g0 {α : AS} {p : Nat} (hA : AI α) (h3 : oo α 3 p = none) : AI (aO α 2 p none) := by
  obtain ⟨a1, a2, a3, a4, a5, a6, a7, a8, a9, a10, a11, a12, a13, a14, a15, a16⟩ := hA
  refine ⟨a1, a2, a3, a4, a5, a6, fun c q h => ?_, a8, a9, a10, fun q g h => ?_, a12, fun q h => ?_, a14, a15, a16⟩
  · obtain ⟨b1, b2, b3, b4⟩ := a7 c q h
    refine ⟨b1, b2, b3, ?_⟩
    rw [oo_aO]
    by_cases c : 2 = 2 ∧ q = p
    · rw [if_pos c]; exact fun e => by cases e
    · rw [if_neg c]; exact b4
  · rw [oo_aO] at h
    by_cases c : 2 = 2 ∧ q = p
    · rw [if_pos c] at h; cases h
    · rw [if_neg c] at h; exact a11 q g h
  · rw [oo_aO] at h
    by_cases c : 2 = 2 ∧ q = p
    · rw [c.2]; exact h3
    · rw [if_neg c] at h; exact a13 q h
theorem AI_g1 {α : AS} {p g : Nat} (hA : AI α) (hg : g < nn α 0) (hp : p < nn α 1) (hc : ∀ c, oo α 1 c = some p → c / 3 ≠ g) : AI (aO α 2 p (some g)) := by
  obtain ⟨a1, a2, a3, a4, a5, a6, a7, a8, a9, a10, a11, a12, a13, a14, a15, a16⟩ := hA
  refine ⟨a1, a2, a3, a4, a5, a6, fun c q h => ?_, a8, a9, a10, fun q g2 h => ?_, a12, fun q h => ?_, a14, a15, a16⟩
  · obtain ⟨b1, b2, b3, b4⟩ := a7 c q h
    refine ⟨b1, b2, b3, ?_⟩
    rw [oo_aO]
    by_cases d : 2 = 2 ∧ q = p
    · rw [if_pos d]
      have h : oo α 1 c = some q := h
      rw [d.2] at h
      exact fun e => hc c h (Option.some.inj e).symm
    · rw [if_neg d]; exact b4
  · rw [oo_aO] at h
    by_cases c : 2 = 2 ∧ q = p
    · rw [if_pos c] at h; cases h; exact ⟨hg, by rw [c.2]; exact hp⟩
    · rw [if_neg c] at h; exact a11 q g2 h
  · rw [oo_aO] at h
    by_cases c : 2 = 2 ∧ q = p
    · rw [if_pos c] at h; cases h
    · rw [if_neg c] at h; exact a13 q h
theorem AI_r1 {α : AS} {p r : Nat} (hA : AI α) (hr : r < nn α 3) (hp : p < nn α 1) (hg : oo α 2 p ≠ none) : AI (aO α 3 p (some r)) := by
  obtain ⟨a1, a2, a3, a4, a5, a6, a7, a8, a9, a10, a11, a12, a13, a14, a15, a16⟩ := hA
  refine ⟨a1, a2, a3, a4, a5, a6, a7, a8, a9, a10, a11, fun q r2 h => ?_, fun q h => ?_, a14, a15, a16⟩
  · rw [oo_aO] at h
    by_cases c : 3 = 3 ∧ q = p
    · rw [if_pos c] at h; cases h; exact ⟨hr, by rw [c.2]; exact hp⟩
    · rw [if_neg c] at h; exact a12 q r2 h
  · have h : oo α 2 q = none := h
    rw [oo_aO, if_neg (fun c => hg (by rw [← c.2]; exact h))]
    exact a13 q h
theorem AI_in {α : AS} {x c p : Nat} (hA : AI α) (h0 : oo α 0 x = some p) (h1 : oo α 1 c = none) (hc : c < 18) (hs : c / 3 < nn α 0) (hg : oo α 2 p ≠ some (c / 3)) : AI (aO (aO α 0 x none) 1 c (some p)) := by
  obtain ⟨a1, a2, a3, a4, a5, a6, a7, a8, a9, a10, a11, a12, a13, a14, a15, a16⟩ := hA
  have e0 : ∀ y q, oo (aO (aO α 0 x none) 1 c (some p)) 0 y = some q → y ≠ x ∧ oo α 0 y = some q := fun y q h => by
    rw [oo_aO, if_neg (fun q => absurd q.1 (by decide)), oo_aO] at h
    by_cases d : 0 = 0 ∧ y = x
    · rw [if_pos d] at h; cases h
    · rw [if_neg d] at h; exact ⟨fun e => d ⟨rfl, e⟩, h⟩
  have e1 : ∀ y q, oo (aO (aO α 0 x none) 1 c (some p)) 1 y = some q → (y = c ∧ q = p) ∨ oo α 1 y = some q := fun y q h => by
    rw [oo_aO, oo_aO] at h
    by_cases d : 1 = 1 ∧ y = c
    · rw [if_pos d] at h; cases h; exact Or.inl ⟨d.2, rfl⟩
    · rw [if_neg d, if_neg (fun q => absurd q.1 (by decide))] at h; exact Or.inr h
  have n1 : ∀ y, oo α 1 y ≠ some p := fun y => a10 x y p h0
  refine ⟨a1, a2, a3, a4, a5, fun y q h => a6 y q (e0 y q h).2, fun y q h => ?_, fun y z q h k => a8 y z q (e0 y q h).2 (e0 z q k).2, fun y z q h k => ?_, fun y z q h k => ?_, a11, a12, a13, a14, a15, a16⟩
  · rcases e1 y q h with ⟨d1, d2⟩ | d
    · subst d1; subst d2; exact ⟨hc, (a6 x q h0).2, hs, hg⟩
    · exact a7 y q d
  · rcases e1 y q h with ⟨d1, d2⟩ | d <;> rcases e1 z q k with ⟨f1, f2⟩ | f
    · rw [d1, f1]
    · rw [d2] at f; exact absurd f (n1 z)
    · rw [f2] at d; exact absurd d (n1 y)
    · exact a9 y z q d f
  · obtain ⟨b1, b2⟩ := e0 y q h
    rcases e1 z q k with ⟨f1, f2⟩ | f
    · rw [f2] at b2; exact b1 (a8 y x p b2 h0)
    · exact a10 y z q b2 f
theorem AI_out {α : AS} {x c p : Nat} (hA : AI α) (h0 : oo α 0 x = none) (h1 : oo α 1 c = some p) (hx : x < 24) : AI (aO (aO α 0 x (some p)) 1 c none) := by
  obtain ⟨a1, a2, a3, a4, a5, a6, a7, a8, a9, a10, a11, a12, a13, a14, a15, a16⟩ := hA
  have e1 : ∀ y q, oo (aO (aO α 0 x (some p)) 1 c none) 1 y = some q → y ≠ c ∧ oo α 1 y = some q := fun y q h => by
    rw [oo_aO, oo_aO] at h
    by_cases d : 1 = 1 ∧ y = c
    · rw [if_pos d] at h; cases h
    · rw [if_neg d, if_neg (fun q => absurd q.1 (by decide))] at h; exact ⟨fun e => d ⟨rfl, e⟩, h⟩
  have e0 : ∀ y q, oo (aO (aO α 0 x (some p)) 1 c none) 0 y = some q → (y = x ∧ q = p) ∨ oo α 0 y = some q := fun y q h => by
    rw [oo_aO, if_neg (fun q => absurd q.1 (by decide)), oo_aO] at h
    by_cases d : 0 = 0 ∧ y = x
    · rw [if_pos d] at h; cases h; exact Or.inl ⟨d.2, rfl⟩
    · rw [if_neg d] at h; exact Or.inr h
  have n0 : ∀ y, oo α 0 y ≠ some p := fun y h => a10 y c p h h1
  refine ⟨a1, a2, a3, a4, a5, fun y q h => ?_, fun y q h => a7 y q (e1 y q h).2, fun y z q h k => ?_, fun y z q h k => a9 y z q (e1 y q h).2 (e1 z q k).2, fun y z q h k => ?_, a11, a12, a13, a14, a15, a16⟩
  · rcases e0 y q h with ⟨d1, d2⟩ | d
    · subst d1; subst d2; exact ⟨hx, (a7 c q h1).2.1⟩
    · exact a6 y q d
  · rcases e0 y q h with ⟨d1, d2⟩ | d <;> rcases e0 z q k with ⟨f1, f2⟩ | f
    · rw [d1, f1]
    · rw [d2] at f; exact absurd f (n0 z)
    · rw [f2] at d; exact absurd d (n0 y)
    · exact a8 y z q d f
  · obtain ⟨b1, b2⟩ := e1 z q k
    rcases e0 y q h with ⟨f1, f2⟩ | f
    · rw [f2] at b2; exact b1 (a9 z c p b2 h1)
    · exact a10 y z q f b2
def aMv (α : AS) : AS := (α.1, (fun k x => if k = 0 ∧ x < 24 then α.2.1 0 ((x + 23) % 24) else α.2.1 k x), α.2.2)
theorem oo_aMv {α : AS} {k x : Nat} : oo (aMv α) k x = if k = 0 ∧ x < 24 then oo α 0 ((x + 23) % 24) else oo α k x := rfl
theorem AI_mv {α : AS} (hA : AI α) : AI (aMv α) := by
  obtain ⟨a1, a2, a3, a4, a5, a6, a7, a8, a9, a10, a11, a12, a13, a14, a15, a16⟩ := hA
  have e0 : ∀ y q, oo (aMv α) 0 y = some q → y < 24 ∧ oo α 0 ((y + 23) % 24) = some q := fun y q h => by
    rw [oo_aMv] at h
    by_cases d : 0 = 0 ∧ y < 24
    · rw [if_pos d] at h; exact ⟨d.2, h⟩
    · rw [if_neg d] at h; exact absurd ⟨rfl, (a6 y q h).1⟩ d
  refine ⟨a1, a2, a3, a4, a5, fun y q h => ⟨(e0 y q h).1, (a6 _ q (e0 y q h).2).2⟩, a7, fun y z q h k => ?_, a9, fun y z q h k => a10 _ z q (e0 y q h).2 k, a11, a12, a13, a14, a15, a16⟩
  have := a8 _ _ q (e0 y q h).2 (e0 z q k).2
  have := (e0 y q h).1
  have := (e0 z q k).1
  omega
theorem AI_pop {α : AS} {s : Nat} {e : Nat × Nat × Nat} {q : List (Nat × Nat × Nat)} (hA : AI α) (h : qq α s = e :: q) : AI (aQ α s q) := by
  obtain ⟨a1, a2, a3, a4, a5, a6, a7, a8, a9, a10, a11, a12, a13, a14, a15, a16⟩ := hA
  refine ⟨a1, a2, a3, a4, a5, a6, a7, a8, a9, a10, a11, a12, a13, fun s2 => ?_, fun s2 e2 h2 => ?_, a16⟩
  · rw [qq_aQ]
    by_cases c : s2 = s
    · rw [if_pos c]; have := a14 s; rw [h, List.length_cons] at this; omega
    · rw [if_neg c]; exact a14 s2
  · rw [qq_aQ] at h2
    by_cases c : s2 = s
    · rw [if_pos c] at h2; subst c; exact a15 s2 e2 (by rw [h]; exact List.mem_cons_of_mem _ h2)
    · rw [if_neg c] at h2; exact a15 s2 e2 h2
theorem AI_push {α : AS} {s g : Nat} (hA : AI α) (hs : s < nn α 0) (hg : g < nn α 0) (hne : g ≠ s) (hl : (qq α s).length < 9) (hr : nn α 3 + 1 < 2 ^ 29) : AI (aN (aQ α s (qq α s ++ [(g, nn α 2, nn α 3)])) 3 (nn α 3 + 1)) := by
  obtain ⟨a1, a2, a3, a4, a5, a6, a7, a8, a9, a10, a11, a12, a13, a14, a15, a16⟩ := hA
  have hn : ∀ k, k ≠ 3 → nn (aN (aQ α s (qq α s ++ [(g, nn α 2, nn α 3)])) 3 (nn α 3 + 1)) k = nn α k := fun k hk => by rw [nn_aN, if_neg hk]; rfl
  refine ⟨a1, a2, a3, hr, fun x hx => ?_, a6, a7, a8, a9, a10, a11, fun p r h => ?_, a13, fun s2 => ?_, fun s2 e2 h2 => ?_, a16⟩
  · rw [hn _ (by omega)]; exact a5 x hx
  · have := a12 p r h
    exact ⟨by show r < nn α 3 + 1; omega, this.2⟩
  · show (if s2 = s then _ else qq α s2).length ≤ 9
    by_cases c : s2 = s
    · rw [if_pos c, List.length_append]; show _ + 1 ≤ 9; omega
    · rw [if_neg c]; exact a14 s2
  · have h2 : e2 ∈ (if s2 = s then qq α s ++ [(g, nn α 2, nn α 3)] else qq α s2) := h2
    by_cases c : s2 = s
    · rw [if_pos c] at h2
      rcases List.mem_append.mp h2 with h3 | h3
      · subst c; have := a15 s2 e2 h3; exact ⟨this.1, this.2.1, by show e2.2.2 < nn α 3 + 1; omega, this.2.2.2⟩
      · rw [List.mem_singleton.mp h3, c]; exact ⟨hg, hne, by show nn α 3 < nn α 3 + 1; omega, hs⟩
    · rw [if_neg c] at h2; have := a15 s2 e2 h2; exact ⟨this.1, this.2.1, by show e2.2.2 < nn α 3 + 1; omega, this.2.2.2⟩
theorem AI_tick {α : AS} (hA : AI α) (ht : nn α 2 + 1 < 2 ^ 29) : AI (aN α 2 (nn α 2 + 1)) := by
  obtain ⟨a1, a2, a3, a4, a5, a6, a7, a8, a9, a10, a11, a12, a13, a14, a15, a16⟩ := hA
  refine ⟨a1, a2, ht, a4, fun s hs => ?_, a6, a7, a8, a9, a10, a11, a12, a13, a14, a15, a16⟩
  rw [nn_aN, if_neg (by omega)]; exact a5 s hs
theorem AI_build {α : AS} {x : Nat} (hA : AI α) (hn : nn α 0 < 6) (hx : x < 24) : AI (aN (aN α (10 + nn α 0) x) 0 (nn α 0 + 1)) := by
  obtain ⟨a1, a2, a3, a4, a5, a6, a7, a8, a9, a10, a11, a12, a13, a14, a15, a16⟩ := hA
  have e0 : nn (aN (aN α (10 + nn α 0) x) 0 (nn α 0 + 1)) 0 = nn α 0 + 1 := rfl
  have en : ∀ k, k ≠ 0 → k ≠ 10 + nn α 0 → nn (aN (aN α (10 + nn α 0) x) 0 (nn α 0 + 1)) k = nn α k := fun k h1 h2 => by rw [nn_aN, if_neg h1, nn_aN, if_neg h2]
  have e1 := en 1 (by decide) (by omega)
  have e2 := en 2 (by decide) (by omega)
  have e3 := en 3 (by decide) (by omega)
  unfold AI
  rw [e0, e1, e2, e3]
  refine ⟨by omega, a2, a3, a4, fun s hs => ?_, a6, fun c q h => ?_, a8, a9, a10, fun p g h => ?_, a12, a13, a14, fun s e h => ?_, a16⟩
  · rw [nn_aN, if_neg (by omega), nn_aN]
    by_cases c : 10 + s = 10 + nn α 0
    · rw [if_pos c]; exact hx
    · rw [if_neg c]; exact a5 s (by omega)
  · have := a7 c q h; exact ⟨this.1, this.2.1, by omega, this.2.2.2⟩
  · have := a11 p g h; exact ⟨by omega, this.2⟩
  · have := a15 s e h; exact ⟨by omega, this.2.1, this.2.2.1, by omega⟩
theorem AI_pod {α : AS} {c : Nat} (hA : AI α) (hn : nn α 1 < 12) (h1 : oo α 1 c = none) (hc : c < 18) (hs : c / 3 < nn α 0) : AI (aN (aO α 1 c (some (nn α 1))) 1 (nn α 1 + 1)) := by
  obtain ⟨a1, a2, a3, a4, a5, a6, a7, a8, a9, a10, a11, a12, a13, a14, a15, a16⟩ := hA
  have e1 : ∀ y q, oo (aN (aO α 1 c (some (nn α 1))) 1 (nn α 1 + 1)) 1 y = some q → (y = c ∧ q = nn α 1) ∨ oo α 1 y = some q := fun y q h => by
    rw [oo_aN, oo_aO] at h
    by_cases d : 1 = 1 ∧ y = c
    · rw [if_pos d] at h; cases h; exact Or.inl ⟨d.2, rfl⟩
    · rw [if_neg d] at h; exact Or.inr h
  have n2 : oo α 2 (nn α 1) = none := by
    cases e : oo α 2 (nn α 1) with
    | none => rfl
    | some g => have := (a11 _ g e).2; omega
  have n1 : ∀ y, oo α 1 y ≠ some (nn α 1) := fun y h => by have := (a7 y _ h).2.1; omega
  have n0 : ∀ y, oo α 0 y ≠ some (nn α 1) := fun y h => by have := (a6 y _ h).2; omega
  have en : ∀ k, k ≠ 1 → nn (aN (aO α 1 c (some (nn α 1))) 1 (nn α 1 + 1)) k = nn α k := fun k h1 => by rw [nn_aN, if_neg h1]; rfl
  refine ⟨a1, by show nn α 1 + 1 ≤ 12; omega, a3, a4, fun s h => ?_, fun y q h => ⟨(a6 y q h).1, by show q < nn α 1 + 1; have := (a6 y q h).2; omega⟩, fun y q h => ?_, a8, fun y z q h k => ?_, fun y z q h k => ?_, fun p g h => ⟨(a11 p g h).1, by show p < nn α 1 + 1; have := (a11 p g h).2; omega⟩, fun p r h => ⟨(a12 p r h).1, by show p < nn α 1 + 1; have := (a12 p r h).2; omega⟩, a13, a14, a15, fun p hp => a16 p (by have hp : nn α 1 + 1 ≤ p := hp; omega)⟩
  · rw [en _ (by omega)]; exact a5 s h
  · rcases e1 y q h with ⟨d1, d2⟩ | d
    · subst d1; subst d2
      exact ⟨hc, by show nn α 1 < nn α 1 + 1; omega, hs, by show oo α 2 (nn α 1) ≠ _; rw [n2]; exact fun e => by cases e⟩
    · have := a7 y q d
      exact ⟨this.1, by show q < nn α 1 + 1; omega, this.2.2⟩
  · rcases e1 y q h with ⟨d1, d2⟩ | d <;> rcases e1 z q k with ⟨f1, f2⟩ | f
    · rw [d1, f1]
    · rw [d2] at f; exact absurd f (n1 z)
    · rw [f2] at d; exact absurd d (n1 y)
    · exact a9 y z q d f
  · have h : oo α 0 y = some q := h
    rcases e1 z q k with ⟨f1, f2⟩ | f
    · rw [f2] at h; exact n0 y h
    · exact a10 y z q h f
