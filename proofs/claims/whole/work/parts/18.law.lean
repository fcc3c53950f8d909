theorem lwr_1 {w : Cond} (h : w ∈ wsL_law0_r1) : w ∈ wsL_law := List.mem_append_left _ (List.mem_append_left _ (List.mem_append_left _ (List.mem_append_left _ (List.mem_append_left _ (List.mem_append_left _ (List.mem_append_left _ (List.mem_append_left _ h)))))))
theorem lwr_2 {w : Cond} (h : w ∈ wsL_law0_r2) : w ∈ wsL_law := List.mem_append_left _ (List.mem_append_left _ (List.mem_append_left _ (List.mem_append_left _ (List.mem_append_left _ (List.mem_append_left _ (List.mem_append_left _ (List.mem_append_right _ (List.mem_append_left _ h))))))))
theorem lwr_3 {w : Cond} (h : w ∈ wsL_law0_r3) : w ∈ wsL_law := List.mem_append_left _ (List.mem_append_left _ (List.mem_append_left _ (List.mem_append_left _ (List.mem_append_left _ (List.mem_append_left _ (List.mem_append_left _ (List.mem_append_right _ (List.mem_append_right _ (List.mem_append_left _ h)))))))))
theorem lwr_4 {w : Cond} (h : w ∈ wsL_law0_r4) : w ∈ wsL_law := List.mem_append_left _ (List.mem_append_left _ (List.mem_append_left _ (List.mem_append_left _ (List.mem_append_left _ (List.mem_append_left _ (List.mem_append_left _ (List.mem_append_right _ (List.mem_append_right _ (List.mem_append_right _ (List.mem_append_left _ h))))))))))
theorem lwr_5 {w : Cond} (h : w ∈ wsL_law0_r5) : w ∈ wsL_law := List.mem_append_left _ (List.mem_append_left _ (List.mem_append_left _ (List.mem_append_left _ (List.mem_append_left _ (List.mem_append_left _ (List.mem_append_left _ (List.mem_append_right _ (List.mem_append_right _ (List.mem_append_right _ (List.mem_append_right _ (List.mem_append_left _ h)))))))))))
theorem lwr_6 {w : Cond} (h : w ∈ wsL_law0_r6) : w ∈ wsL_law := List.mem_append_left _ (List.mem_append_left _ (List.mem_append_left _ (List.mem_append_left _ (List.mem_append_left _ (List.mem_append_left _ (List.mem_append_left _ (List.mem_append_right _ (List.mem_append_right _ (List.mem_append_right _ (List.mem_append_right _ (List.mem_append_right _ (List.mem_append_left _ h))))))))))))
theorem lwr_7 {w : Cond} (h : w ∈ wsL_law0_r7) : w ∈ wsL_law := List.mem_append_left _ (List.mem_append_left _ (List.mem_append_left _ (List.mem_append_left _ (List.mem_append_left _ (List.mem_append_left _ (List.mem_append_left _ (List.mem_append_right _ (List.mem_append_right _ (List.mem_append_right _ (List.mem_append_right _ (List.mem_append_right _ (List.mem_append_right _ (List.mem_append_left _ h)))))))))))))
theorem lwr_8 {w : Cond} (h : w ∈ wsL_law0_r8) : w ∈ wsL_law := List.mem_append_left _ (List.mem_append_left _ (List.mem_append_left _ (List.mem_append_left _ (List.mem_append_left _ (List.mem_append_left _ (List.mem_append_left _ (List.mem_append_right _ (List.mem_append_right _ (List.mem_append_right _ (List.mem_append_right _ (List.mem_append_right _ (List.mem_append_right _ (List.mem_append_right _ (List.mem_append_left _ h))))))))))))))
theorem lwr_9 {w : Cond} (h : w ∈ wsL_law0_r9) : w ∈ wsL_law := List.mem_append_left _ (List.mem_append_left _ (List.mem_append_left _ (List.mem_append_left _ (List.mem_append_left _ (List.mem_append_left _ (List.mem_append_left _ (List.mem_append_right _ (List.mem_append_right _ (List.mem_append_right _ (List.mem_append_right _ (List.mem_append_right _ (List.mem_append_right _ (List.mem_append_right _ (List.mem_append_right _ (List.mem_append_left _ h)))))))))))))))
theorem lwr_10 {w : Cond} (h : w ∈ wsL_law0_r10) : w ∈ wsL_law := List.mem_append_left _ (List.mem_append_left _ (List.mem_append_left _ (List.mem_append_left _ (List.mem_append_left _ (List.mem_append_left _ (List.mem_append_left _ (List.mem_append_right _ (List.mem_append_right _ (List.mem_append_right _ (List.mem_append_right _ (List.mem_append_right _ (List.mem_append_right _ (List.mem_append_right _ (List.mem_append_right _ (List.mem_append_right _ (List.mem_append_left _ h))))))))))))))))
theorem lwr_11 {w : Cond} (h : w ∈ wsL_law0_r11) : w ∈ wsL_law := List.mem_append_left _ (List.mem_append_left _ (List.mem_append_left _ (List.mem_append_left _ (List.mem_append_left _ (List.mem_append_left _ (List.mem_append_left _ (List.mem_append_right _ (List.mem_append_right _ (List.mem_append_right _ (List.mem_append_right _ (List.mem_append_right _ (List.mem_append_right _ (List.mem_append_right _ (List.mem_append_right _ (List.mem_append_right _ (List.mem_append_right _ (List.mem_append_left _ h)))))))))))))))))
theorem lwr_12 {w : Cond} (h : w ∈ wsL_law0_r12) : w ∈ wsL_law := List.mem_append_left _ (List.mem_append_left _ (List.mem_append_left _ (List.mem_append_left _ (List.mem_append_left _ (List.mem_append_left _ (List.mem_append_left _ (List.mem_append_right _ (List.mem_append_right _ (List.mem_append_right _ (List.mem_append_right _ (List.mem_append_right _ (List.mem_append_right _ (List.mem_append_right _ (List.mem_append_right _ (List.mem_append_right _ (List.mem_append_right _ (List.mem_append_right _ (List.mem_append_left _ h))))))))))))))))))
theorem lwr_13 {w : Cond} (h : w ∈ wsL_law0_r13) : w ∈ wsL_law := List.mem_append_left _ (List.mem_append_left _ (List.mem_append_left _ (List.mem_append_left _ (List.mem_append_left _ (List.mem_append_left _ (List.mem_append_left _ (List.mem_append_right _ (List.mem_append_right _ (List.mem_append_right _ (List.mem_append_right _ (List.mem_append_right _ (List.mem_append_right _ (List.mem_append_right _ (List.mem_append_right _ (List.mem_append_right _ (List.mem_append_right _ (List.mem_append_right _ (List.mem_append_right _ (List.mem_append_left _ h)))))))))))))))))))
theorem lwr_14 {w : Cond} (h : w ∈ wsL_law0_r14) : w ∈ wsL_law := List.mem_append_left _ (List.mem_append_left _ (List.mem_append_left _ (List.mem_append_left _ (List.mem_append_left _ (List.mem_append_left _ (List.mem_append_left _ (List.mem_append_right _ (List.mem_append_right _ (List.mem_append_right _ (List.mem_append_right _ (List.mem_append_right _ (List.mem_append_right _ (List.mem_append_right _ (List.mem_append_right _ (List.mem_append_right _ (List.mem_append_right _ (List.mem_append_right _ (List.mem_append_right _ (List.mem_append_right _ (List.mem_append_left _ h))))))))))))))))))))
theorem lwr_15 {w : Cond} (h : w ∈ wsL_law0_r15) : w ∈ wsL_law := List.mem_append_left _ (List.mem_append_left _ (List.mem_append_left _ (List.mem_append_left _ (List.mem_append_left _ (List.mem_append_left _ (List.mem_append_left _ (List.mem_append_right _ (List.mem_append_right _ (List.mem_append_right _ (List.mem_append_right _ (List.mem_append_right _ (List.mem_append_right _ (List.mem_append_right _ (List.mem_append_right _ (List.mem_append_right _ (List.mem_append_right _ (List.mem_append_right _ (List.mem_append_right _ (List.mem_append_right _ (List.mem_append_right _ (List.mem_append_left _ h)))))))))))))))))))))
theorem lwr_16 {w : Cond} (h : w ∈ wsL_law0_r16) : w ∈ wsL_law := List.mem_append_left _ (List.mem_append_left _ (List.mem_append_left _ (List.mem_append_left _ (List.mem_append_left _ (List.mem_append_left _ (List.mem_append_left _ (List.mem_append_right _ (List.mem_append_right _ (List.mem_append_right _ (List.mem_append_right _ (List.mem_append_right _ (List.mem_append_right _ (List.mem_append_right _ (List.mem_append_right _ (List.mem_append_right _ (List.mem_append_right _ (List.mem_append_right _ (List.mem_append_right _ (List.mem_append_right _ (List.mem_append_right _ (List.mem_append_right _ (List.mem_append_left _ h))))))))))))))))))))))
theorem lwr_17 {w : Cond} (h : w ∈ wsL_law0_r17) : w ∈ wsL_law := List.mem_append_left _ (List.mem_append_left _ (List.mem_append_left _ (List.mem_append_left _ (List.mem_append_left _ (List.mem_append_left _ (List.mem_append_left _ (List.mem_append_right _ (List.mem_append_right _ (List.mem_append_right _ (List.mem_append_right _ (List.mem_append_right _ (List.mem_append_right _ (List.mem_append_right _ (List.mem_append_right _ (List.mem_append_right _ (List.mem_append_right _ (List.mem_append_right _ (List.mem_append_right _ (List.mem_append_right _ (List.mem_append_right _ (List.mem_append_right _ (List.mem_append_right _ (List.mem_append_left _ h)))))))))))))))))))))))
theorem lwr_18 {w : Cond} (h : w ∈ wsL_law0_r18) : w ∈ wsL_law := List.mem_append_left _ (List.mem_append_left _ (List.mem_append_left _ (List.mem_append_left _ (List.mem_append_left _ (List.mem_append_left _ (List.mem_append_left _ (List.mem_append_right _ (List.mem_append_right _ (List.mem_append_right _ (List.mem_append_right _ (List.mem_append_right _ (List.mem_append_right _ (List.mem_append_right _ (List.mem_append_right _ (List.mem_append_right _ (List.mem_append_right _ (List.mem_append_right _ (List.mem_append_right _ (List.mem_append_right _ (List.mem_append_right _ (List.mem_append_right _ (List.mem_append_right _ (List.mem_append_right _ (List.mem_append_left _ h))))))))))))))))))))))))
theorem lwr_19 {w : Cond} (h : w ∈ wsL_law0_r19) : w ∈ wsL_law := List.mem_append_left _ (List.mem_append_left _ (List.mem_append_left _ (List.mem_append_left _ (List.mem_append_left _ (List.mem_append_left _ (List.mem_append_left _ (List.mem_append_right _ (List.mem_append_right _ (List.mem_append_right _ (List.mem_append_right _ (List.mem_append_right _ (List.mem_append_right _ (List.mem_append_right _ (List.mem_append_right _ (List.mem_append_right _ (List.mem_append_right _ (List.mem_append_right _ (List.mem_append_right _ (List.mem_append_right _ (List.mem_append_right _ (List.mem_append_right _ (List.mem_append_right _ (List.mem_append_right _ (List.mem_append_right _ (List.mem_append_left _ h)))))))))))))))))))))))))
theorem lwr_20 {w : Cond} (h : w ∈ wsL_law0_r20) : w ∈ wsL_law := List.mem_append_left _ (List.mem_append_left _ (List.mem_append_left _ (List.mem_append_left _ (List.mem_append_left _ (List.mem_append_left _ (List.mem_append_left _ (List.mem_append_right _ (List.mem_append_right _ (List.mem_append_right _ (List.mem_append_right _ (List.mem_append_right _ (List.mem_append_right _ (List.mem_append_right _ (List.mem_append_right _ (List.mem_append_right _ (List.mem_append_right _ (List.mem_append_right _ (List.mem_append_right _ (List.mem_append_right _ (List.mem_append_right _ (List.mem_append_right _ (List.mem_append_right _ (List.mem_append_right _ (List.mem_append_right _ (List.mem_append_right _ (List.mem_append_left _ h))))))))))))))))))))))))))
theorem lwr_21 {w : Cond} (h : w ∈ wsL_law0_r21) : w ∈ wsL_law := List.mem_append_left _ (List.mem_append_left _ (List.mem_append_left _ (List.mem_append_left _ (List.mem_append_left _ (List.mem_append_left _ (List.mem_append_left _ (List.mem_append_right _ (List.mem_append_right _ (List.mem_append_right _ (List.mem_append_right _ (List.mem_append_right _ (List.mem_append_right _ (List.mem_append_right _ (List.mem_append_right _ (List.mem_append_right _ (List.mem_append_right _ (List.mem_append_right _ (List.mem_append_right _ (List.mem_append_right _ (List.mem_append_right _ (List.mem_append_right _ (List.mem_append_right _ (List.mem_append_right _ (List.mem_append_right _ (List.mem_append_right _ (List.mem_append_right _ (List.mem_append_left _ h)))))))))))))))))))))))))))
theorem lwr_22 {w : Cond} (h : w ∈ wsL_law0_r22) : w ∈ wsL_law := List.mem_append_left _ (List.mem_append_left _ (List.mem_append_left _ (List.mem_append_left _ (List.mem_append_left _ (List.mem_append_left _ (List.mem_append_left _ (List.mem_append_right _ (List.mem_append_right _ (List.mem_append_right _ (List.mem_append_right _ (List.mem_append_right _ (List.mem_append_right _ (List.mem_append_right _ (List.mem_append_right _ (List.mem_append_right _ (List.mem_append_right _ (List.mem_append_right _ (List.mem_append_right _ (List.mem_append_right _ (List.mem_append_right _ (List.mem_append_right _ (List.mem_append_right _ (List.mem_append_right _ (List.mem_append_right _ (List.mem_append_right _ (List.mem_append_right _ (List.mem_append_right _ (List.mem_append_left _ h))))))))))))))))))))))))))))
theorem lwr_23 {w : Cond} (h : w ∈ wsL_law0_r23) : w ∈ wsL_law := List.mem_append_left _ (List.mem_append_left _ (List.mem_append_left _ (List.mem_append_left _ (List.mem_append_left _ (List.mem_append_left _ (List.mem_append_left _ (List.mem_append_right _ (List.mem_append_right _ (List.mem_append_right _ (List.mem_append_right _ (List.mem_append_right _ (List.mem_append_right _ (List.mem_append_right _ (List.mem_append_right _ (List.mem_append_right _ (List.mem_append_right _ (List.mem_append_right _ (List.mem_append_right _ (List.mem_append_right _ (List.mem_append_right _ (List.mem_append_right _ (List.mem_append_right _ (List.mem_append_right _ (List.mem_append_right _ (List.mem_append_right _ (List.mem_append_right _ (List.mem_append_right _ (List.mem_append_right _ (List.mem_append_left _ h)))))))))))))))))))))))))))))
theorem lwr_24 {w : Cond} (h : w ∈ wsL_law0_r24) : w ∈ wsL_law := List.mem_append_left _ (List.mem_append_left _ (List.mem_append_left _ (List.mem_append_left _ (List.mem_append_left _ (List.mem_append_left _ (List.mem_append_left _ (List.mem_append_right _ (List.mem_append_right _ (List.mem_append_right _ (List.mem_append_right _ (List.mem_append_right _ (List.mem_append_right _ (List.mem_append_right _ (List.mem_append_right _ (List.mem_append_right _ (List.mem_append_right _ (List.mem_append_right _ (List.mem_append_right _ (List.mem_append_right _ (List.mem_append_right _ (List.mem_append_right _ (List.mem_append_right _ (List.mem_append_right _ (List.mem_append_right _ (List.mem_append_right _ (List.mem_append_right _ (List.mem_append_right _ (List.mem_append_right _ (List.mem_append_right _ h)))))))))))))))))))))))))))))
theorem isN64_iff {b : UInt64} : isNaN64 b = true ↔ 0x7ff0000000000000 < b.toNat &&& 0x7fffffffffffffff := by
  simp only [isNaN64, decide_eq_true_eq, gt_iff_lt, UInt64.lt_iff_toNat_lt, UInt64.toNat_and]
  exact Iff.rfl
theorem ord_self {x : FP.Core.Datum} (h : x ≠ .nan) : FP.Core.order x x = some .eq := by
  cases x with
  | nan => exact absurd rfl h
  | inf => exact congrArg some (by simp [compare, compareOfLessAndEq])
  | fin s c q => exact congrArg some (by simp [compare, compareOfLessAndEq])
theorem dcmp_nan {a b : UInt64} (h : isNaN64 a = true) : FP.dcmp a b = none := by
  rw [isN64_iff] at h
  have h1 : (0x7fffffffffffffff : Nat) = 2 ^ 63 - 1 := by decide
  rw [h1, Nat.and_two_pow_sub_one_eq_mod] at h
  have hd : FP.Core.decode FP.Core.b64 a.toNat = .nan := by
    unfold FP.Core.decode
    have e1 : FP.Core.fieldE FP.Core.b64 a.toNat = a.toNat / 2 ^ 52 % 2 ^ 11 := rfl
    have e2 : FP.Core.fieldT FP.Core.b64 a.toNat = a.toNat % 2 ^ 52 := rfl
    have e3 : FP.Core.b64.exps - 1 = 2047 := rfl
    rw [e1, e2, e3, if_pos (by omega), if_neg (by omega)]
  show FP.Core.order (FP.Core.decode FP.Core.b64 a.toNat) (FP.Core.decode FP.Core.b64 b.toNat) = none
  rw [hd]
  rfl
theorem dcmp_same {a : UInt64} (h : isNaN64 a = false) : FP.dcmp a a = some .eq := by
  refine ord_self (x := FP.Core.decode FP.Core.b64 a.toNat) (fun hd => ?_)
  have hd : FP.Core.decode FP.Core.b64 a.toNat = .nan := hd
  have h2 : ¬ isNaN64 a = true := by rw [h]; decide
  rw [isN64_iff] at h2
  have h1 : (0x7fffffffffffffff : Nat) = 2 ^ 63 - 1 := by decide
  rw [h1, Nat.and_two_pow_sub_one_eq_mod] at h2
  unfold FP.Core.decode at hd
  have e1 : FP.Core.fieldE FP.Core.b64 a.toNat = a.toNat / 2 ^ 52 % 2 ^ 11 := rfl
  have e2 : FP.Core.fieldT FP.Core.b64 a.toNat = a.toNat % 2 ^ 52 := rfl
  have e3 : FP.Core.b64.exps - 1 = 2047 := rfl
  rw [e1, e2, e3] at hd
  by_cases c1 : a.toNat / 2 ^ 52 % 2 ^ 11 = 2047
  · rw [if_pos c1] at hd
    by_cases c2 : a.toNat % 2 ^ 52 = 0
    · rw [if_pos c2] at hd; cases hd
    · exact h2 (by omega)
  · rw [if_neg c1] at hd
    split at hd <;> cases hd
/-- two alike answers: the same, or both no number -/
theorem al_two {r t v : UInt64} (h1 : alike64 r v = true) (h2 : alike64 t v = true) : (isNaN64 r = true ∧ isNaN64 t = true) ∨ (r = t ∧ isNaN64 r = false) := by
  simp only [alike64, Bool.or_eq_true, decide_eq_true_eq, Bool.and_eq_true] at h1 h2
  cases hr : isNaN64 r with
  | false =>
    rcases h1 with h1 | h1
    · rcases h2 with h2 | h2
      · exact Or.inr ⟨h1.trans h2.symm, rfl⟩
      · rw [h1] at hr; rw [hr] at h2; exact absurd h2.2 (by decide)
    · rw [hr] at h1; exact absurd h1.1 (by decide)
  | true =>
    refine Or.inl ⟨rfl, ?_⟩
    rcases h2 with h2 | h2
    · rcases h1 with h1 | h1
      · rw [h2, ← h1]; exact hr
      · rw [h2]; exact h1.2
    · exact h2.1
theorem yE_drawn {A : Nat → Prop} {s : State} (d : Drawn) (h : yE A s) : yE A (s.setDrawn d) := by
  obtain ⟨⟨h1, h2, h3, h4, h5, h6, h7⟩, h8⟩ := h
  exact ⟨⟨vx_Zq.moved (u := s) (U := s.setDrawn d) (Vm.Alike.refl s.vm) h1, vx_Zq.moved (u := s) (U := s.setDrawn d) (Vm.Alike.refl s.vm) h2, fun q hq => by
    obtain ⟨sa, hs⟩ := h3 q hq
    exact ⟨sa, vk_R.same (u := s) (U := s.setDrawn d) rfl hs⟩, fun q hq => va_Nw.same rfl (u := s) (U := s.setDrawn d) rfl (h4 q hq), fun q hq => va_Nw.same rfl (u := s) (U := s.setDrawn d) rfl (h5 q hq), fun q hq => va_Nw.same rfl (u := s) (U := s.setDrawn d) rfl (h6 q hq), fun q hq => va_Nw.same rfl (u := s) (U := s.setDrawn d) rfl (h7 q hq)⟩, fun q hq => va_Nc.moved (u := s) (U := s.setDrawn d) (Vm.Alike.refl s.vm) (h8 q hq)⟩
theorem mE_drawn {A : Nat → Prop} {s : State} (d : Drawn) (h : mE A s) : mE A (s.setDrawn d) := ⟨va_Nw.same rfl (u := s) (U := s.setDrawn d) rfl h.1, mAO.moved (u := s) (U := s.setDrawn d) (Vm.Alike.refl s.vm) h.2⟩
theorem nI3 : (3 : Int32) = nI 3 := by decide
theorem nI1 : (1 : Int32) = nI 1 := by decide
theorem nI2 : (2 : Int32) = nI 2 := by decide
/-- the head's test -/
theorem lw_gt {i L : Nat} (hi : i < 10000) (hL : L ≤ 1536) : (nI L - 3 < nI i) ↔ L < i + 3 := by
  rw [nI3, Int32.lt_iff_toInt_lt, pk_sub_toInt (by omega) (by omega), nI_toInt (by omega)]
  omega
set_option maxHeartbeats 16000000 in
set_option maxRecDepth 100000 in
theorem law_loop {p : Program} {l : Launch} {e : Env} {s : State} {m : MethodId} {below : List Frame} {meth : Method} {c : Code} {b L : Nat} {xs : Nat → Int32} {Rel : Nat → RS → RS → Prop} (hsim : Sim Rel) (htr : l.stackTraces = false) (hL : L ≤ 1536) (C0 : lw_At p s m meth c b L xs) {D : va_G} {Z : Nat → ClassId} (hK : zK D Z s) (hyE : yE (fun q : Nat => s.heap.size ≤ q) s) (hmE : mE (fun q : Nat => s.heap.size ≤ q) s) (o q : Nat) (a b2 g : Nat → Nat) :
    ∀ (n j : Nat) (x4 : Int32), x4 = nI (3 * j) → j + n = 514 → ∀ (S T M : RS) (f : Nat → Int64), Rel j S M → ∀ (H : Heap) (locs : List Loc), va_P D vwCl (lwl Z o a b2 S T g M q f) H → va_D (fun q : Nat => s.heap.size ≤ q) (lwl Z o a b2 S T g M q f) → va_S (fun q : Nat => s.heap.size ≤ q) s.heap H locs → ∀ (d0 : Drawn), s.drawn.sameBut d0 lw_cs → ∀ ls : Array Slot, lv_has ls 9 [(0, .ref b), (1, .ref o), (2, .ref (g 0)), (3, .ref q), (4, .int x4)] → W p l e room_1 (s.setDrawn d0) m #[Value.ref b] below meth c H locs (40 + 8 * j) (2000 + 300 * j) (lw_Z below #[Value.ref b] s) (F0 m 23 ls []) := by
  obtain ⟨hx, hb, hr, hml, hown, hts0, hX, hbl, hlocks, hgv⟩ := C0
  have hts1 : ∀ w ∈ wsL_law, w.before #[Value.ref b] s = true := fun w h => hts0 w (wsL_law_in w h)
  have hA : ∀ q : Nat, s.heap.size ≤ q → (fun q : Nat => s.heap.size ≤ q) q := fun _ h => h
  have hbA : ¬ (fun q : Nat => s.heap.size ≤ q) b := Nat.not_le.mpr hbl
  have hown : s.vm.findClass RL = some m.cls := hown
  intro n
  induction n with
  | zero =>
    intro j x4 ex4 hj S T M f hR H locs hP hD hS d0 hd0 ls hl
    subst ex4
    refine lv_iload hx hb dL_law_23 (lv_at hl 4 rfl) ?_
    refine lv_aload_n hx hb dL_law_25 rfl (lv_at hl 0 rfl) ?_
    refine va_slen hx hb hX hbl hbA hS dL_law_26 ?_
    refine lv_iconst (v := 3) hx hb dL_law_27 (by decide) ?_
    refine lv_isub hx hb dL_law_28 ?_
    refine lv_icmp_gt (tgt := 1045) hx hb dL_law_29 (by decide) (fun c1 => ?_) (fun c1 => absurd ((lw_gt (by omega) hL).mpr (by omega)) c1)
    refine lv_iconst (v := 1) hx hb dL_law_1045 (by decide) ?_
    refine va_forget (fun q hq => hS.2.2 q hq) ?_
    refine W.widen (k := 601024) (n := 7293033) (by omega) (by omega) ?_
    exact lw_ret hd0 hx hb hr hlocks dL_law_1046
  | succ n ih =>
    intro j x4 ex4 hj S T M f hR H locs hP hD hS d0 hd0 ls hl
    obtain ⟨s1, s2, s3, s4, s5, s6, s7, s8, s9, s10, s11, s12, s13, s14, s15, s16⟩ := hsim.2 j (by omega) S T M hR
    have hts := dr_words hts1 d0
    have hown : (s.setDrawn d0).vm.findClass RL = some m.cls := hown
    have hE : yE (fun q : Nat => s.heap.size ≤ q) (s.setDrawn d0) := yE_drawn d0 hyE
    have hE2 : mE (fun q : Nat => s.heap.size ≤ q) (s.setDrawn d0) := mE_drawn d0 hmE
    have hK : zK D Z (s.setDrawn d0) := hK
    have hX : va_X b L xs (s.setDrawn d0) s.heap := hX
    have hbk : ∀ (S T M : RS) (f : Nat → Int64) (H : Heap) (locs : List Loc) (d0 : Drawn) (cells slots : Nat) (ls : Array Slot), Rel (j + 1) S M → va_P D vwCl (lwl Z o a b2 S T g M q f) H → va_D (fun q : Nat => s.heap.size ≤ q) (lwl Z o a b2 S T g M q f) → va_S (fun q : Nat => s.heap.size ≤ q) s.heap H locs → s.drawn.sameBut d0 lw_cs → lv_has ls 9 [(0, .ref b), (1, .ref o), (2, .ref (g 0)), (3, .ref q), (4, .int x4)] → cells ≤ 40 + 8 * (j + 1) → slots ≤ 2000 + 300 * (j + 1) → W p l e room_1 (s.setDrawn d0) m #[Value.ref b] below meth c H locs cells slots (lw_Z below #[Value.ref b] s) (F0 m 1039 ls []) := by
      intro S T M f H locs d0 cells slots ls hR hP hD hS hd0 hl h1 h2
      refine W.widen h1 h2 ?_
      refine lv_iinc (v := x4 + 3) (lv' := [(4, .int (x4 + 3)), (0, .ref b), (1, .ref o), (2, .ref (g 0)), (3, .ref q)]) hx hb dL_law_1039 hl (k := 4) rfl rfl (by decide) rfl (fun ls hl => ?_)
      refine lv_goto (tgt := 23) hx hb dL_law_1042 (by decide) ?_
      exact ih (j + 1) (x4 + 3) (by rw [ex4, nI3, nI_add]; congr 1) (by omega) S T M f hR H locs hP hD hS d0 hd0 ls (lv_sub hl [1, 2, 3, 4, 0] rfl)
    refine lv_iload hx hb dL_law_23 (lv_at hl 4 rfl) ?_
    refine lv_aload_n hx hb dL_law_25 rfl (lv_at hl 0 rfl) ?_
    refine va_slen hx hb hX hbl hbA hS dL_law_26 ?_
    refine lv_iconst (v := 3) hx hb dL_law_27 (by decide) ?_
    refine lv_isub hx hb dL_law_28 ?_
    refine lv_icmp_gt (tgt := 1045) hx hb dL_law_29 (by decide) (fun c1 => ?_) (fun c1 => ?_)
    · refine lv_iconst (v := 1) hx hb dL_law_1045 (by decide) ?_
      refine va_forget (fun q hq => hS.2.2 q hq) ?_
      refine W.widen (k := 601024) (n := 7293033) (by omega) (by omega) ?_
      exact lw_ret hd0 hx hb hr hlocks dL_law_1046
    have hlt : 3 * j + 3 ≤ L := by
      rcases Nat.lt_or_ge L (3 * j + 3) with h | h
      · exact absurd (by rw [ex4]; exact (lw_gt (by omega) hL).mpr h) c1
      · exact h
    have hi0 : vp_in x4 L := by rw [ex4]; exact vp_in_nI (by omega) (by omega)
    have hi1 : vp_in (x4 + 1) L := by rw [ex4, nI1, nI_add]; exact vp_in_nI (by omega) (by omega)
    have hi2 : vp_in (x4 + 2) L := by rw [ex4, nI2, nI_add]; exact vp_in_nI (by omega) (by omega)
    refine lv_aload_n hx hb dL_law_32 rfl (lv_at hl 0 rfl) ?_
    refine lv_iload hx hb dL_law_33 (lv_at hl 4 rfl) ?_
    refine va_sld hx hb hX hbl hbA hS hi0 dL_law_35 ?_
    refine lv_bipush (v := 15) hx hb dL_law_36 (by decide) ?_
    refine lv_iand hx hb dL_law_38 ?_
    obtain ⟨k15, hk15, ek15⟩ := pk_andE (xs x4.toNatClampNeg) (m := 15) 4 (by decide)
    rw [ek15]
    have ekt : (nI k15).toInt = (k15 : Int) := nI_toInt (by omega)
    by_cases hk0 : k15 = 0
    · subst hk0
      refine lv_tableIn (tgt := 116) (off := 77) hx hb dL_law_39 (by rw [ekt]; decide) (by rw [ekt]; decide) rfl (by decide) ?_
      rcases s1 (xs (x4 + 1).toNatClampNeg) with h9 | h9
      · obtain ⟨r, S', T', M', hx1, hy1, h0, hR1⟩ := h9
        refine lv_aload_n hx hb dL_law_116 rfl (lv_at hl 1 rfl) ?_
        refine lv_aload_n hx hb dL_law_117 rfl (lv_at hl 0 rfl) ?_
        refine lv_iload hx hb dL_law_118 (lv_at hl 4 rfl) ?_
        refine lv_iconst (v := 1) hx hb dL_law_120 (by decide) ?_
        refine lv_iadd hx hb dL_law_121 ?_
        refine va_sld hx hb hX hbl hbA hS hi1 dL_law_122 ?_
        refine lv_aload_n hx hb dL_law_123 rfl (lv_at hl 3 rfl) ?_
        refine zc_mi zI_lw (z_SW (As := [.ref o, .int (xs (x4 + 1).toNatClampNeg), .ref q]) (rest := []) yE_ok hE hS hA ⟨hx, hb, hml, hown, hts⟩ (ok_L_build l D Z o a b2 S T q f (xs (x4 + 1).toNatClampNeg) r S' T' hx1) gL_law_L_build rfl rfl rfl hds_L_build ⟨Nat.le_of_ble_eq_true rfl, Nat.le_of_ble_eq_true rfl⟩ hK (hP.sub (ws' := olw Z o a b2 S T q f) [0, 1, 2, 3, 4, 5, 6, 7, 8, 9, 10, 11, 12, 13, 14, 15, 16, 17, 18, 19, 20, 21, 22, 23, 24, 30] rfl) (hD.sub (ws' := olw Z o a b2 S T q f) [0, 1, 2, 3, 4, 5, 6, 7, 8, 9, 10, 11, 12, 13, 14, 15, 16, 17, 18, 19, 20, 21, 22, 23, 24, 30] (by decide) rfl) rfl hl.1 rfl (Nat.le_of_ble_eq_true rfl) dL_law_124 ⟨by show _ ≤ 601024; omega, by show _ ≤ 7293033; omega⟩) hP hD hS hA (fun H locs hP hD hS => ?_)
        refine lv_istore (lv' := [(5, .int 0), (0, .ref b), (1, .ref o), (2, .ref (g 0)), (3, .ref q), (4, .int x4)]) hx hb dL_law_127 hl (by decide) rfl (fun ls hl => ?_)
        refine lv_aload_n hx hb dL_law_129 rfl (lv_at hl 3 rfl) ?_
        refine lv_aload_n hx hb dL_law_130 rfl (lv_at hl 1 rfl) ?_
        refine lv_iload hx hb dL_law_131 (lv_at hl 5 rfl) ?_
        refine lv_iconst (v := 1) hx hb dL_law_133 (by decide) ?_
        refine lv_iadd hx hb dL_law_134 ?_
        refine va_sld hx hb hX hbl hbA hS hi1 dL_law_135 ?_
        refine zc_mi zI_lm (z_VD (As := [.int (xs (x4 + 1).toNatClampNeg)]) (rest := []) (q0 := 0) (ci := 2) ⟨hx, hb, hml, hown, hts⟩ (m_X2_build l D Z g M (xs (x4 + 1).toNatClampNeg) M' r hy1) gL_law_X2_build rfl rfl rfl hdv_X2_build ⟨Nat.le_of_ble_eq_true rfl, Nat.le_of_ble_eq_true rfl⟩ hK (hP.sub (ws' := mwl Z g M) [25, 26, 27, 28, 29] rfl) (hD.sub (ws' := mwl Z g M) [25, 26, 27, 28, 29] (by decide) rfl) rfl rfl rfl rfl hl.1 rfl (Nat.le_of_ble_eq_true rfl) dL_law_136 ⟨by show _ ≤ 601024; omega, by show _ ≤ 7293033; omega⟩) hP hD hS hA (fun H locs hP hD hS => ?_)
        refine lv_istore (lv' := [(6, .int r), (5, .int 0), (0, .ref b), (1, .ref o), (2, .ref (g 0)), (3, .ref q), (4, .int x4)]) hx hb dL_law_139 hl (by decide) rfl (fun ls hl => ?_)
        refine lv_aload_n hx hb dL_law_141 rfl (lv_at hl 4 rfl) ?_
        refine zc_i (z_VD (As := []) (rest := []) (q0 := 0) (ci := 2) ⟨hx, hb, hml, hown, hts⟩ (m_X2_thrown l D Z g M' (M'.1 0) rfl) gL_law_X2_thrown rfl rfl rfl hdv_X2_thrown ⟨Nat.le_of_ble_eq_true rfl, Nat.le_of_ble_eq_true rfl⟩ hK (hP.sub (ws' := mwl Z g M') [25, 26, 27, 28, 29] rfl) (hD.sub (ws' := mwl Z g M') [25, 26, 27, 28, 29] (by decide) rfl) rfl rfl rfl rfl hl.1 rfl (Nat.le_of_ble_eq_true rfl) dL_law_142 ⟨by show _ ≤ 601024; omega, by show _ ≤ 7293033; omega⟩) hP hS hA (fun H locs hP hS => ?_)
        refine lv_iload hx hb dL_law_145 (lv_at hl 1 rfl) ?_
        refine lv_icmp_eq (tgt := 152) hx hb dL_law_147 (by decide) (fun _ => ?_) (fun c2 => absurd h0 c2)
        refine lv_iload hx hb dL_law_152 (lv_at hl 1 rfl) ?_
        refine lv_if_ne (tgt := 169) hx hb dL_law_154 (by decide) (fun c3 => absurd rfl c3) (fun _ => ?_)
        refine lv_aload_n hx hb dL_law_157 rfl (lv_at hl 5 rfl) ?_
        refine lv_iconst (v := 0) hx hb dL_law_158 (by decide) ?_
        refine va_lald hx hb hK hP 30 1 rfl rfl (vp_in_lit (by decide)) dL_law_159 ?_
        refine lv_iload hx hb dL_law_160 (lv_at hl 0 rfl) ?_
        refine lv_i2l hx hb dL_law_162 rfl ?_
        refine W.lcmp hx hb dL_law_163 ?_
        refine lv_if_eq (tgt := 169) hx hb dL_law_164 (by decide) (fun _ => ?_) (fun c4 => absurd ((lg_cmp_eq _ _).mpr rfl) c4)
        refine lv_goto (tgt := 1039) hx hb dL_law_169 (by decide) ?_
        exact hbk S' T' M' (vp_updL f 0 r.toInt64) H locs d0 _ _ ls hR1 hP hD hS hd0 (lv_sub hl [2, 3, 4, 5, 6] rfl) (by omega) (by omega)
      · obtain ⟨E, bb, M', hx1, hy1, h0, hE0, hR1⟩ := h9
        refine lv_aload_n hx hb dL_law_116 rfl (lv_at hl 1 rfl) ?_
        refine lv_aload_n hx hb dL_law_117 rfl (lv_at hl 0 rfl) ?_
        refine lv_iload hx hb dL_law_118 (lv_at hl 4 rfl) ?_
        refine lv_iconst (v := 1) hx hb dL_law_120 (by decide) ?_
        refine lv_iadd hx hb dL_law_121 ?_
        refine va_sld hx hb hX hbl hbA hS hi1 dL_law_122 ?_
        refine lv_aload_n hx hb dL_law_123 rfl (lv_at hl 3 rfl) ?_
        refine zc_mi zI_lw (z_SW (As := [.ref o, .int (xs (x4 + 1).toNatClampNeg), .ref q]) (rest := []) yE_ok hE hS hA ⟨hx, hb, hml, hown, hts⟩ (er_L_build l htr D Z o a b2 S T q f (xs (x4 + 1).toNatClampNeg) E (cdIS E) hx1 (cdIS_c hE0)) gL_law_L_build rfl rfl rfl hds_L_build ⟨Nat.le_of_ble_eq_true rfl, Nat.le_of_ble_eq_true rfl⟩ hK (hP.sub (ws' := olw Z o a b2 S T q f) [0, 1, 2, 3, 4, 5, 6, 7, 8, 9, 10, 11, 12, 13, 14, 15, 16, 17, 18, 19, 20, 21, 22, 23, 24, 30] rfl) (hD.sub (ws' := olw Z o a b2 S T q f) [0, 1, 2, 3, 4, 5, 6, 7, 8, 9, 10, 11, 12, 13, 14, 15, 16, 17, 18, 19, 20, 21, 22, 23, 24, 30] (by decide) rfl) rfl hl.1 rfl (Nat.le_of_ble_eq_true rfl) dL_law_124 ⟨by show _ ≤ 601024; omega, by show _ ≤ 7293033; omega⟩) hP hD hS hA (fun H locs hP hD hS => ?_)
        refine lv_istore (lv' := [(5, .int (cdIS E)), (0, .ref b), (1, .ref o), (2, .ref (g 0)), (3, .ref q), (4, .int x4)]) hx hb dL_law_127 hl (by decide) rfl (fun ls hl => ?_)
        refine lv_aload_n hx hb dL_law_129 rfl (lv_at hl 3 rfl) ?_
        refine lv_aload_n hx hb dL_law_130 rfl (lv_at hl 1 rfl) ?_
        refine lv_iload hx hb dL_law_131 (lv_at hl 5 rfl) ?_
        refine lv_iconst (v := 1) hx hb dL_law_133 (by decide) ?_
        refine lv_iadd hx hb dL_law_134 ?_
        refine va_sld hx hb hX hbl hbA hS hi1 dL_law_135 ?_
        refine zc_mi zI_lm (z_VD (As := [.int (xs (x4 + 1).toNatClampNeg)]) (rest := []) (q0 := 0) (ci := 2) ⟨hx, hb, hml, hown, hts⟩ (m_X2_build l D Z g M (xs (x4 + 1).toNatClampNeg) M' bb hy1) gL_law_X2_build rfl rfl rfl hdv_X2_build ⟨Nat.le_of_ble_eq_true rfl, Nat.le_of_ble_eq_true rfl⟩ hK (hP.sub (ws' := mwl Z g M) [25, 26, 27, 28, 29] rfl) (hD.sub (ws' := mwl Z g M) [25, 26, 27, 28, 29] (by decide) rfl) rfl rfl rfl rfl hl.1 rfl (Nat.le_of_ble_eq_true rfl) dL_law_136 ⟨by show _ ≤ 601024; omega, by show _ ≤ 7293033; omega⟩) hP hD hS hA (fun H locs hP hD hS => ?_)
        refine lv_istore (lv' := [(6, .int bb), (5, .int (cdIS E)), (0, .ref b), (1, .ref o), (2, .ref (g 0)), (3, .ref q), (4, .int x4)]) hx hb dL_law_139 hl (by decide) rfl (fun ls hl => ?_)
        refine lv_aload_n hx hb dL_law_141 rfl (lv_at hl 4 rfl) ?_
        refine zc_i (z_VD (As := []) (rest := []) (q0 := 0) (ci := 2) ⟨hx, hb, hml, hown, hts⟩ (m_X2_thrown l D Z g M' (M'.1 0) rfl) gL_law_X2_thrown rfl rfl rfl hdv_X2_thrown ⟨Nat.le_of_ble_eq_true rfl, Nat.le_of_ble_eq_true rfl⟩ hK (hP.sub (ws' := mwl Z g M') [25, 26, 27, 28, 29] rfl) (hD.sub (ws' := mwl Z g M') [25, 26, 27, 28, 29] (by decide) rfl) rfl rfl rfl rfl hl.1 rfl (Nat.le_of_ble_eq_true rfl) dL_law_142 ⟨by show _ ≤ 601024; omega, by show _ ≤ 7293033; omega⟩) hP hS hA (fun H locs hP hS => ?_)
        refine lv_iload hx hb dL_law_145 (lv_at hl 1 rfl) ?_
        refine lv_icmp_eq (tgt := 152) hx hb dL_law_147 (by decide) (fun _ => ?_) (fun c2 => absurd h0 c2)
        refine lv_iload hx hb dL_law_152 (lv_at hl 1 rfl) ?_
        refine lv_if_ne (tgt := 169) hx hb dL_law_154 (by decide) (fun _ => ?_) (fun c3 => absurd c3 hE0)
        refine lv_goto (tgt := 1039) hx hb dL_law_169 (by decide) ?_
        exact hbk S T M' f H locs d0 _ _ ls hR1 hP hD hS hd0 (lv_sub hl [2, 3, 4, 5, 6] rfl) (by omega) (by omega)
    by_cases hk1 : k15 = 1
    · subst hk1
      refine lv_tableIn (tgt := 172) (off := 133) hx hb dL_law_39 (by rw [ekt]; decide) (by rw [ekt]; decide) rfl (by decide) ?_
      rcases s2 (xs (x4 + 1).toNatClampNeg) with h9 | h9
      · obtain ⟨r, S', T', M', hx1, hy1, h0, hR1⟩ := h9
        refine lv_aload_n hx hb dL_law_172 rfl (lv_at hl 1 rfl) ?_
        refine lv_aload_n hx hb dL_law_173 rfl (lv_at hl 0 rfl) ?_
        refine lv_iload hx hb dL_law_174 (lv_at hl 4 rfl) ?_
        refine lv_iconst (v := 1) hx hb dL_law_176 (by decide) ?_
        refine lv_iadd hx hb dL_law_177 ?_
        refine va_sld hx hb hX hbl hbA hS hi1 dL_law_178 ?_
        refine lv_aload_n hx hb dL_law_179 rfl (lv_at hl 3 rfl) ?_
        refine zc_mi zI_lw (z_SW (As := [.ref o, .int (xs (x4 + 1).toNatClampNeg), .ref q]) (rest := []) yE_ok hE hS hA ⟨hx, hb, hml, hown, hts⟩ (ok_L_pod l D Z o a b2 S T q f (xs (x4 + 1).toNatClampNeg) r S' T' hx1) gL_law_L_pod rfl rfl rfl hds_L_pod ⟨Nat.le_of_ble_eq_true rfl, Nat.le_of_ble_eq_true rfl⟩ hK (hP.sub (ws' := olw Z o a b2 S T q f) [0, 1, 2, 3, 4, 5, 6, 7, 8, 9, 10, 11, 12, 13, 14, 15, 16, 17, 18, 19, 20, 21, 22, 23, 24, 30] rfl) (hD.sub (ws' := olw Z o a b2 S T q f) [0, 1, 2, 3, 4, 5, 6, 7, 8, 9, 10, 11, 12, 13, 14, 15, 16, 17, 18, 19, 20, 21, 22, 23, 24, 30] (by decide) rfl) rfl hl.1 rfl (Nat.le_of_ble_eq_true rfl) dL_law_180 ⟨by show _ ≤ 601024; omega, by show _ ≤ 7293033; omega⟩) hP hD hS hA (fun H locs hP hD hS => ?_)
        refine lv_istore (lv' := [(5, .int 0), (0, .ref b), (1, .ref o), (2, .ref (g 0)), (3, .ref q), (4, .int x4)]) hx hb dL_law_183 hl (by decide) rfl (fun ls hl => ?_)
        refine lv_aload_n hx hb dL_law_185 rfl (lv_at hl 3 rfl) ?_
        refine lv_aload_n hx hb dL_law_186 rfl (lv_at hl 1 rfl) ?_
        refine lv_iload hx hb dL_law_187 (lv_at hl 5 rfl) ?_
        refine lv_iconst (v := 1) hx hb dL_law_189 (by decide) ?_
        refine lv_iadd hx hb dL_law_190 ?_
        refine va_sld hx hb hX hbl hbA hS hi1 dL_law_191 ?_
        refine zc_mi zI_lm (z_VD (As := [.int (xs (x4 + 1).toNatClampNeg)]) (rest := []) (q0 := 0) (ci := 2) ⟨hx, hb, hml, hown, hts⟩ (m_X2_pod l D Z g M (xs (x4 + 1).toNatClampNeg) M' r hy1) gL_law_X2_pod rfl rfl rfl hdv_X2_pod ⟨Nat.le_of_ble_eq_true rfl, Nat.le_of_ble_eq_true rfl⟩ hK (hP.sub (ws' := mwl Z g M) [25, 26, 27, 28, 29] rfl) (hD.sub (ws' := mwl Z g M) [25, 26, 27, 28, 29] (by decide) rfl) rfl rfl rfl rfl hl.1 rfl (Nat.le_of_ble_eq_true rfl) dL_law_192 ⟨by show _ ≤ 601024; omega, by show _ ≤ 7293033; omega⟩) hP hD hS hA (fun H locs hP hD hS => ?_)
        refine lv_istore (lv' := [(6, .int r), (5, .int 0), (0, .ref b), (1, .ref o), (2, .ref (g 0)), (3, .ref q), (4, .int x4)]) hx hb dL_law_195 hl (by decide) rfl (fun ls hl => ?_)
        refine lv_aload_n hx hb dL_law_197 rfl (lv_at hl 4 rfl) ?_
        refine zc_i (z_VD (As := []) (rest := []) (q0 := 0) (ci := 2) ⟨hx, hb, hml, hown, hts⟩ (m_X2_thrown l D Z g M' (M'.1 0) rfl) gL_law_X2_thrown rfl rfl rfl hdv_X2_thrown ⟨Nat.le_of_ble_eq_true rfl, Nat.le_of_ble_eq_true rfl⟩ hK (hP.sub (ws' := mwl Z g M') [25, 26, 27, 28, 29] rfl) (hD.sub (ws' := mwl Z g M') [25, 26, 27, 28, 29] (by decide) rfl) rfl rfl rfl rfl hl.1 rfl (Nat.le_of_ble_eq_true rfl) dL_law_198 ⟨by show _ ≤ 601024; omega, by show _ ≤ 7293033; omega⟩) hP hS hA (fun H locs hP hS => ?_)
        refine lv_iload hx hb dL_law_201 (lv_at hl 1 rfl) ?_
        refine lv_icmp_eq (tgt := 208) hx hb dL_law_203 (by decide) (fun _ => ?_) (fun c2 => absurd h0 c2)
        refine lv_iload hx hb dL_law_208 (lv_at hl 1 rfl) ?_
        refine lv_if_ne (tgt := 225) hx hb dL_law_210 (by decide) (fun c3 => absurd rfl c3) (fun _ => ?_)
        refine lv_aload_n hx hb dL_law_213 rfl (lv_at hl 5 rfl) ?_
        refine lv_iconst (v := 0) hx hb dL_law_214 (by decide) ?_
        refine va_lald hx hb hK hP 30 1 rfl rfl (vp_in_lit (by decide)) dL_law_215 ?_
        refine lv_iload hx hb dL_law_216 (lv_at hl 0 rfl) ?_
        refine lv_i2l hx hb dL_law_218 rfl ?_
        refine W.lcmp hx hb dL_law_219 ?_
        refine lv_if_eq (tgt := 225) hx hb dL_law_220 (by decide) (fun _ => ?_) (fun c4 => absurd ((lg_cmp_eq _ _).mpr rfl) c4)
        refine lv_goto (tgt := 1039) hx hb dL_law_225 (by decide) ?_
        exact hbk S' T' M' (vp_updL f 0 r.toInt64) H locs d0 _ _ ls hR1 hP hD hS hd0 (lv_sub hl [2, 3, 4, 5, 6] rfl) (by omega) (by omega)
      · obtain ⟨E, bb, M', hx1, hy1, h0, hE0, hR1⟩ := h9
        refine lv_aload_n hx hb dL_law_172 rfl (lv_at hl 1 rfl) ?_
        refine lv_aload_n hx hb dL_law_173 rfl (lv_at hl 0 rfl) ?_
        refine lv_iload hx hb dL_law_174 (lv_at hl 4 rfl) ?_
        refine lv_iconst (v := 1) hx hb dL_law_176 (by decide) ?_
        refine lv_iadd hx hb dL_law_177 ?_
        refine va_sld hx hb hX hbl hbA hS hi1 dL_law_178 ?_
        refine lv_aload_n hx hb dL_law_179 rfl (lv_at hl 3 rfl) ?_
        refine zc_mi zI_lw (z_SW (As := [.ref o, .int (xs (x4 + 1).toNatClampNeg), .ref q]) (rest := []) yE_ok hE hS hA ⟨hx, hb, hml, hown, hts⟩ (er_L_pod l htr D Z o a b2 S T q f (xs (x4 + 1).toNatClampNeg) E (cdIS E) hx1 (cdIS_c hE0)) gL_law_L_pod rfl rfl rfl hds_L_pod ⟨Nat.le_of_ble_eq_true rfl, Nat.le_of_ble_eq_true rfl⟩ hK (hP.sub (ws' := olw Z o a b2 S T q f) [0, 1, 2, 3, 4, 5, 6, 7, 8, 9, 10, 11, 12, 13, 14, 15, 16, 17, 18, 19, 20, 21, 22, 23, 24, 30] rfl) (hD.sub (ws' := olw Z o a b2 S T q f) [0, 1, 2, 3, 4, 5, 6, 7, 8, 9, 10, 11, 12, 13, 14, 15, 16, 17, 18, 19, 20, 21, 22, 23, 24, 30] (by decide) rfl) rfl hl.1 rfl (Nat.le_of_ble_eq_true rfl) dL_law_180 ⟨by show _ ≤ 601024; omega, by show _ ≤ 7293033; omega⟩) hP hD hS hA (fun H locs hP hD hS => ?_)
        refine lv_istore (lv' := [(5, .int (cdIS E)), (0, .ref b), (1, .ref o), (2, .ref (g 0)), (3, .ref q), (4, .int x4)]) hx hb dL_law_183 hl (by decide) rfl (fun ls hl => ?_)
        refine lv_aload_n hx hb dL_law_185 rfl (lv_at hl 3 rfl) ?_
        refine lv_aload_n hx hb dL_law_186 rfl (lv_at hl 1 rfl) ?_
        refine lv_iload hx hb dL_law_187 (lv_at hl 5 rfl) ?_
        refine lv_iconst (v := 1) hx hb dL_law_189 (by decide) ?_
        refine lv_iadd hx hb dL_law_190 ?_
        refine va_sld hx hb hX hbl hbA hS hi1 dL_law_191 ?_
        refine zc_mi zI_lm (z_VD (As := [.int (xs (x4 + 1).toNatClampNeg)]) (rest := []) (q0 := 0) (ci := 2) ⟨hx, hb, hml, hown, hts⟩ (m_X2_pod l D Z g M (xs (x4 + 1).toNatClampNeg) M' bb hy1) gL_law_X2_pod rfl rfl rfl hdv_X2_pod ⟨Nat.le_of_ble_eq_true rfl, Nat.le_of_ble_eq_true rfl⟩ hK (hP.sub (ws' := mwl Z g M) [25, 26, 27, 28, 29] rfl) (hD.sub (ws' := mwl Z g M) [25, 26, 27, 28, 29] (by decide) rfl) rfl rfl rfl rfl hl.1 rfl (Nat.le_of_ble_eq_true rfl) dL_law_192 ⟨by show _ ≤ 601024; omega, by show _ ≤ 7293033; omega⟩) hP hD hS hA (fun H locs hP hD hS => ?_)
        refine lv_istore (lv' := [(6, .int bb), (5, .int (cdIS E)), (0, .ref b), (1, .ref o), (2, .ref (g 0)), (3, .ref q), (4, .int x4)]) hx hb dL_law_195 hl (by decide) rfl (fun ls hl => ?_)
        refine lv_aload_n hx hb dL_law_197 rfl (lv_at hl 4 rfl) ?_
        refine zc_i (z_VD (As := []) (rest := []) (q0 := 0) (ci := 2) ⟨hx, hb, hml, hown, hts⟩ (m_X2_thrown l D Z g M' (M'.1 0) rfl) gL_law_X2_thrown rfl rfl rfl hdv_X2_thrown ⟨Nat.le_of_ble_eq_true rfl, Nat.le_of_ble_eq_true rfl⟩ hK (hP.sub (ws' := mwl Z g M') [25, 26, 27, 28, 29] rfl) (hD.sub (ws' := mwl Z g M') [25, 26, 27, 28, 29] (by decide) rfl) rfl rfl rfl rfl hl.1 rfl (Nat.le_of_ble_eq_true rfl) dL_law_198 ⟨by show _ ≤ 601024; omega, by show _ ≤ 7293033; omega⟩) hP hS hA (fun H locs hP hS => ?_)
        refine lv_iload hx hb dL_law_201 (lv_at hl 1 rfl) ?_
        refine lv_icmp_eq (tgt := 208) hx hb dL_law_203 (by decide) (fun _ => ?_) (fun c2 => absurd h0 c2)
        refine lv_iload hx hb dL_law_208 (lv_at hl 1 rfl) ?_
        refine lv_if_ne (tgt := 225) hx hb dL_law_210 (by decide) (fun _ => ?_) (fun c3 => absurd c3 hE0)
        refine lv_goto (tgt := 1039) hx hb dL_law_225 (by decide) ?_
        exact hbk S T M' f H locs d0 _ _ ls hR1 hP hD hS hd0 (lv_sub hl [2, 3, 4, 5, 6] rfl) (by omega) (by omega)
    by_cases hk2 : k15 = 2
    · subst hk2
      refine lv_tableIn (tgt := 228) (off := 189) hx hb dL_law_39 (by rw [ekt]; decide) (by rw [ekt]; decide) rfl (by decide) ?_
      rcases s3 (xs (x4 + 1).toNatClampNeg) (xs (x4 + 2).toNatClampNeg) with h9 | h9
      · obtain ⟨r, S', T', M', hx1, hy1, h0, hR1⟩ := h9
        refine lv_aload_n hx hb dL_law_228 rfl (lv_at hl 1 rfl) ?_
        refine lv_aload_n hx hb dL_law_229 rfl (lv_at hl 0 rfl) ?_
        refine lv_iload hx hb dL_law_230 (lv_at hl 4 rfl) ?_
        refine lv_iconst (v := 1) hx hb dL_law_232 (by decide) ?_
        refine lv_iadd hx hb dL_law_233 ?_
        refine va_sld hx hb hX hbl hbA hS hi1 dL_law_234 ?_
        refine lv_aload_n hx hb dL_law_235 rfl (lv_at hl 0 rfl) ?_
        refine lv_iload hx hb dL_law_236 (lv_at hl 4 rfl) ?_
        refine lv_iconst (v := 2) hx hb dL_law_238 (by decide) ?_
        refine lv_iadd hx hb dL_law_239 ?_
        refine va_sld hx hb hX hbl hbA hS hi2 dL_law_240 ?_
        refine lv_aload_n hx hb dL_law_241 rfl (lv_at hl 3 rfl) ?_
        refine zc_mi zI_lw (z_SW (As := [.ref o, .int (xs (x4 + 1).toNatClampNeg), .int (xs (x4 + 2).toNatClampNeg), .ref q]) (rest := []) yE_ok hE hS hA ⟨hx, hb, hml, hown, hts⟩ (ok_L_ride l D Z o a b2 S T q f (xs (x4 + 1).toNatClampNeg) (xs (x4 + 2).toNatClampNeg) r S' T' hx1) gL_law_L_ride rfl rfl rfl hds_L_ride ⟨Nat.le_of_ble_eq_true rfl, Nat.le_of_ble_eq_true rfl⟩ hK (hP.sub (ws' := olw Z o a b2 S T q f) [0, 1, 2, 3, 4, 5, 6, 7, 8, 9, 10, 11, 12, 13, 14, 15, 16, 17, 18, 19, 20, 21, 22, 23, 24, 30] rfl) (hD.sub (ws' := olw Z o a b2 S T q f) [0, 1, 2, 3, 4, 5, 6, 7, 8, 9, 10, 11, 12, 13, 14, 15, 16, 17, 18, 19, 20, 21, 22, 23, 24, 30] (by decide) rfl) rfl hl.1 rfl (Nat.le_of_ble_eq_true rfl) dL_law_242 ⟨by show _ ≤ 601024; omega, by show _ ≤ 7293033; omega⟩) hP hD hS hA (fun H locs hP hD hS => ?_)
        refine lv_istore (lv' := [(5, .int 0), (0, .ref b), (1, .ref o), (2, .ref (g 0)), (3, .ref q), (4, .int x4)]) hx hb dL_law_245 hl (by decide) rfl (fun ls hl => ?_)
        refine lv_aload_n hx hb dL_law_247 rfl (lv_at hl 3 rfl) ?_
        refine lv_aload_n hx hb dL_law_248 rfl (lv_at hl 1 rfl) ?_
        refine lv_iload hx hb dL_law_249 (lv_at hl 5 rfl) ?_
        refine lv_iconst (v := 1) hx hb dL_law_251 (by decide) ?_
        refine lv_iadd hx hb dL_law_252 ?_
        refine va_sld hx hb hX hbl hbA hS hi1 dL_law_253 ?_
        refine lv_aload_n hx hb dL_law_254 rfl (lv_at hl 1 rfl) ?_
        refine lv_iload hx hb dL_law_255 (lv_at hl 5 rfl) ?_
        refine lv_iconst (v := 2) hx hb dL_law_257 (by decide) ?_
        refine lv_iadd hx hb dL_law_258 ?_
        refine va_sld hx hb hX hbl hbA hS hi2 dL_law_259 ?_
        refine zc_mi zI_lm (z_VD (As := [.int (xs (x4 + 1).toNatClampNeg), .int (xs (x4 + 2).toNatClampNeg)]) (rest := []) (q0 := 0) (ci := 2) ⟨hx, hb, hml, hown, hts⟩ (m_X2_ride l D Z g M (xs (x4 + 1).toNatClampNeg) (xs (x4 + 2).toNatClampNeg) M' r hy1) gL_law_X2_ride rfl rfl rfl hdv_X2_ride ⟨Nat.le_of_ble_eq_true rfl, Nat.le_of_ble_eq_true rfl⟩ hK (hP.sub (ws' := mwl Z g M) [25, 26, 27, 28, 29] rfl) (hD.sub (ws' := mwl Z g M) [25, 26, 27, 28, 29] (by decide) rfl) rfl rfl rfl rfl hl.1 rfl (Nat.le_of_ble_eq_true rfl) dL_law_260 ⟨by show _ ≤ 601024; omega, by show _ ≤ 7293033; omega⟩) hP hD hS hA (fun H locs hP hD hS => ?_)
        refine lv_istore (lv' := [(6, .int r), (5, .int 0), (0, .ref b), (1, .ref o), (2, .ref (g 0)), (3, .ref q), (4, .int x4)]) hx hb dL_law_263 hl (by decide) rfl (fun ls hl => ?_)
        refine lv_aload_n hx hb dL_law_265 rfl (lv_at hl 4 rfl) ?_
        refine zc_i (z_VD (As := []) (rest := []) (q0 := 0) (ci := 2) ⟨hx, hb, hml, hown, hts⟩ (m_X2_thrown l D Z g M' (M'.1 0) rfl) gL_law_X2_thrown rfl rfl rfl hdv_X2_thrown ⟨Nat.le_of_ble_eq_true rfl, Nat.le_of_ble_eq_true rfl⟩ hK (hP.sub (ws' := mwl Z g M') [25, 26, 27, 28, 29] rfl) (hD.sub (ws' := mwl Z g M') [25, 26, 27, 28, 29] (by decide) rfl) rfl rfl rfl rfl hl.1 rfl (Nat.le_of_ble_eq_true rfl) dL_law_266 ⟨by show _ ≤ 601024; omega, by show _ ≤ 7293033; omega⟩) hP hS hA (fun H locs hP hS => ?_)
        refine lv_iload hx hb dL_law_269 (lv_at hl 1 rfl) ?_
        refine lv_icmp_eq (tgt := 276) hx hb dL_law_271 (by decide) (fun _ => ?_) (fun c2 => absurd h0 c2)
        refine lv_iload hx hb dL_law_276 (lv_at hl 1 rfl) ?_
        refine lv_if_ne (tgt := 293) hx hb dL_law_278 (by decide) (fun c3 => absurd rfl c3) (fun _ => ?_)
        refine lv_aload_n hx hb dL_law_281 rfl (lv_at hl 5 rfl) ?_
        refine lv_iconst (v := 0) hx hb dL_law_282 (by decide) ?_
        refine va_lald hx hb hK hP 30 1 rfl rfl (vp_in_lit (by decide)) dL_law_283 ?_
        refine lv_iload hx hb dL_law_284 (lv_at hl 0 rfl) ?_
        refine lv_i2l hx hb dL_law_286 rfl ?_
        refine W.lcmp hx hb dL_law_287 ?_
        refine lv_if_eq (tgt := 293) hx hb dL_law_288 (by decide) (fun _ => ?_) (fun c4 => absurd ((lg_cmp_eq _ _).mpr rfl) c4)
        refine lv_goto (tgt := 1039) hx hb dL_law_293 (by decide) ?_
        exact hbk S' T' M' (vp_updL f 0 r.toInt64) H locs d0 _ _ ls hR1 hP hD hS hd0 (lv_sub hl [2, 3, 4, 5, 6] rfl) (by omega) (by omega)
      · obtain ⟨E, bb, M', hx1, hy1, h0, hE0, hR1⟩ := h9
        refine lv_aload_n hx hb dL_law_228 rfl (lv_at hl 1 rfl) ?_
        refine lv_aload_n hx hb dL_law_229 rfl (lv_at hl 0 rfl) ?_
        refine lv_iload hx hb dL_law_230 (lv_at hl 4 rfl) ?_
        refine lv_iconst (v := 1) hx hb dL_law_232 (by decide) ?_
        refine lv_iadd hx hb dL_law_233 ?_
        refine va_sld hx hb hX hbl hbA hS hi1 dL_law_234 ?_
        refine lv_aload_n hx hb dL_law_235 rfl (lv_at hl 0 rfl) ?_
        refine lv_iload hx hb dL_law_236 (lv_at hl 4 rfl) ?_
        refine lv_iconst (v := 2) hx hb dL_law_238 (by decide) ?_
        refine lv_iadd hx hb dL_law_239 ?_
        refine va_sld hx hb hX hbl hbA hS hi2 dL_law_240 ?_
        refine lv_aload_n hx hb dL_law_241 rfl (lv_at hl 3 rfl) ?_
        refine zc_mi zI_lw (z_SW (As := [.ref o, .int (xs (x4 + 1).toNatClampNeg), .int (xs (x4 + 2).toNatClampNeg), .ref q]) (rest := []) yE_ok hE hS hA ⟨hx, hb, hml, hown, hts⟩ (er_L_ride l htr D Z o a b2 S T q f (xs (x4 + 1).toNatClampNeg) (xs (x4 + 2).toNatClampNeg) E (cdIAS E) hx1 (cdIAS_c hE0)) gL_law_L_ride rfl rfl rfl hds_L_ride ⟨Nat.le_of_ble_eq_true rfl, Nat.le_of_ble_eq_true rfl⟩ hK (hP.sub (ws' := olw Z o a b2 S T q f) [0, 1, 2, 3, 4, 5, 6, 7, 8, 9, 10, 11, 12, 13, 14, 15, 16, 17, 18, 19, 20, 21, 22, 23, 24, 30] rfl) (hD.sub (ws' := olw Z o a b2 S T q f) [0, 1, 2, 3, 4, 5, 6, 7, 8, 9, 10, 11, 12, 13, 14, 15, 16, 17, 18, 19, 20, 21, 22, 23, 24, 30] (by decide) rfl) rfl hl.1 rfl (Nat.le_of_ble_eq_true rfl) dL_law_242 ⟨by show _ ≤ 601024; omega, by show _ ≤ 7293033; omega⟩) hP hD hS hA (fun H locs hP hD hS => ?_)
        refine lv_istore (lv' := [(5, .int (cdIAS E)), (0, .ref b), (1, .ref o), (2, .ref (g 0)), (3, .ref q), (4, .int x4)]) hx hb dL_law_245 hl (by decide) rfl (fun ls hl => ?_)
        refine lv_aload_n hx hb dL_law_247 rfl (lv_at hl 3 rfl) ?_
        refine lv_aload_n hx hb dL_law_248 rfl (lv_at hl 1 rfl) ?_
        refine lv_iload hx hb dL_law_249 (lv_at hl 5 rfl) ?_
        refine lv_iconst (v := 1) hx hb dL_law_251 (by decide) ?_
        refine lv_iadd hx hb dL_law_252 ?_
        refine va_sld hx hb hX hbl hbA hS hi1 dL_law_253 ?_
        refine lv_aload_n hx hb dL_law_254 rfl (lv_at hl 1 rfl) ?_
        refine lv_iload hx hb dL_law_255 (lv_at hl 5 rfl) ?_
        refine lv_iconst (v := 2) hx hb dL_law_257 (by decide) ?_
        refine lv_iadd hx hb dL_law_258 ?_
        refine va_sld hx hb hX hbl hbA hS hi2 dL_law_259 ?_
        refine zc_mi zI_lm (z_VD (As := [.int (xs (x4 + 1).toNatClampNeg), .int (xs (x4 + 2).toNatClampNeg)]) (rest := []) (q0 := 0) (ci := 2) ⟨hx, hb, hml, hown, hts⟩ (m_X2_ride l D Z g M (xs (x4 + 1).toNatClampNeg) (xs (x4 + 2).toNatClampNeg) M' bb hy1) gL_law_X2_ride rfl rfl rfl hdv_X2_ride ⟨Nat.le_of_ble_eq_true rfl, Nat.le_of_ble_eq_true rfl⟩ hK (hP.sub (ws' := mwl Z g M) [25, 26, 27, 28, 29] rfl) (hD.sub (ws' := mwl Z g M) [25, 26, 27, 28, 29] (by decide) rfl) rfl rfl rfl rfl hl.1 rfl (Nat.le_of_ble_eq_true rfl) dL_law_260 ⟨by show _ ≤ 601024; omega, by show _ ≤ 7293033; omega⟩) hP hD hS hA (fun H locs hP hD hS => ?_)
        refine lv_istore (lv' := [(6, .int bb), (5, .int (cdIAS E)), (0, .ref b), (1, .ref o), (2, .ref (g 0)), (3, .ref q), (4, .int x4)]) hx hb dL_law_263 hl (by decide) rfl (fun ls hl => ?_)
        refine lv_aload_n hx hb dL_law_265 rfl (lv_at hl 4 rfl) ?_
        refine zc_i (z_VD (As := []) (rest := []) (q0 := 0) (ci := 2) ⟨hx, hb, hml, hown, hts⟩ (m_X2_thrown l D Z g M' (M'.1 0) rfl) gL_law_X2_thrown rfl rfl rfl hdv_X2_thrown ⟨Nat.le_of_ble_eq_true rfl, Nat.le_of_ble_eq_true rfl⟩ hK (hP.sub (ws' := mwl Z g M') [25, 26, 27, 28, 29] rfl) (hD.sub (ws' := mwl Z g M') [25, 26, 27, 28, 29] (by decide) rfl) rfl rfl rfl rfl hl.1 rfl (Nat.le_of_ble_eq_true rfl) dL_law_266 ⟨by show _ ≤ 601024; omega, by show _ ≤ 7293033; omega⟩) hP hS hA (fun H locs hP hS => ?_)
        refine lv_iload hx hb dL_law_269 (lv_at hl 1 rfl) ?_
        refine lv_icmp_eq (tgt := 276) hx hb dL_law_271 (by decide) (fun _ => ?_) (fun c2 => absurd h0 c2)
        refine lv_iload hx hb dL_law_276 (lv_at hl 1 rfl) ?_
        refine lv_if_ne (tgt := 293) hx hb dL_law_278 (by decide) (fun _ => ?_) (fun c3 => absurd c3 hE0)
        refine lv_goto (tgt := 1039) hx hb dL_law_293 (by decide) ?_
        exact hbk S T M' f H locs d0 _ _ ls hR1 hP hD hS hd0 (lv_sub hl [2, 3, 4, 5, 6] rfl) (by omega) (by omega)
    by_cases hk3 : k15 = 3
    · subst hk3
      refine lv_tableIn (tgt := 296) (off := 257) hx hb dL_law_39 (by rw [ekt]; decide) (by rw [ekt]; decide) rfl (by decide) ?_
      rcases s4 (xs (x4 + 1).toNatClampNeg) (xs (x4 + 2).toNatClampNeg) with h9 | h9
      · obtain ⟨r, S', T', M', hx1, hy1, h0, hR1⟩ := h9
        refine lv_aload_n hx hb dL_law_296 rfl (lv_at hl 1 rfl) ?_
        refine lv_aload_n hx hb dL_law_297 rfl (lv_at hl 0 rfl) ?_
        refine lv_iload hx hb dL_law_298 (lv_at hl 4 rfl) ?_
        refine lv_iconst (v := 1) hx hb dL_law_300 (by decide) ?_
        refine lv_iadd hx hb dL_law_301 ?_
        refine va_sld hx hb hX hbl hbA hS hi1 dL_law_302 ?_
        refine lv_aload_n hx hb dL_law_303 rfl (lv_at hl 0 rfl) ?_
        refine lv_iload hx hb dL_law_304 (lv_at hl 4 rfl) ?_
        refine lv_iconst (v := 2) hx hb dL_law_306 (by decide) ?_
        refine lv_iadd hx hb dL_law_307 ?_
        refine va_sld hx hb hX hbl hbA hS hi2 dL_law_308 ?_
        refine lv_aload_n hx hb dL_law_309 rfl (lv_at hl 3 rfl) ?_
        refine zc_mi zI_lw (z_SW (As := [.ref o, .int (xs (x4 + 1).toNatClampNeg), .int (xs (x4 + 2).toNatClampNeg), .ref q]) (rest := []) yE_ok hE hS hA ⟨hx, hb, hml, hown, hts⟩ (ok_L_send l D Z o a b2 S T q f (xs (x4 + 1).toNatClampNeg) (xs (x4 + 2).toNatClampNeg) r S' T' hx1) gL_law_L_send rfl rfl rfl hds_L_send ⟨Nat.le_of_ble_eq_true rfl, Nat.le_of_ble_eq_true rfl⟩ hK (hP.sub (ws' := olw Z o a b2 S T q f) [0, 1, 2, 3, 4, 5, 6, 7, 8, 9, 10, 11, 12, 13, 14, 15, 16, 17, 18, 19, 20, 21, 22, 23, 24, 30] rfl) (hD.sub (ws' := olw Z o a b2 S T q f) [0, 1, 2, 3, 4, 5, 6, 7, 8, 9, 10, 11, 12, 13, 14, 15, 16, 17, 18, 19, 20, 21, 22, 23, 24, 30] (by decide) rfl) rfl hl.1 rfl (Nat.le_of_ble_eq_true rfl) dL_law_310 ⟨by show _ ≤ 601024; omega, by show _ ≤ 7293033; omega⟩) hP hD hS hA (fun H locs hP hD hS => ?_)
        refine lv_istore (lv' := [(5, .int 0), (0, .ref b), (1, .ref o), (2, .ref (g 0)), (3, .ref q), (4, .int x4)]) hx hb dL_law_313 hl (by decide) rfl (fun ls hl => ?_)
        refine lv_aload_n hx hb dL_law_315 rfl (lv_at hl 3 rfl) ?_
        refine lv_aload_n hx hb dL_law_316 rfl (lv_at hl 1 rfl) ?_
        refine lv_iload hx hb dL_law_317 (lv_at hl 5 rfl) ?_
        refine lv_iconst (v := 1) hx hb dL_law_319 (by decide) ?_
        refine lv_iadd hx hb dL_law_320 ?_
        refine va_sld hx hb hX hbl hbA hS hi1 dL_law_321 ?_
        refine lv_aload_n hx hb dL_law_322 rfl (lv_at hl 1 rfl) ?_
        refine lv_iload hx hb dL_law_323 (lv_at hl 5 rfl) ?_
        refine lv_iconst (v := 2) hx hb dL_law_325 (by decide) ?_
        refine lv_iadd hx hb dL_law_326 ?_
        refine va_sld hx hb hX hbl hbA hS hi2 dL_law_327 ?_
        refine zc_mi zI_lm (z_VD (As := [.int (xs (x4 + 1).toNatClampNeg), .int (xs (x4 + 2).toNatClampNeg)]) (rest := []) (q0 := 0) (ci := 2) ⟨hx, hb, hml, hown, hts⟩ (m_X2_send l D Z g M (xs (x4 + 1).toNatClampNeg) (xs (x4 + 2).toNatClampNeg) M' r hy1) gL_law_X2_send rfl rfl rfl hdv_X2_send ⟨Nat.le_of_ble_eq_true rfl, Nat.le_of_ble_eq_true rfl⟩ hK (hP.sub (ws' := mwl Z g M) [25, 26, 27, 28, 29] rfl) (hD.sub (ws' := mwl Z g M) [25, 26, 27, 28, 29] (by decide) rfl) rfl rfl rfl rfl hl.1 rfl (Nat.le_of_ble_eq_true rfl) dL_law_328 ⟨by show _ ≤ 601024; omega, by show _ ≤ 7293033; omega⟩) hP hD hS hA (fun H locs hP hD hS => ?_)
        refine lv_istore (lv' := [(6, .int r), (5, .int 0), (0, .ref b), (1, .ref o), (2, .ref (g 0)), (3, .ref q), (4, .int x4)]) hx hb dL_law_331 hl (by decide) rfl (fun ls hl => ?_)
        refine lv_aload_n hx hb dL_law_333 rfl (lv_at hl 4 rfl) ?_
        refine zc_i (z_VD (As := []) (rest := []) (q0 := 0) (ci := 2) ⟨hx, hb, hml, hown, hts⟩ (m_X2_thrown l D Z g M' (M'.1 0) rfl) gL_law_X2_thrown rfl rfl rfl hdv_X2_thrown ⟨Nat.le_of_ble_eq_true rfl, Nat.le_of_ble_eq_true rfl⟩ hK (hP.sub (ws' := mwl Z g M') [25, 26, 27, 28, 29] rfl) (hD.sub (ws' := mwl Z g M') [25, 26, 27, 28, 29] (by decide) rfl) rfl rfl rfl rfl hl.1 rfl (Nat.le_of_ble_eq_true rfl) dL_law_334 ⟨by show _ ≤ 601024; omega, by show _ ≤ 7293033; omega⟩) hP hS hA (fun H locs hP hS => ?_)
        refine lv_iload hx hb dL_law_337 (lv_at hl 1 rfl) ?_
        refine lv_icmp_eq (tgt := 344) hx hb dL_law_339 (by decide) (fun _ => ?_) (fun c2 => absurd h0 c2)
        refine lv_iload hx hb dL_law_344 (lv_at hl 1 rfl) ?_
        refine lv_if_ne (tgt := 361) hx hb dL_law_346 (by decide) (fun c3 => absurd rfl c3) (fun _ => ?_)
        refine lv_aload_n hx hb dL_law_349 rfl (lv_at hl 5 rfl) ?_
        refine lv_iconst (v := 0) hx hb dL_law_350 (by decide) ?_
        refine va_lald hx hb hK hP 30 1 rfl rfl (vp_in_lit (by decide)) dL_law_351 ?_
        refine lv_iload hx hb dL_law_352 (lv_at hl 0 rfl) ?_
        refine lv_i2l hx hb dL_law_354 rfl ?_
        refine W.lcmp hx hb dL_law_355 ?_
        refine lv_if_eq (tgt := 361) hx hb dL_law_356 (by decide) (fun _ => ?_) (fun c4 => absurd ((lg_cmp_eq _ _).mpr rfl) c4)
        refine lv_goto (tgt := 1039) hx hb dL_law_361 (by decide) ?_
        exact hbk S' T' M' (vp_updL f 0 r.toInt64) H locs d0 _ _ ls hR1 hP hD hS hd0 (lv_sub hl [2, 3, 4, 5, 6] rfl) (by omega) (by omega)
      · obtain ⟨E, bb, M', hx1, hy1, h0, hE0, hR1⟩ := h9
        refine lv_aload_n hx hb dL_law_296 rfl (lv_at hl 1 rfl) ?_
        refine lv_aload_n hx hb dL_law_297 rfl (lv_at hl 0 rfl) ?_
        refine lv_iload hx hb dL_law_298 (lv_at hl 4 rfl) ?_
        refine lv_iconst (v := 1) hx hb dL_law_300 (by decide) ?_
        refine lv_iadd hx hb dL_law_301 ?_
        refine va_sld hx hb hX hbl hbA hS hi1 dL_law_302 ?_
        refine lv_aload_n hx hb dL_law_303 rfl (lv_at hl 0 rfl) ?_
        refine lv_iload hx hb dL_law_304 (lv_at hl 4 rfl) ?_
        refine lv_iconst (v := 2) hx hb dL_law_306 (by decide) ?_
        refine lv_iadd hx hb dL_law_307 ?_
        refine va_sld hx hb hX hbl hbA hS hi2 dL_law_308 ?_
        refine lv_aload_n hx hb dL_law_309 rfl (lv_at hl 3 rfl) ?_
        refine zc_mi zI_lw (z_SW (As := [.ref o, .int (xs (x4 + 1).toNatClampNeg), .int (xs (x4 + 2).toNatClampNeg), .ref q]) (rest := []) yE_ok hE hS hA ⟨hx, hb, hml, hown, hts⟩ (er_L_send l htr D Z o a b2 S T q f (xs (x4 + 1).toNatClampNeg) (xs (x4 + 2).toNatClampNeg) E (cdIS E) hx1 (cdIS_c hE0)) gL_law_L_send rfl rfl rfl hds_L_send ⟨Nat.le_of_ble_eq_true rfl, Nat.le_of_ble_eq_true rfl⟩ hK (hP.sub (ws' := olw Z o a b2 S T q f) [0, 1, 2, 3, 4, 5, 6, 7, 8, 9, 10, 11, 12, 13, 14, 15, 16, 17, 18, 19, 20, 21, 22, 23, 24, 30] rfl) (hD.sub (ws' := olw Z o a b2 S T q f) [0, 1, 2, 3, 4, 5, 6, 7, 8, 9, 10, 11, 12, 13, 14, 15, 16, 17, 18, 19, 20, 21, 22, 23, 24, 30] (by decide) rfl) rfl hl.1 rfl (Nat.le_of_ble_eq_true rfl) dL_law_310 ⟨by show _ ≤ 601024; omega, by show _ ≤ 7293033; omega⟩) hP hD hS hA (fun H locs hP hD hS => ?_)
        refine lv_istore (lv' := [(5, .int (cdIS E)), (0, .ref b), (1, .ref o), (2, .ref (g 0)), (3, .ref q), (4, .int x4)]) hx hb dL_law_313 hl (by decide) rfl (fun ls hl => ?_)
        refine lv_aload_n hx hb dL_law_315 rfl (lv_at hl 3 rfl) ?_
        refine lv_aload_n hx hb dL_law_316 rfl (lv_at hl 1 rfl) ?_
        refine lv_iload hx hb dL_law_317 (lv_at hl 5 rfl) ?_
        refine lv_iconst (v := 1) hx hb dL_law_319 (by decide) ?_
        refine lv_iadd hx hb dL_law_320 ?_
        refine va_sld hx hb hX hbl hbA hS hi1 dL_law_321 ?_
        refine lv_aload_n hx hb dL_law_322 rfl (lv_at hl 1 rfl) ?_
        refine lv_iload hx hb dL_law_323 (lv_at hl 5 rfl) ?_
        refine lv_iconst (v := 2) hx hb dL_law_325 (by decide) ?_
        refine lv_iadd hx hb dL_law_326 ?_
        refine va_sld hx hb hX hbl hbA hS hi2 dL_law_327 ?_
        refine zc_mi zI_lm (z_VD (As := [.int (xs (x4 + 1).toNatClampNeg), .int (xs (x4 + 2).toNatClampNeg)]) (rest := []) (q0 := 0) (ci := 2) ⟨hx, hb, hml, hown, hts⟩ (m_X2_send l D Z g M (xs (x4 + 1).toNatClampNeg) (xs (x4 + 2).toNatClampNeg) M' bb hy1) gL_law_X2_send rfl rfl rfl hdv_X2_send ⟨Nat.le_of_ble_eq_true rfl, Nat.le_of_ble_eq_true rfl⟩ hK (hP.sub (ws' := mwl Z g M) [25, 26, 27, 28, 29] rfl) (hD.sub (ws' := mwl Z g M) [25, 26, 27, 28, 29] (by decide) rfl) rfl rfl rfl rfl hl.1 rfl (Nat.le_of_ble_eq_true rfl) dL_law_328 ⟨by show _ ≤ 601024; omega, by show _ ≤ 7293033; omega⟩) hP hD hS hA (fun H locs hP hD hS => ?_)
        refine lv_istore (lv' := [(6, .int bb), (5, .int (cdIS E)), (0, .ref b), (1, .ref o), (2, .ref (g 0)), (3, .ref q), (4, .int x4)]) hx hb dL_law_331 hl (by decide) rfl (fun ls hl => ?_)
        refine lv_aload_n hx hb dL_law_333 rfl (lv_at hl 4 rfl) ?_
        refine zc_i (z_VD (As := []) (rest := []) (q0 := 0) (ci := 2) ⟨hx, hb, hml, hown, hts⟩ (m_X2_thrown l D Z g M' (M'.1 0) rfl) gL_law_X2_thrown rfl rfl rfl hdv_X2_thrown ⟨Nat.le_of_ble_eq_true rfl, Nat.le_of_ble_eq_true rfl⟩ hK (hP.sub (ws' := mwl Z g M') [25, 26, 27, 28, 29] rfl) (hD.sub (ws' := mwl Z g M') [25, 26, 27, 28, 29] (by decide) rfl) rfl rfl rfl rfl hl.1 rfl (Nat.le_of_ble_eq_true rfl) dL_law_334 ⟨by show _ ≤ 601024; omega, by show _ ≤ 7293033; omega⟩) hP hS hA (fun H locs hP hS => ?_)
        refine lv_iload hx hb dL_law_337 (lv_at hl 1 rfl) ?_
        refine lv_icmp_eq (tgt := 344) hx hb dL_law_339 (by decide) (fun _ => ?_) (fun c2 => absurd h0 c2)
        refine lv_iload hx hb dL_law_344 (lv_at hl 1 rfl) ?_
        refine lv_if_ne (tgt := 361) hx hb dL_law_346 (by decide) (fun _ => ?_) (fun c3 => absurd c3 hE0)
        refine lv_goto (tgt := 1039) hx hb dL_law_361 (by decide) ?_
        exact hbk S T M' f H locs d0 _ _ ls hR1 hP hD hS hd0 (lv_sub hl [2, 3, 4, 5, 6] rfl) (by omega) (by omega)
    by_cases hk4 : k15 = 4
    · subst hk4
      refine lv_tableIn (tgt := 364) (off := 325) hx hb dL_law_39 (by rw [ekt]; decide) (by rw [ekt]; decide) rfl (by decide) ?_
      rcases s5 (xs (x4 + 1).toNatClampNeg) (xs (x4 + 2).toNatClampNeg) with h9 | h9
      · obtain ⟨r, M', hx1, hy1, h0, hR1⟩ := h9
        refine lv_aload_n hx hb dL_law_364 rfl (lv_at hl 1 rfl) ?_
        refine lv_aload_n hx hb dL_law_365 rfl (lv_at hl 0 rfl) ?_
        refine lv_iload hx hb dL_law_366 (lv_at hl 4 rfl) ?_
        refine lv_iconst (v := 1) hx hb dL_law_368 (by decide) ?_
        refine lv_iadd hx hb dL_law_369 ?_
        refine va_sld hx hb hX hbl hbA hS hi1 dL_law_370 ?_
        refine lv_aload_n hx hb dL_law_371 rfl (lv_at hl 0 rfl) ?_
        refine lv_iload hx hb dL_law_372 (lv_at hl 4 rfl) ?_
        refine lv_iconst (v := 2) hx hb dL_law_374 (by decide) ?_
        refine lv_iadd hx hb dL_law_375 ?_
        refine va_sld hx hb hX hbl hbA hS hi2 dL_law_376 ?_
        refine lv_aload_n hx hb dL_law_377 rfl (lv_at hl 3 rfl) ?_
        refine zc_mi zI_lw (z_SW (As := [.ref o, .int (xs (x4 + 1).toNatClampNeg), .int (xs (x4 + 2).toNatClampNeg), .ref q]) (rest := []) yE_ok hE hS hA ⟨hx, hb, hml, hown, hts⟩ (ok_L_told l D Z o a b2 S T q f (xs (x4 + 1).toNatClampNeg) (xs (x4 + 2).toNatClampNeg) r hx1) gL_law_L_told rfl rfl rfl hds_L_told ⟨Nat.le_of_ble_eq_true rfl, Nat.le_of_ble_eq_true rfl⟩ hK (hP.sub (ws' := olw Z o a b2 S T q f) [0, 1, 2, 3, 4, 5, 6, 7, 8, 9, 10, 11, 12, 13, 14, 15, 16, 17, 18, 19, 20, 21, 22, 23, 24, 30] rfl) (hD.sub (ws' := olw Z o a b2 S T q f) [0, 1, 2, 3, 4, 5, 6, 7, 8, 9, 10, 11, 12, 13, 14, 15, 16, 17, 18, 19, 20, 21, 22, 23, 24, 30] (by decide) rfl) rfl hl.1 rfl (Nat.le_of_ble_eq_true rfl) dL_law_378 ⟨by show _ ≤ 601024; omega, by show _ ≤ 7293033; omega⟩) hP hD hS hA (fun H locs hP hD hS => ?_)
        refine lv_istore (lv' := [(5, .int 0), (0, .ref b), (1, .ref o), (2, .ref (g 0)), (3, .ref q), (4, .int x4)]) hx hb dL_law_381 hl (by decide) rfl (fun ls hl => ?_)
        refine lv_aload_n hx hb dL_law_383 rfl (lv_at hl 3 rfl) ?_
        refine lv_aload_n hx hb dL_law_384 rfl (lv_at hl 1 rfl) ?_
        refine lv_iload hx hb dL_law_385 (lv_at hl 5 rfl) ?_
        refine lv_iconst (v := 1) hx hb dL_law_387 (by decide) ?_
        refine lv_iadd hx hb dL_law_388 ?_
        refine va_sld hx hb hX hbl hbA hS hi1 dL_law_389 ?_
        refine lv_aload_n hx hb dL_law_390 rfl (lv_at hl 1 rfl) ?_
        refine lv_iload hx hb dL_law_391 (lv_at hl 5 rfl) ?_
        refine lv_iconst (v := 2) hx hb dL_law_393 (by decide) ?_
        refine lv_iadd hx hb dL_law_394 ?_
        refine va_sld hx hb hX hbl hbA hS hi2 dL_law_395 ?_
        refine zc_mi zI_lm (z_VD (As := [.int (xs (x4 + 1).toNatClampNeg), .int (xs (x4 + 2).toNatClampNeg)]) (rest := []) (q0 := 0) (ci := 2) ⟨hx, hb, hml, hown, hts⟩ (m_X2_told l D Z g M (xs (x4 + 1).toNatClampNeg) (xs (x4 + 2).toNatClampNeg) M' r hy1) gL_law_X2_told rfl rfl rfl hdv_X2_told ⟨Nat.le_of_ble_eq_true rfl, Nat.le_of_ble_eq_true rfl⟩ hK (hP.sub (ws' := mwl Z g M) [25, 26, 27, 28, 29] rfl) (hD.sub (ws' := mwl Z g M) [25, 26, 27, 28, 29] (by decide) rfl) rfl rfl rfl rfl hl.1 rfl (Nat.le_of_ble_eq_true rfl) dL_law_396 ⟨by show _ ≤ 601024; omega, by show _ ≤ 7293033; omega⟩) hP hD hS hA (fun H locs hP hD hS => ?_)
        refine lv_istore (lv' := [(6, .int r), (5, .int 0), (0, .ref b), (1, .ref o), (2, .ref (g 0)), (3, .ref q), (4, .int x4)]) hx hb dL_law_399 hl (by decide) rfl (fun ls hl => ?_)
        refine lv_aload_n hx hb dL_law_401 rfl (lv_at hl 4 rfl) ?_
        refine zc_i (z_VD (As := []) (rest := []) (q0 := 0) (ci := 2) ⟨hx, hb, hml, hown, hts⟩ (m_X2_thrown l D Z g M' (M'.1 0) rfl) gL_law_X2_thrown rfl rfl rfl hdv_X2_thrown ⟨Nat.le_of_ble_eq_true rfl, Nat.le_of_ble_eq_true rfl⟩ hK (hP.sub (ws' := mwl Z g M') [25, 26, 27, 28, 29] rfl) (hD.sub (ws' := mwl Z g M') [25, 26, 27, 28, 29] (by decide) rfl) rfl rfl rfl rfl hl.1 rfl (Nat.le_of_ble_eq_true rfl) dL_law_402 ⟨by show _ ≤ 601024; omega, by show _ ≤ 7293033; omega⟩) hP hS hA (fun H locs hP hS => ?_)
        refine lv_iload hx hb dL_law_405 (lv_at hl 1 rfl) ?_
        refine lv_icmp_eq (tgt := 412) hx hb dL_law_407 (by decide) (fun _ => ?_) (fun c2 => absurd h0 c2)
        refine lv_iload hx hb dL_law_412 (lv_at hl 1 rfl) ?_
        refine lv_if_ne (tgt := 429) hx hb dL_law_414 (by decide) (fun c3 => absurd rfl c3) (fun _ => ?_)
        refine lv_aload_n hx hb dL_law_417 rfl (lv_at hl 5 rfl) ?_
        refine lv_iconst (v := 0) hx hb dL_law_418 (by decide) ?_
        refine va_lald hx hb hK hP 30 1 rfl rfl (vp_in_lit (by decide)) dL_law_419 ?_
        refine lv_iload hx hb dL_law_420 (lv_at hl 0 rfl) ?_
        refine lv_i2l hx hb dL_law_422 rfl ?_
        refine W.lcmp hx hb dL_law_423 ?_
        refine lv_if_eq (tgt := 429) hx hb dL_law_424 (by decide) (fun _ => ?_) (fun c4 => absurd ((lg_cmp_eq _ _).mpr rfl) c4)
        refine lv_goto (tgt := 1039) hx hb dL_law_429 (by decide) ?_
        exact hbk S T M' (vp_updL f 0 r.toInt64) H locs d0 _ _ ls hR1 hP hD hS hd0 (lv_sub hl [2, 3, 4, 5, 6] rfl) (by omega) (by omega)
      · obtain ⟨E, bb, M', hx1, hy1, h0, hE0, hR1⟩ := h9
        refine lv_aload_n hx hb dL_law_364 rfl (lv_at hl 1 rfl) ?_
        refine lv_aload_n hx hb dL_law_365 rfl (lv_at hl 0 rfl) ?_
        refine lv_iload hx hb dL_law_366 (lv_at hl 4 rfl) ?_
        refine lv_iconst (v := 1) hx hb dL_law_368 (by decide) ?_
        refine lv_iadd hx hb dL_law_369 ?_
        refine va_sld hx hb hX hbl hbA hS hi1 dL_law_370 ?_
        refine lv_aload_n hx hb dL_law_371 rfl (lv_at hl 0 rfl) ?_
        refine lv_iload hx hb dL_law_372 (lv_at hl 4 rfl) ?_
        refine lv_iconst (v := 2) hx hb dL_law_374 (by decide) ?_
        refine lv_iadd hx hb dL_law_375 ?_
        refine va_sld hx hb hX hbl hbA hS hi2 dL_law_376 ?_
        refine lv_aload_n hx hb dL_law_377 rfl (lv_at hl 3 rfl) ?_
        refine zc_mi zI_lw (z_SW (As := [.ref o, .int (xs (x4 + 1).toNatClampNeg), .int (xs (x4 + 2).toNatClampNeg), .ref q]) (rest := []) yE_ok hE hS hA ⟨hx, hb, hml, hown, hts⟩ (er_L_told l htr D Z o a b2 S T q f (xs (x4 + 1).toNatClampNeg) (xs (x4 + 2).toNatClampNeg) E (cdI E) hx1 (cdI_c hE0)) gL_law_L_told rfl rfl rfl hds_L_told ⟨Nat.le_of_ble_eq_true rfl, Nat.le_of_ble_eq_true rfl⟩ hK (hP.sub (ws' := olw Z o a b2 S T q f) [0, 1, 2, 3, 4, 5, 6, 7, 8, 9, 10, 11, 12, 13, 14, 15, 16, 17, 18, 19, 20, 21, 22, 23, 24, 30] rfl) (hD.sub (ws' := olw Z o a b2 S T q f) [0, 1, 2, 3, 4, 5, 6, 7, 8, 9, 10, 11, 12, 13, 14, 15, 16, 17, 18, 19, 20, 21, 22, 23, 24, 30] (by decide) rfl) rfl hl.1 rfl (Nat.le_of_ble_eq_true rfl) dL_law_378 ⟨by show _ ≤ 601024; omega, by show _ ≤ 7293033; omega⟩) hP hD hS hA (fun H locs hP hD hS => ?_)
        refine lv_istore (lv' := [(5, .int (cdI E)), (0, .ref b), (1, .ref o), (2, .ref (g 0)), (3, .ref q), (4, .int x4)]) hx hb dL_law_381 hl (by decide) rfl (fun ls hl => ?_)
        refine lv_aload_n hx hb dL_law_383 rfl (lv_at hl 3 rfl) ?_
        refine lv_aload_n hx hb dL_law_384 rfl (lv_at hl 1 rfl) ?_
        refine lv_iload hx hb dL_law_385 (lv_at hl 5 rfl) ?_
        refine lv_iconst (v := 1) hx hb dL_law_387 (by decide) ?_
        refine lv_iadd hx hb dL_law_388 ?_
        refine va_sld hx hb hX hbl hbA hS hi1 dL_law_389 ?_
        refine lv_aload_n hx hb dL_law_390 rfl (lv_at hl 1 rfl) ?_
        refine lv_iload hx hb dL_law_391 (lv_at hl 5 rfl) ?_
        refine lv_iconst (v := 2) hx hb dL_law_393 (by decide) ?_
        refine lv_iadd hx hb dL_law_394 ?_
        refine va_sld hx hb hX hbl hbA hS hi2 dL_law_395 ?_
        refine zc_mi zI_lm (z_VD (As := [.int (xs (x4 + 1).toNatClampNeg), .int (xs (x4 + 2).toNatClampNeg)]) (rest := []) (q0 := 0) (ci := 2) ⟨hx, hb, hml, hown, hts⟩ (m_X2_told l D Z g M (xs (x4 + 1).toNatClampNeg) (xs (x4 + 2).toNatClampNeg) M' bb hy1) gL_law_X2_told rfl rfl rfl hdv_X2_told ⟨Nat.le_of_ble_eq_true rfl, Nat.le_of_ble_eq_true rfl⟩ hK (hP.sub (ws' := mwl Z g M) [25, 26, 27, 28, 29] rfl) (hD.sub (ws' := mwl Z g M) [25, 26, 27, 28, 29] (by decide) rfl) rfl rfl rfl rfl hl.1 rfl (Nat.le_of_ble_eq_true rfl) dL_law_396 ⟨by show _ ≤ 601024; omega, by show _ ≤ 7293033; omega⟩) hP hD hS hA (fun H locs hP hD hS => ?_)
        refine lv_istore (lv' := [(6, .int bb), (5, .int (cdI E)), (0, .ref b), (1, .ref o), (2, .ref (g 0)), (3, .ref q), (4, .int x4)]) hx hb dL_law_399 hl (by decide) rfl (fun ls hl => ?_)
        refine lv_aload_n hx hb dL_law_401 rfl (lv_at hl 4 rfl) ?_
        refine zc_i (z_VD (As := []) (rest := []) (q0 := 0) (ci := 2) ⟨hx, hb, hml, hown, hts⟩ (m_X2_thrown l D Z g M' (M'.1 0) rfl) gL_law_X2_thrown rfl rfl rfl hdv_X2_thrown ⟨Nat.le_of_ble_eq_true rfl, Nat.le_of_ble_eq_true rfl⟩ hK (hP.sub (ws' := mwl Z g M') [25, 26, 27, 28, 29] rfl) (hD.sub (ws' := mwl Z g M') [25, 26, 27, 28, 29] (by decide) rfl) rfl rfl rfl rfl hl.1 rfl (Nat.le_of_ble_eq_true rfl) dL_law_402 ⟨by show _ ≤ 601024; omega, by show _ ≤ 7293033; omega⟩) hP hS hA (fun H locs hP hS => ?_)
        refine lv_iload hx hb dL_law_405 (lv_at hl 1 rfl) ?_
        refine lv_icmp_eq (tgt := 412) hx hb dL_law_407 (by decide) (fun _ => ?_) (fun c2 => absurd h0 c2)
        refine lv_iload hx hb dL_law_412 (lv_at hl 1 rfl) ?_
        refine lv_if_ne (tgt := 429) hx hb dL_law_414 (by decide) (fun _ => ?_) (fun c3 => absurd c3 hE0)
        refine lv_goto (tgt := 1039) hx hb dL_law_429 (by decide) ?_
        exact hbk S T M' f H locs d0 _ _ ls hR1 hP hD hS hd0 (lv_sub hl [2, 3, 4, 5, 6] rfl) (by omega) (by omega)
    by_cases hk5 : k15 = 5
    · subst hk5
      refine lv_tableIn (tgt := 432) (off := 393) hx hb dL_law_39 (by rw [ekt]; decide) (by rw [ekt]; decide) rfl (by decide) ?_
      rcases s6 (xs (x4 + 1).toNatClampNeg) (xs (x4 + 2).toNatClampNeg) with h9 | h9
      · obtain ⟨r, M', hx1, hy1, h0, hR1⟩ := h9
        refine lv_aload_n hx hb dL_law_432 rfl (lv_at hl 1 rfl) ?_
        refine lv_aload_n hx hb dL_law_433 rfl (lv_at hl 0 rfl) ?_
        refine lv_iload hx hb dL_law_434 (lv_at hl 4 rfl) ?_
        refine lv_iconst (v := 1) hx hb dL_law_436 (by decide) ?_
        refine lv_iadd hx hb dL_law_437 ?_
        refine va_sld hx hb hX hbl hbA hS hi1 dL_law_438 ?_
        refine lv_aload_n hx hb dL_law_439 rfl (lv_at hl 0 rfl) ?_
        refine lv_iload hx hb dL_law_440 (lv_at hl 4 rfl) ?_
        refine lv_iconst (v := 2) hx hb dL_law_442 (by decide) ?_
        refine lv_iadd hx hb dL_law_443 ?_
        refine va_sld hx hb hX hbl hbA hS hi2 dL_law_444 ?_
        refine lv_aload_n hx hb dL_law_445 rfl (lv_at hl 3 rfl) ?_
        refine zc_mi zI_lw (z_SW (As := [.ref o, .int (xs (x4 + 1).toNatClampNeg), .int (xs (x4 + 2).toNatClampNeg), .ref q]) (rest := []) yE_ok hE hS hA ⟨hx, hb, hml, hown, hts⟩ (ok_L_station l D Z o a b2 S T q f (xs (x4 + 1).toNatClampNeg) (xs (x4 + 2).toNatClampNeg) r hx1) gL_law_L_station rfl rfl rfl hds_L_station ⟨Nat.le_of_ble_eq_true rfl, Nat.le_of_ble_eq_true rfl⟩ hK (hP.sub (ws' := olw Z o a b2 S T q f) [0, 1, 2, 3, 4, 5, 6, 7, 8, 9, 10, 11, 12, 13, 14, 15, 16, 17, 18, 19, 20, 21, 22, 23, 24, 30] rfl) (hD.sub (ws' := olw Z o a b2 S T q f) [0, 1, 2, 3, 4, 5, 6, 7, 8, 9, 10, 11, 12, 13, 14, 15, 16, 17, 18, 19, 20, 21, 22, 23, 24, 30] (by decide) rfl) rfl hl.1 rfl (Nat.le_of_ble_eq_true rfl) dL_law_446 ⟨by show _ ≤ 601024; omega, by show _ ≤ 7293033; omega⟩) hP hD hS hA (fun H locs hP hD hS => ?_)
        refine lv_istore (lv' := [(5, .int 0), (0, .ref b), (1, .ref o), (2, .ref (g 0)), (3, .ref q), (4, .int x4)]) hx hb dL_law_449 hl (by decide) rfl (fun ls hl => ?_)
        refine lv_aload_n hx hb dL_law_451 rfl (lv_at hl 3 rfl) ?_
        refine lv_aload_n hx hb dL_law_452 rfl (lv_at hl 1 rfl) ?_
        refine lv_iload hx hb dL_law_453 (lv_at hl 5 rfl) ?_
        refine lv_iconst (v := 1) hx hb dL_law_455 (by decide) ?_
        refine lv_iadd hx hb dL_law_456 ?_
        refine va_sld hx hb hX hbl hbA hS hi1 dL_law_457 ?_
        refine lv_aload_n hx hb dL_law_458 rfl (lv_at hl 1 rfl) ?_
        refine lv_iload hx hb dL_law_459 (lv_at hl 5 rfl) ?_
        refine lv_iconst (v := 2) hx hb dL_law_461 (by decide) ?_
        refine lv_iadd hx hb dL_law_462 ?_
        refine va_sld hx hb hX hbl hbA hS hi2 dL_law_463 ?_
        refine zc_mi zI_lm (z_VD (As := [.int (xs (x4 + 1).toNatClampNeg), .int (xs (x4 + 2).toNatClampNeg)]) (rest := []) (q0 := 0) (ci := 2) ⟨hx, hb, hml, hown, hts⟩ (m_X2_station l D Z g M (xs (x4 + 1).toNatClampNeg) (xs (x4 + 2).toNatClampNeg) M' r hy1) gL_law_X2_station rfl rfl rfl hdv_X2_station ⟨Nat.le_of_ble_eq_true rfl, Nat.le_of_ble_eq_true rfl⟩ hK (hP.sub (ws' := mwl Z g M) [25, 26, 27, 28, 29] rfl) (hD.sub (ws' := mwl Z g M) [25, 26, 27, 28, 29] (by decide) rfl) rfl rfl rfl rfl hl.1 rfl (Nat.le_of_ble_eq_true rfl) dL_law_464 ⟨by show _ ≤ 601024; omega, by show _ ≤ 7293033; omega⟩) hP hD hS hA (fun H locs hP hD hS => ?_)
        refine lv_istore (lv' := [(6, .int r), (5, .int 0), (0, .ref b), (1, .ref o), (2, .ref (g 0)), (3, .ref q), (4, .int x4)]) hx hb dL_law_467 hl (by decide) rfl (fun ls hl => ?_)
        refine lv_aload_n hx hb dL_law_469 rfl (lv_at hl 4 rfl) ?_
        refine zc_i (z_VD (As := []) (rest := []) (q0 := 0) (ci := 2) ⟨hx, hb, hml, hown, hts⟩ (m_X2_thrown l D Z g M' (M'.1 0) rfl) gL_law_X2_thrown rfl rfl rfl hdv_X2_thrown ⟨Nat.le_of_ble_eq_true rfl, Nat.le_of_ble_eq_true rfl⟩ hK (hP.sub (ws' := mwl Z g M') [25, 26, 27, 28, 29] rfl) (hD.sub (ws' := mwl Z g M') [25, 26, 27, 28, 29] (by decide) rfl) rfl rfl rfl rfl hl.1 rfl (Nat.le_of_ble_eq_true rfl) dL_law_470 ⟨by show _ ≤ 601024; omega, by show _ ≤ 7293033; omega⟩) hP hS hA (fun H locs hP hS => ?_)
        refine lv_iload hx hb dL_law_473 (lv_at hl 1 rfl) ?_
        refine lv_icmp_eq (tgt := 480) hx hb dL_law_475 (by decide) (fun _ => ?_) (fun c2 => absurd h0 c2)
        refine lv_iload hx hb dL_law_480 (lv_at hl 1 rfl) ?_
        refine lv_if_ne (tgt := 497) hx hb dL_law_482 (by decide) (fun c3 => absurd rfl c3) (fun _ => ?_)
        refine lv_aload_n hx hb dL_law_485 rfl (lv_at hl 5 rfl) ?_
        refine lv_iconst (v := 0) hx hb dL_law_486 (by decide) ?_
        refine va_lald hx hb hK hP 30 1 rfl rfl (vp_in_lit (by decide)) dL_law_487 ?_
        refine lv_iload hx hb dL_law_488 (lv_at hl 0 rfl) ?_
        refine lv_i2l hx hb dL_law_490 rfl ?_
        refine W.lcmp hx hb dL_law_491 ?_
        refine lv_if_eq (tgt := 497) hx hb dL_law_492 (by decide) (fun _ => ?_) (fun c4 => absurd ((lg_cmp_eq _ _).mpr rfl) c4)
        refine lv_goto (tgt := 1039) hx hb dL_law_497 (by decide) ?_
        exact hbk S T M' (vp_updL f 0 r.toInt64) H locs d0 _ _ ls hR1 hP hD hS hd0 (lv_sub hl [2, 3, 4, 5, 6] rfl) (by omega) (by omega)
      · obtain ⟨E, bb, M', hx1, hy1, h0, hE0, hR1⟩ := h9
        refine lv_aload_n hx hb dL_law_432 rfl (lv_at hl 1 rfl) ?_
        refine lv_aload_n hx hb dL_law_433 rfl (lv_at hl 0 rfl) ?_
        refine lv_iload hx hb dL_law_434 (lv_at hl 4 rfl) ?_
        refine lv_iconst (v := 1) hx hb dL_law_436 (by decide) ?_
        refine lv_iadd hx hb dL_law_437 ?_
        refine va_sld hx hb hX hbl hbA hS hi1 dL_law_438 ?_
        refine lv_aload_n hx hb dL_law_439 rfl (lv_at hl 0 rfl) ?_
        refine lv_iload hx hb dL_law_440 (lv_at hl 4 rfl) ?_
        refine lv_iconst (v := 2) hx hb dL_law_442 (by decide) ?_
        refine lv_iadd hx hb dL_law_443 ?_
        refine va_sld hx hb hX hbl hbA hS hi2 dL_law_444 ?_
        refine lv_aload_n hx hb dL_law_445 rfl (lv_at hl 3 rfl) ?_
        refine zc_mi zI_lw (z_SW (As := [.ref o, .int (xs (x4 + 1).toNatClampNeg), .int (xs (x4 + 2).toNatClampNeg), .ref q]) (rest := []) yE_ok hE hS hA ⟨hx, hb, hml, hown, hts⟩ (er_L_station l htr D Z o a b2 S T q f (xs (x4 + 1).toNatClampNeg) (xs (x4 + 2).toNatClampNeg) E (cdI E) hx1 (cdI_c hE0)) gL_law_L_station rfl rfl rfl hds_L_station ⟨Nat.le_of_ble_eq_true rfl, Nat.le_of_ble_eq_true rfl⟩ hK (hP.sub (ws' := olw Z o a b2 S T q f) [0, 1, 2, 3, 4, 5, 6, 7, 8, 9, 10, 11, 12, 13, 14, 15, 16, 17, 18, 19, 20, 21, 22, 23, 24, 30] rfl) (hD.sub (ws' := olw Z o a b2 S T q f) [0, 1, 2, 3, 4, 5, 6, 7, 8, 9, 10, 11, 12, 13, 14, 15, 16, 17, 18, 19, 20, 21, 22, 23, 24, 30] (by decide) rfl) rfl hl.1 rfl (Nat.le_of_ble_eq_true rfl) dL_law_446 ⟨by show _ ≤ 601024; omega, by show _ ≤ 7293033; omega⟩) hP hD hS hA (fun H locs hP hD hS => ?_)
        refine lv_istore (lv' := [(5, .int (cdI E)), (0, .ref b), (1, .ref o), (2, .ref (g 0)), (3, .ref q), (4, .int x4)]) hx hb dL_law_449 hl (by decide) rfl (fun ls hl => ?_)
        refine lv_aload_n hx hb dL_law_451 rfl (lv_at hl 3 rfl) ?_
        refine lv_aload_n hx hb dL_law_452 rfl (lv_at hl 1 rfl) ?_
        refine lv_iload hx hb dL_law_453 (lv_at hl 5 rfl) ?_
        refine lv_iconst (v := 1) hx hb dL_law_455 (by decide) ?_
        refine lv_iadd hx hb dL_law_456 ?_
        refine va_sld hx hb hX hbl hbA hS hi1 dL_law_457 ?_
        refine lv_aload_n hx hb dL_law_458 rfl (lv_at hl 1 rfl) ?_
        refine lv_iload hx hb dL_law_459 (lv_at hl 5 rfl) ?_
        refine lv_iconst (v := 2) hx hb dL_law_461 (by decide) ?_
        refine lv_iadd hx hb dL_law_462 ?_
        refine va_sld hx hb hX hbl hbA hS hi2 dL_law_463 ?_
        refine zc_mi zI_lm (z_VD (As := [.int (xs (x4 + 1).toNatClampNeg), .int (xs (x4 + 2).toNatClampNeg)]) (rest := []) (q0 := 0) (ci := 2) ⟨hx, hb, hml, hown, hts⟩ (m_X2_station l D Z g M (xs (x4 + 1).toNatClampNeg) (xs (x4 + 2).toNatClampNeg) M' bb hy1) gL_law_X2_station rfl rfl rfl hdv_X2_station ⟨Nat.le_of_ble_eq_true rfl, Nat.le_of_ble_eq_true rfl⟩ hK (hP.sub (ws' := mwl Z g M) [25, 26, 27, 28, 29] rfl) (hD.sub (ws' := mwl Z g M) [25, 26, 27, 28, 29] (by decide) rfl) rfl rfl rfl rfl hl.1 rfl (Nat.le_of_ble_eq_true rfl) dL_law_464 ⟨by show _ ≤ 601024; omega, by show _ ≤ 7293033; omega⟩) hP hD hS hA (fun H locs hP hD hS => ?_)
        refine lv_istore (lv' := [(6, .int bb), (5, .int (cdI E)), (0, .ref b), (1, .ref o), (2, .ref (g 0)), (3, .ref q), (4, .int x4)]) hx hb dL_law_467 hl (by decide) rfl (fun ls hl => ?_)
        refine lv_aload_n hx hb dL_law_469 rfl (lv_at hl 4 rfl) ?_
        refine zc_i (z_VD (As := []) (rest := []) (q0 := 0) (ci := 2) ⟨hx, hb, hml, hown, hts⟩ (m_X2_thrown l D Z g M' (M'.1 0) rfl) gL_law_X2_thrown rfl rfl rfl hdv_X2_thrown ⟨Nat.le_of_ble_eq_true rfl, Nat.le_of_ble_eq_true rfl⟩ hK (hP.sub (ws' := mwl Z g M') [25, 26, 27, 28, 29] rfl) (hD.sub (ws' := mwl Z g M') [25, 26, 27, 28, 29] (by decide) rfl) rfl rfl rfl rfl hl.1 rfl (Nat.le_of_ble_eq_true rfl) dL_law_470 ⟨by show _ ≤ 601024; omega, by show _ ≤ 7293033; omega⟩) hP hS hA (fun H locs hP hS => ?_)
        refine lv_iload hx hb dL_law_473 (lv_at hl 1 rfl) ?_
        refine lv_icmp_eq (tgt := 480) hx hb dL_law_475 (by decide) (fun _ => ?_) (fun c2 => absurd h0 c2)
        refine lv_iload hx hb dL_law_480 (lv_at hl 1 rfl) ?_
        refine lv_if_ne (tgt := 497) hx hb dL_law_482 (by decide) (fun _ => ?_) (fun c3 => absurd c3 hE0)
        refine lv_goto (tgt := 1039) hx hb dL_law_497 (by decide) ?_
        exact hbk S T M' f H locs d0 _ _ ls hR1 hP hD hS hd0 (lv_sub hl [2, 3, 4, 5, 6] rfl) (by omega) (by omega)
    by_cases hk6 : k15 = 6
    · subst hk6
      refine lv_tableIn (tgt := 500) (off := 461) hx hb dL_law_39 (by rw [ekt]; decide) (by rw [ekt]; decide) rfl (by decide) ?_
      rcases s7 (xs (x4 + 1).toNatClampNeg) (xs (x4 + 2).toNatClampNeg) with h9 | h9
      · obtain ⟨r, M', hx1, hy1, h0, hR1⟩ := h9
        refine lv_aload_n hx hb dL_law_500 rfl (lv_at hl 1 rfl) ?_
        refine lv_aload_n hx hb dL_law_501 rfl (lv_at hl 0 rfl) ?_
        refine lv_iload hx hb dL_law_502 (lv_at hl 4 rfl) ?_
        refine lv_iconst (v := 1) hx hb dL_law_504 (by decide) ?_
        refine lv_iadd hx hb dL_law_505 ?_
        refine va_sld hx hb hX hbl hbA hS hi1 dL_law_506 ?_
        refine lv_aload_n hx hb dL_law_507 rfl (lv_at hl 0 rfl) ?_
        refine lv_iload hx hb dL_law_508 (lv_at hl 4 rfl) ?_
        refine lv_iconst (v := 2) hx hb dL_law_510 (by decide) ?_
        refine lv_iadd hx hb dL_law_511 ?_
        refine va_sld hx hb hX hbl hbA hS hi2 dL_law_512 ?_
        refine lv_aload_n hx hb dL_law_513 rfl (lv_at hl 3 rfl) ?_
        refine zc_mi zI_lw (z_SW (As := [.ref o, .int (xs (x4 + 1).toNatClampNeg), .int (xs (x4 + 2).toNatClampNeg), .ref q]) (rest := []) yE_ok hE hS hA ⟨hx, hb, hml, hown, hts⟩ (ok_L_waits l D Z o a b2 S T q f (xs (x4 + 1).toNatClampNeg) (xs (x4 + 2).toNatClampNeg) r hx1) gL_law_L_waits rfl rfl rfl hds_L_waits ⟨Nat.le_of_ble_eq_true rfl, Nat.le_of_ble_eq_true rfl⟩ hK (hP.sub (ws' := olw Z o a b2 S T q f) [0, 1, 2, 3, 4, 5, 6, 7, 8, 9, 10, 11, 12, 13, 14, 15, 16, 17, 18, 19, 20, 21, 22, 23, 24, 30] rfl) (hD.sub (ws' := olw Z o a b2 S T q f) [0, 1, 2, 3, 4, 5, 6, 7, 8, 9, 10, 11, 12, 13, 14, 15, 16, 17, 18, 19, 20, 21, 22, 23, 24, 30] (by decide) rfl) rfl hl.1 rfl (Nat.le_of_ble_eq_true rfl) dL_law_514 ⟨by show _ ≤ 601024; omega, by show _ ≤ 7293033; omega⟩) hP hD hS hA (fun H locs hP hD hS => ?_)
        refine lv_istore (lv' := [(5, .int 0), (0, .ref b), (1, .ref o), (2, .ref (g 0)), (3, .ref q), (4, .int x4)]) hx hb dL_law_517 hl (by decide) rfl (fun ls hl => ?_)
        refine lv_aload_n hx hb dL_law_519 rfl (lv_at hl 3 rfl) ?_
        refine lv_aload_n hx hb dL_law_520 rfl (lv_at hl 1 rfl) ?_
        refine lv_iload hx hb dL_law_521 (lv_at hl 5 rfl) ?_
        refine lv_iconst (v := 1) hx hb dL_law_523 (by decide) ?_
        refine lv_iadd hx hb dL_law_524 ?_
        refine va_sld hx hb hX hbl hbA hS hi1 dL_law_525 ?_
        refine lv_aload_n hx hb dL_law_526 rfl (lv_at hl 1 rfl) ?_
        refine lv_iload hx hb dL_law_527 (lv_at hl 5 rfl) ?_
        refine lv_iconst (v := 2) hx hb dL_law_529 (by decide) ?_
        refine lv_iadd hx hb dL_law_530 ?_
        refine va_sld hx hb hX hbl hbA hS hi2 dL_law_531 ?_
        refine zc_mi zI_lm (z_VD (As := [.int (xs (x4 + 1).toNatClampNeg), .int (xs (x4 + 2).toNatClampNeg)]) (rest := []) (q0 := 0) (ci := 2) ⟨hx, hb, hml, hown, hts⟩ (m_X2_waits l D Z g M (xs (x4 + 1).toNatClampNeg) (xs (x4 + 2).toNatClampNeg) M' r hy1) gL_law_X2_waits rfl rfl rfl hdv_X2_waits ⟨Nat.le_of_ble_eq_true rfl, Nat.le_of_ble_eq_true rfl⟩ hK (hP.sub (ws' := mwl Z g M) [25, 26, 27, 28, 29] rfl) (hD.sub (ws' := mwl Z g M) [25, 26, 27, 28, 29] (by decide) rfl) rfl rfl rfl rfl hl.1 rfl (Nat.le_of_ble_eq_true rfl) dL_law_532 ⟨by show _ ≤ 601024; omega, by show _ ≤ 7293033; omega⟩) hP hD hS hA (fun H locs hP hD hS => ?_)
        refine lv_istore (lv' := [(6, .int r), (5, .int 0), (0, .ref b), (1, .ref o), (2, .ref (g 0)), (3, .ref q), (4, .int x4)]) hx hb dL_law_535 hl (by decide) rfl (fun ls hl => ?_)
        refine lv_aload_n hx hb dL_law_537 rfl (lv_at hl 4 rfl) ?_
        refine zc_i (z_VD (As := []) (rest := []) (q0 := 0) (ci := 2) ⟨hx, hb, hml, hown, hts⟩ (m_X2_thrown l D Z g M' (M'.1 0) rfl) gL_law_X2_thrown rfl rfl rfl hdv_X2_thrown ⟨Nat.le_of_ble_eq_true rfl, Nat.le_of_ble_eq_true rfl⟩ hK (hP.sub (ws' := mwl Z g M') [25, 26, 27, 28, 29] rfl) (hD.sub (ws' := mwl Z g M') [25, 26, 27, 28, 29] (by decide) rfl) rfl rfl rfl rfl hl.1 rfl (Nat.le_of_ble_eq_true rfl) dL_law_538 ⟨by show _ ≤ 601024; omega, by show _ ≤ 7293033; omega⟩) hP hS hA (fun H locs hP hS => ?_)
        refine lv_iload hx hb dL_law_541 (lv_at hl 1 rfl) ?_
        refine lv_icmp_eq (tgt := 548) hx hb dL_law_543 (by decide) (fun _ => ?_) (fun c2 => absurd h0 c2)
        refine lv_iload hx hb dL_law_548 (lv_at hl 1 rfl) ?_
        refine lv_if_ne (tgt := 565) hx hb dL_law_550 (by decide) (fun c3 => absurd rfl c3) (fun _ => ?_)
        refine lv_aload_n hx hb dL_law_553 rfl (lv_at hl 5 rfl) ?_
        refine lv_iconst (v := 0) hx hb dL_law_554 (by decide) ?_
        refine va_lald hx hb hK hP 30 1 rfl rfl (vp_in_lit (by decide)) dL_law_555 ?_
        refine lv_iload hx hb dL_law_556 (lv_at hl 0 rfl) ?_
        refine lv_i2l hx hb dL_law_558 rfl ?_
        refine W.lcmp hx hb dL_law_559 ?_
        refine lv_if_eq (tgt := 565) hx hb dL_law_560 (by decide) (fun _ => ?_) (fun c4 => absurd ((lg_cmp_eq _ _).mpr rfl) c4)
        refine lv_goto (tgt := 1039) hx hb dL_law_565 (by decide) ?_
        exact hbk S T M' (vp_updL f 0 r.toInt64) H locs d0 _ _ ls hR1 hP hD hS hd0 (lv_sub hl [2, 3, 4, 5, 6] rfl) (by omega) (by omega)
      · obtain ⟨E, bb, M', hx1, hy1, h0, hE0, hR1⟩ := h9
        refine lv_aload_n hx hb dL_law_500 rfl (lv_at hl 1 rfl) ?_
        refine lv_aload_n hx hb dL_law_501 rfl (lv_at hl 0 rfl) ?_
        refine lv_iload hx hb dL_law_502 (lv_at hl 4 rfl) ?_
        refine lv_iconst (v := 1) hx hb dL_law_504 (by decide) ?_
        refine lv_iadd hx hb dL_law_505 ?_
        refine va_sld hx hb hX hbl hbA hS hi1 dL_law_506 ?_
        refine lv_aload_n hx hb dL_law_507 rfl (lv_at hl 0 rfl) ?_
        refine lv_iload hx hb dL_law_508 (lv_at hl 4 rfl) ?_
        refine lv_iconst (v := 2) hx hb dL_law_510 (by decide) ?_
        refine lv_iadd hx hb dL_law_511 ?_
        refine va_sld hx hb hX hbl hbA hS hi2 dL_law_512 ?_
        refine lv_aload_n hx hb dL_law_513 rfl (lv_at hl 3 rfl) ?_
        refine zc_mi zI_lw (z_SW (As := [.ref o, .int (xs (x4 + 1).toNatClampNeg), .int (xs (x4 + 2).toNatClampNeg), .ref q]) (rest := []) yE_ok hE hS hA ⟨hx, hb, hml, hown, hts⟩ (er_L_waits l htr D Z o a b2 S T q f (xs (x4 + 1).toNatClampNeg) (xs (x4 + 2).toNatClampNeg) E (cdI E) hx1 (cdI_c hE0)) gL_law_L_waits rfl rfl rfl hds_L_waits ⟨Nat.le_of_ble_eq_true rfl, Nat.le_of_ble_eq_true rfl⟩ hK (hP.sub (ws' := olw Z o a b2 S T q f) [0, 1, 2, 3, 4, 5, 6, 7, 8, 9, 10, 11, 12, 13, 14, 15, 16, 17, 18, 19, 20, 21, 22, 23, 24, 30] rfl) (hD.sub (ws' := olw Z o a b2 S T q f) [0, 1, 2, 3, 4, 5, 6, 7, 8, 9, 10, 11, 12, 13, 14, 15, 16, 17, 18, 19, 20, 21, 22, 23, 24, 30] (by decide) rfl) rfl hl.1 rfl (Nat.le_of_ble_eq_true rfl) dL_law_514 ⟨by show _ ≤ 601024; omega, by show _ ≤ 7293033; omega⟩) hP hD hS hA (fun H locs hP hD hS => ?_)
        refine lv_istore (lv' := [(5, .int (cdI E)), (0, .ref b), (1, .ref o), (2, .ref (g 0)), (3, .ref q), (4, .int x4)]) hx hb dL_law_517 hl (by decide) rfl (fun ls hl => ?_)
        refine lv_aload_n hx hb dL_law_519 rfl (lv_at hl 3 rfl) ?_
        refine lv_aload_n hx hb dL_law_520 rfl (lv_at hl 1 rfl) ?_
        refine lv_iload hx hb dL_law_521 (lv_at hl 5 rfl) ?_
        refine lv_iconst (v := 1) hx hb dL_law_523 (by decide) ?_
        refine lv_iadd hx hb dL_law_524 ?_
        refine va_sld hx hb hX hbl hbA hS hi1 dL_law_525 ?_
        refine lv_aload_n hx hb dL_law_526 rfl (lv_at hl 1 rfl) ?_
        refine lv_iload hx hb dL_law_527 (lv_at hl 5 rfl) ?_
        refine lv_iconst (v := 2) hx hb dL_law_529 (by decide) ?_
        refine lv_iadd hx hb dL_law_530 ?_
        refine va_sld hx hb hX hbl hbA hS hi2 dL_law_531 ?_
        refine zc_mi zI_lm (z_VD (As := [.int (xs (x4 + 1).toNatClampNeg), .int (xs (x4 + 2).toNatClampNeg)]) (rest := []) (q0 := 0) (ci := 2) ⟨hx, hb, hml, hown, hts⟩ (m_X2_waits l D Z g M (xs (x4 + 1).toNatClampNeg) (xs (x4 + 2).toNatClampNeg) M' bb hy1) gL_law_X2_waits rfl rfl rfl hdv_X2_waits ⟨Nat.le_of_ble_eq_true rfl, Nat.le_of_ble_eq_true rfl⟩ hK (hP.sub (ws' := mwl Z g M) [25, 26, 27, 28, 29] rfl) (hD.sub (ws' := mwl Z g M) [25, 26, 27, 28, 29] (by decide) rfl) rfl rfl rfl rfl hl.1 rfl (Nat.le_of_ble_eq_true rfl) dL_law_532 ⟨by show _ ≤ 601024; omega, by show _ ≤ 7293033; omega⟩) hP hD hS hA (fun H locs hP hD hS => ?_)
        refine lv_istore (lv' := [(6, .int bb), (5, .int (cdI E)), (0, .ref b), (1, .ref o), (2, .ref (g 0)), (3, .ref q), (4, .int x4)]) hx hb dL_law_535 hl (by decide) rfl (fun ls hl => ?_)
        refine lv_aload_n hx hb dL_law_537 rfl (lv_at hl 4 rfl) ?_
        refine zc_i (z_VD (As := []) (rest := []) (q0 := 0) (ci := 2) ⟨hx, hb, hml, hown, hts⟩ (m_X2_thrown l D Z g M' (M'.1 0) rfl) gL_law_X2_thrown rfl rfl rfl hdv_X2_thrown ⟨Nat.le_of_ble_eq_true rfl, Nat.le_of_ble_eq_true rfl⟩ hK (hP.sub (ws' := mwl Z g M') [25, 26, 27, 28, 29] rfl) (hD.sub (ws' := mwl Z g M') [25, 26, 27, 28, 29] (by decide) rfl) rfl rfl rfl rfl hl.1 rfl (Nat.le_of_ble_eq_true rfl) dL_law_538 ⟨by show _ ≤ 601024; omega, by show _ ≤ 7293033; omega⟩) hP hS hA (fun H locs hP hS => ?_)
        refine lv_iload hx hb dL_law_541 (lv_at hl 1 rfl) ?_
        refine lv_icmp_eq (tgt := 548) hx hb dL_law_543 (by decide) (fun _ => ?_) (fun c2 => absurd h0 c2)
        refine lv_iload hx hb dL_law_548 (lv_at hl 1 rfl) ?_
        refine lv_if_ne (tgt := 565) hx hb dL_law_550 (by decide) (fun _ => ?_) (fun c3 => absurd c3 hE0)
        refine lv_goto (tgt := 1039) hx hb dL_law_565 (by decide) ?_
        exact hbk S T M' f H locs d0 _ _ ls hR1 hP hD hS hd0 (lv_sub hl [2, 3, 4, 5, 6] rfl) (by omega) (by omega)
    by_cases hk7 : k15 = 7
    · subst hk7
      refine lv_tableIn (tgt := 568) (off := 529) hx hb dL_law_39 (by rw [ekt]; decide) (by rw [ekt]; decide) rfl (by decide) ?_
      rcases s8 (xs (x4 + 1).toNatClampNeg) with h9 | h9
      · obtain ⟨r, M', hx1, hy1, h0, hR1⟩ := h9
        refine lv_aload_n hx hb dL_law_568 rfl (lv_at hl 1 rfl) ?_
        refine lv_aload_n hx hb dL_law_569 rfl (lv_at hl 0 rfl) ?_
        refine lv_iload hx hb dL_law_570 (lv_at hl 4 rfl) ?_
        refine lv_iconst (v := 1) hx hb dL_law_572 (by decide) ?_
        refine lv_iadd hx hb dL_law_573 ?_
        refine va_sld hx hb hX hbl hbA hS hi1 dL_law_574 ?_
        refine lv_aload_n hx hb dL_law_575 rfl (lv_at hl 3 rfl) ?_
        refine zc_mi zI_lw (z_SW (As := [.ref o, .int (xs (x4 + 1).toNatClampNeg), .ref q]) (rest := []) yE_ok hE hS hA ⟨hx, hb, hml, hown, hts⟩ (ok_L_slot l D Z o a b2 S T q f (xs (x4 + 1).toNatClampNeg) r hx1) gL_law_L_slot rfl rfl rfl hds_L_slot ⟨Nat.le_of_ble_eq_true rfl, Nat.le_of_ble_eq_true rfl⟩ hK (hP.sub (ws' := olw Z o a b2 S T q f) [0, 1, 2, 3, 4, 5, 6, 7, 8, 9, 10, 11, 12, 13, 14, 15, 16, 17, 18, 19, 20, 21, 22, 23, 24, 30] rfl) (hD.sub (ws' := olw Z o a b2 S T q f) [0, 1, 2, 3, 4, 5, 6, 7, 8, 9, 10, 11, 12, 13, 14, 15, 16, 17, 18, 19, 20, 21, 22, 23, 24, 30] (by decide) rfl) rfl hl.1 rfl (Nat.le_of_ble_eq_true rfl) dL_law_576 ⟨by show _ ≤ 601024; omega, by show _ ≤ 7293033; omega⟩) hP hD hS hA (fun H locs hP hD hS => ?_)
        refine lv_istore (lv' := [(5, .int 0), (0, .ref b), (1, .ref o), (2, .ref (g 0)), (3, .ref q), (4, .int x4)]) hx hb dL_law_579 hl (by decide) rfl (fun ls hl => ?_)
        refine lv_aload_n hx hb dL_law_581 rfl (lv_at hl 3 rfl) ?_
        refine lv_aload_n hx hb dL_law_582 rfl (lv_at hl 1 rfl) ?_
        refine lv_iload hx hb dL_law_583 (lv_at hl 5 rfl) ?_
        refine lv_iconst (v := 1) hx hb dL_law_585 (by decide) ?_
        refine lv_iadd hx hb dL_law_586 ?_
        refine va_sld hx hb hX hbl hbA hS hi1 dL_law_587 ?_
        refine zc_mi zI_lm (z_VD (As := [.int (xs (x4 + 1).toNatClampNeg)]) (rest := []) (q0 := 0) (ci := 2) ⟨hx, hb, hml, hown, hts⟩ (m_X2_slot l D Z g M (xs (x4 + 1).toNatClampNeg) M' r hy1) gL_law_X2_slot rfl rfl rfl hdv_X2_slot ⟨Nat.le_of_ble_eq_true rfl, Nat.le_of_ble_eq_true rfl⟩ hK (hP.sub (ws' := mwl Z g M) [25, 26, 27, 28, 29] rfl) (hD.sub (ws' := mwl Z g M) [25, 26, 27, 28, 29] (by decide) rfl) rfl rfl rfl rfl hl.1 rfl (Nat.le_of_ble_eq_true rfl) dL_law_588 ⟨by show _ ≤ 601024; omega, by show _ ≤ 7293033; omega⟩) hP hD hS hA (fun H locs hP hD hS => ?_)
        refine lv_istore (lv' := [(6, .int r), (5, .int 0), (0, .ref b), (1, .ref o), (2, .ref (g 0)), (3, .ref q), (4, .int x4)]) hx hb dL_law_591 hl (by decide) rfl (fun ls hl => ?_)
        refine lv_aload_n hx hb dL_law_593 rfl (lv_at hl 4 rfl) ?_
        refine zc_i (z_VD (As := []) (rest := []) (q0 := 0) (ci := 2) ⟨hx, hb, hml, hown, hts⟩ (m_X2_thrown l D Z g M' (M'.1 0) rfl) gL_law_X2_thrown rfl rfl rfl hdv_X2_thrown ⟨Nat.le_of_ble_eq_true rfl, Nat.le_of_ble_eq_true rfl⟩ hK (hP.sub (ws' := mwl Z g M') [25, 26, 27, 28, 29] rfl) (hD.sub (ws' := mwl Z g M') [25, 26, 27, 28, 29] (by decide) rfl) rfl rfl rfl rfl hl.1 rfl (Nat.le_of_ble_eq_true rfl) dL_law_594 ⟨by show _ ≤ 601024; omega, by show _ ≤ 7293033; omega⟩) hP hS hA (fun H locs hP hS => ?_)
        refine lv_iload hx hb dL_law_597 (lv_at hl 1 rfl) ?_
        refine lv_icmp_eq (tgt := 604) hx hb dL_law_599 (by decide) (fun _ => ?_) (fun c2 => absurd h0 c2)
        refine lv_iload hx hb dL_law_604 (lv_at hl 1 rfl) ?_
        refine lv_if_ne (tgt := 621) hx hb dL_law_606 (by decide) (fun c3 => absurd rfl c3) (fun _ => ?_)
        refine lv_aload_n hx hb dL_law_609 rfl (lv_at hl 5 rfl) ?_
        refine lv_iconst (v := 0) hx hb dL_law_610 (by decide) ?_
        refine va_lald hx hb hK hP 30 1 rfl rfl (vp_in_lit (by decide)) dL_law_611 ?_
        refine lv_iload hx hb dL_law_612 (lv_at hl 0 rfl) ?_
        refine lv_i2l hx hb dL_law_614 rfl ?_
        refine W.lcmp hx hb dL_law_615 ?_
        refine lv_if_eq (tgt := 621) hx hb dL_law_616 (by decide) (fun _ => ?_) (fun c4 => absurd ((lg_cmp_eq _ _).mpr rfl) c4)
        refine lv_goto (tgt := 1039) hx hb dL_law_621 (by decide) ?_
        exact hbk S T M' (vp_updL f 0 r.toInt64) H locs d0 _ _ ls hR1 hP hD hS hd0 (lv_sub hl [2, 3, 4, 5, 6] rfl) (by omega) (by omega)
      · obtain ⟨E, bb, M', hx1, hy1, h0, hE0, hR1⟩ := h9
        refine lv_aload_n hx hb dL_law_568 rfl (lv_at hl 1 rfl) ?_
        refine lv_aload_n hx hb dL_law_569 rfl (lv_at hl 0 rfl) ?_
        refine lv_iload hx hb dL_law_570 (lv_at hl 4 rfl) ?_
        refine lv_iconst (v := 1) hx hb dL_law_572 (by decide) ?_
        refine lv_iadd hx hb dL_law_573 ?_
        refine va_sld hx hb hX hbl hbA hS hi1 dL_law_574 ?_
        refine lv_aload_n hx hb dL_law_575 rfl (lv_at hl 3 rfl) ?_
        refine zc_mi zI_lw (z_SW (As := [.ref o, .int (xs (x4 + 1).toNatClampNeg), .ref q]) (rest := []) yE_ok hE hS hA ⟨hx, hb, hml, hown, hts⟩ (er_L_slot l htr D Z o a b2 S T q f (xs (x4 + 1).toNatClampNeg) E (cdI E) hx1 (cdI_c hE0)) gL_law_L_slot rfl rfl rfl hds_L_slot ⟨Nat.le_of_ble_eq_true rfl, Nat.le_of_ble_eq_true rfl⟩ hK (hP.sub (ws' := olw Z o a b2 S T q f) [0, 1, 2, 3, 4, 5, 6, 7, 8, 9, 10, 11, 12, 13, 14, 15, 16, 17, 18, 19, 20, 21, 22, 23, 24, 30] rfl) (hD.sub (ws' := olw Z o a b2 S T q f) [0, 1, 2, 3, 4, 5, 6, 7, 8, 9, 10, 11, 12, 13, 14, 15, 16, 17, 18, 19, 20, 21, 22, 23, 24, 30] (by decide) rfl) rfl hl.1 rfl (Nat.le_of_ble_eq_true rfl) dL_law_576 ⟨by show _ ≤ 601024; omega, by show _ ≤ 7293033; omega⟩) hP hD hS hA (fun H locs hP hD hS => ?_)
        refine lv_istore (lv' := [(5, .int (cdI E)), (0, .ref b), (1, .ref o), (2, .ref (g 0)), (3, .ref q), (4, .int x4)]) hx hb dL_law_579 hl (by decide) rfl (fun ls hl => ?_)
        refine lv_aload_n hx hb dL_law_581 rfl (lv_at hl 3 rfl) ?_
        refine lv_aload_n hx hb dL_law_582 rfl (lv_at hl 1 rfl) ?_
        refine lv_iload hx hb dL_law_583 (lv_at hl 5 rfl) ?_
        refine lv_iconst (v := 1) hx hb dL_law_585 (by decide) ?_
        refine lv_iadd hx hb dL_law_586 ?_
        refine va_sld hx hb hX hbl hbA hS hi1 dL_law_587 ?_
        refine zc_mi zI_lm (z_VD (As := [.int (xs (x4 + 1).toNatClampNeg)]) (rest := []) (q0 := 0) (ci := 2) ⟨hx, hb, hml, hown, hts⟩ (m_X2_slot l D Z g M (xs (x4 + 1).toNatClampNeg) M' bb hy1) gL_law_X2_slot rfl rfl rfl hdv_X2_slot ⟨Nat.le_of_ble_eq_true rfl, Nat.le_of_ble_eq_true rfl⟩ hK (hP.sub (ws' := mwl Z g M) [25, 26, 27, 28, 29] rfl) (hD.sub (ws' := mwl Z g M) [25, 26, 27, 28, 29] (by decide) rfl) rfl rfl rfl rfl hl.1 rfl (Nat.le_of_ble_eq_true rfl) dL_law_588 ⟨by show _ ≤ 601024; omega, by show _ ≤ 7293033; omega⟩) hP hD hS hA (fun H locs hP hD hS => ?_)
        refine lv_istore (lv' := [(6, .int bb), (5, .int (cdI E)), (0, .ref b), (1, .ref o), (2, .ref (g 0)), (3, .ref q), (4, .int x4)]) hx hb dL_law_591 hl (by decide) rfl (fun ls hl => ?_)
        refine lv_aload_n hx hb dL_law_593 rfl (lv_at hl 4 rfl) ?_
        refine zc_i (z_VD (As := []) (rest := []) (q0 := 0) (ci := 2) ⟨hx, hb, hml, hown, hts⟩ (m_X2_thrown l D Z g M' (M'.1 0) rfl) gL_law_X2_thrown rfl rfl rfl hdv_X2_thrown ⟨Nat.le_of_ble_eq_true rfl, Nat.le_of_ble_eq_true rfl⟩ hK (hP.sub (ws' := mwl Z g M') [25, 26, 27, 28, 29] rfl) (hD.sub (ws' := mwl Z g M') [25, 26, 27, 28, 29] (by decide) rfl) rfl rfl rfl rfl hl.1 rfl (Nat.le_of_ble_eq_true rfl) dL_law_594 ⟨by show _ ≤ 601024; omega, by show _ ≤ 7293033; omega⟩) hP hS hA (fun H locs hP hS => ?_)
        refine lv_iload hx hb dL_law_597 (lv_at hl 1 rfl) ?_
        refine lv_icmp_eq (tgt := 604) hx hb dL_law_599 (by decide) (fun _ => ?_) (fun c2 => absurd h0 c2)
        refine lv_iload hx hb dL_law_604 (lv_at hl 1 rfl) ?_
        refine lv_if_ne (tgt := 621) hx hb dL_law_606 (by decide) (fun _ => ?_) (fun c3 => absurd c3 hE0)
        refine lv_goto (tgt := 1039) hx hb dL_law_621 (by decide) ?_
        exact hbk S T M' f H locs d0 _ _ ls hR1 hP hD hS hd0 (lv_sub hl [2, 3, 4, 5, 6] rfl) (by omega) (by omega)
    by_cases hk8 : k15 = 8
    · subst hk8
      refine lv_tableIn (tgt := 624) (off := 585) hx hb dL_law_39 (by rw [ekt]; decide) (by rw [ekt]; decide) rfl (by decide) ?_
      rcases s9 (xs (x4 + 1).toNatClampNeg) with h9 | h9
      · obtain ⟨r, M', hx1, hy1, h0, hR1⟩ := h9
        refine lv_aload_n hx hb dL_law_624 rfl (lv_at hl 1 rfl) ?_
        refine lv_aload_n hx hb dL_law_625 rfl (lv_at hl 0 rfl) ?_
        refine lv_iload hx hb dL_law_626 (lv_at hl 4 rfl) ?_
        refine lv_iconst (v := 1) hx hb dL_law_628 (by decide) ?_
        refine lv_iadd hx hb dL_law_629 ?_
        refine va_sld hx hb hX hbl hbA hS hi1 dL_law_630 ?_
        refine lv_aload_n hx hb dL_law_631 rfl (lv_at hl 3 rfl) ?_
        refine zc_mi zI_lw (z_SW (As := [.ref o, .int (xs (x4 + 1).toNatClampNeg), .ref q]) (rest := []) yE_ok hE hS hA ⟨hx, hb, hml, hown, hts⟩ (ok_L_count l D Z o a b2 S T q f (xs (x4 + 1).toNatClampNeg) r hx1) gL_law_L_count rfl rfl rfl hds_L_count ⟨Nat.le_of_ble_eq_true rfl, Nat.le_of_ble_eq_true rfl⟩ hK (hP.sub (ws' := olw Z o a b2 S T q f) [0, 1, 2, 3, 4, 5, 6, 7, 8, 9, 10, 11, 12, 13, 14, 15, 16, 17, 18, 19, 20, 21, 22, 23, 24, 30] rfl) (hD.sub (ws' := olw Z o a b2 S T q f) [0, 1, 2, 3, 4, 5, 6, 7, 8, 9, 10, 11, 12, 13, 14, 15, 16, 17, 18, 19, 20, 21, 22, 23, 24, 30] (by decide) rfl) rfl hl.1 rfl (Nat.le_of_ble_eq_true rfl) dL_law_632 ⟨by show _ ≤ 601024; omega, by show _ ≤ 7293033; omega⟩) hP hD hS hA (fun H locs hP hD hS => ?_)
        refine lv_istore (lv' := [(5, .int 0), (0, .ref b), (1, .ref o), (2, .ref (g 0)), (3, .ref q), (4, .int x4)]) hx hb dL_law_635 hl (by decide) rfl (fun ls hl => ?_)
        refine lv_aload_n hx hb dL_law_637 rfl (lv_at hl 3 rfl) ?_
        refine lv_aload_n hx hb dL_law_638 rfl (lv_at hl 1 rfl) ?_
        refine lv_iload hx hb dL_law_639 (lv_at hl 5 rfl) ?_
        refine lv_iconst (v := 1) hx hb dL_law_641 (by decide) ?_
        refine lv_iadd hx hb dL_law_642 ?_
        refine va_sld hx hb hX hbl hbA hS hi1 dL_law_643 ?_
        refine zc_mi zI_lm (z_VD (As := [.int (xs (x4 + 1).toNatClampNeg)]) (rest := []) (q0 := 0) (ci := 2) ⟨hx, hb, hml, hown, hts⟩ (m_X2_count l D Z g M (xs (x4 + 1).toNatClampNeg) M' r hy1) gL_law_X2_count rfl rfl rfl hdv_X2_count ⟨Nat.le_of_ble_eq_true rfl, Nat.le_of_ble_eq_true rfl⟩ hK (hP.sub (ws' := mwl Z g M) [25, 26, 27, 28, 29] rfl) (hD.sub (ws' := mwl Z g M) [25, 26, 27, 28, 29] (by decide) rfl) rfl rfl rfl rfl hl.1 rfl (Nat.le_of_ble_eq_true rfl) dL_law_644 ⟨by show _ ≤ 601024; omega, by show _ ≤ 7293033; omega⟩) hP hD hS hA (fun H locs hP hD hS => ?_)
        refine lv_istore (lv' := [(6, .int r), (5, .int 0), (0, .ref b), (1, .ref o), (2, .ref (g 0)), (3, .ref q), (4, .int x4)]) hx hb dL_law_647 hl (by decide) rfl (fun ls hl => ?_)
        refine lv_aload_n hx hb dL_law_649 rfl (lv_at hl 4 rfl) ?_
        refine zc_i (z_VD (As := []) (rest := []) (q0 := 0) (ci := 2) ⟨hx, hb, hml, hown, hts⟩ (m_X2_thrown l D Z g M' (M'.1 0) rfl) gL_law_X2_thrown rfl rfl rfl hdv_X2_thrown ⟨Nat.le_of_ble_eq_true rfl, Nat.le_of_ble_eq_true rfl⟩ hK (hP.sub (ws' := mwl Z g M') [25, 26, 27, 28, 29] rfl) (hD.sub (ws' := mwl Z g M') [25, 26, 27, 28, 29] (by decide) rfl) rfl rfl rfl rfl hl.1 rfl (Nat.le_of_ble_eq_true rfl) dL_law_650 ⟨by show _ ≤ 601024; omega, by show _ ≤ 7293033; omega⟩) hP hS hA (fun H locs hP hS => ?_)
        refine lv_iload hx hb dL_law_653 (lv_at hl 1 rfl) ?_
        refine lv_icmp_eq (tgt := 660) hx hb dL_law_655 (by decide) (fun _ => ?_) (fun c2 => absurd h0 c2)
        refine lv_iload hx hb dL_law_660 (lv_at hl 1 rfl) ?_
        refine lv_if_ne (tgt := 677) hx hb dL_law_662 (by decide) (fun c3 => absurd rfl c3) (fun _ => ?_)
        refine lv_aload_n hx hb dL_law_665 rfl (lv_at hl 5 rfl) ?_
        refine lv_iconst (v := 0) hx hb dL_law_666 (by decide) ?_
        refine va_lald hx hb hK hP 30 1 rfl rfl (vp_in_lit (by decide)) dL_law_667 ?_
        refine lv_iload hx hb dL_law_668 (lv_at hl 0 rfl) ?_
        refine lv_i2l hx hb dL_law_670 rfl ?_
        refine W.lcmp hx hb dL_law_671 ?_
        refine lv_if_eq (tgt := 677) hx hb dL_law_672 (by decide) (fun _ => ?_) (fun c4 => absurd ((lg_cmp_eq _ _).mpr rfl) c4)
        refine lv_goto (tgt := 1039) hx hb dL_law_677 (by decide) ?_
        exact hbk S T M' (vp_updL f 0 r.toInt64) H locs d0 _ _ ls hR1 hP hD hS hd0 (lv_sub hl [2, 3, 4, 5, 6] rfl) (by omega) (by omega)
      · obtain ⟨E, bb, M', hx1, hy1, h0, hE0, hR1⟩ := h9
        refine lv_aload_n hx hb dL_law_624 rfl (lv_at hl 1 rfl) ?_
        refine lv_aload_n hx hb dL_law_625 rfl (lv_at hl 0 rfl) ?_
        refine lv_iload hx hb dL_law_626 (lv_at hl 4 rfl) ?_
        refine lv_iconst (v := 1) hx hb dL_law_628 (by decide) ?_
        refine lv_iadd hx hb dL_law_629 ?_
        refine va_sld hx hb hX hbl hbA hS hi1 dL_law_630 ?_
        refine lv_aload_n hx hb dL_law_631 rfl (lv_at hl 3 rfl) ?_
        refine zc_mi zI_lw (z_SW (As := [.ref o, .int (xs (x4 + 1).toNatClampNeg), .ref q]) (rest := []) yE_ok hE hS hA ⟨hx, hb, hml, hown, hts⟩ (er_L_count l htr D Z o a b2 S T q f (xs (x4 + 1).toNatClampNeg) E (cdI E) hx1 (cdI_c hE0)) gL_law_L_count rfl rfl rfl hds_L_count ⟨Nat.le_of_ble_eq_true rfl, Nat.le_of_ble_eq_true rfl⟩ hK (hP.sub (ws' := olw Z o a b2 S T q f) [0, 1, 2, 3, 4, 5, 6, 7, 8, 9, 10, 11, 12, 13, 14, 15, 16, 17, 18, 19, 20, 21, 22, 23, 24, 30] rfl) (hD.sub (ws' := olw Z o a b2 S T q f) [0, 1, 2, 3, 4, 5, 6, 7, 8, 9, 10, 11, 12, 13, 14, 15, 16, 17, 18, 19, 20, 21, 22, 23, 24, 30] (by decide) rfl) rfl hl.1 rfl (Nat.le_of_ble_eq_true rfl) dL_law_632 ⟨by show _ ≤ 601024; omega, by show _ ≤ 7293033; omega⟩) hP hD hS hA (fun H locs hP hD hS => ?_)
        refine lv_istore (lv' := [(5, .int (cdI E)), (0, .ref b), (1, .ref o), (2, .ref (g 0)), (3, .ref q), (4, .int x4)]) hx hb dL_law_635 hl (by decide) rfl (fun ls hl => ?_)
        refine lv_aload_n hx hb dL_law_637 rfl (lv_at hl 3 rfl) ?_
        refine lv_aload_n hx hb dL_law_638 rfl (lv_at hl 1 rfl) ?_
        refine lv_iload hx hb dL_law_639 (lv_at hl 5 rfl) ?_
        refine lv_iconst (v := 1) hx hb dL_law_641 (by decide) ?_
        refine lv_iadd hx hb dL_law_642 ?_
        refine va_sld hx hb hX hbl hbA hS hi1 dL_law_643 ?_
        refine zc_mi zI_lm (z_VD (As := [.int (xs (x4 + 1).toNatClampNeg)]) (rest := []) (q0 := 0) (ci := 2) ⟨hx, hb, hml, hown, hts⟩ (m_X2_count l D Z g M (xs (x4 + 1).toNatClampNeg) M' bb hy1) gL_law_X2_count rfl rfl rfl hdv_X2_count ⟨Nat.le_of_ble_eq_true rfl, Nat.le_of_ble_eq_true rfl⟩ hK (hP.sub (ws' := mwl Z g M) [25, 26, 27, 28, 29] rfl) (hD.sub (ws' := mwl Z g M) [25, 26, 27, 28, 29] (by decide) rfl) rfl rfl rfl rfl hl.1 rfl (Nat.le_of_ble_eq_true rfl) dL_law_644 ⟨by show _ ≤ 601024; omega, by show _ ≤ 7293033; omega⟩) hP hD hS hA (fun H locs hP hD hS => ?_)
        refine lv_istore (lv' := [(6, .int bb), (5, .int (cdI E)), (0, .ref b), (1, .ref o), (2, .ref (g 0)), (3, .ref q), (4, .int x4)]) hx hb dL_law_647 hl (by decide) rfl (fun ls hl => ?_)
        refine lv_aload_n hx hb dL_law_649 rfl (lv_at hl 4 rfl) ?_
        refine zc_i (z_VD (As := []) (rest := []) (q0 := 0) (ci := 2) ⟨hx, hb, hml, hown, hts⟩ (m_X2_thrown l D Z g M' (M'.1 0) rfl) gL_law_X2_thrown rfl rfl rfl hdv_X2_thrown ⟨Nat.le_of_ble_eq_true rfl, Nat.le_of_ble_eq_true rfl⟩ hK (hP.sub (ws' := mwl Z g M') [25, 26, 27, 28, 29] rfl) (hD.sub (ws' := mwl Z g M') [25, 26, 27, 28, 29] (by decide) rfl) rfl rfl rfl rfl hl.1 rfl (Nat.le_of_ble_eq_true rfl) dL_law_650 ⟨by show _ ≤ 601024; omega, by show _ ≤ 7293033; omega⟩) hP hS hA (fun H locs hP hS => ?_)
        refine lv_iload hx hb dL_law_653 (lv_at hl 1 rfl) ?_
        refine lv_icmp_eq (tgt := 660) hx hb dL_law_655 (by decide) (fun _ => ?_) (fun c2 => absurd h0 c2)
        refine lv_iload hx hb dL_law_660 (lv_at hl 1 rfl) ?_
        refine lv_if_ne (tgt := 677) hx hb dL_law_662 (by decide) (fun _ => ?_) (fun c3 => absurd c3 hE0)
        refine lv_goto (tgt := 1039) hx hb dL_law_677 (by decide) ?_
        exact hbk S T M' f H locs d0 _ _ ls hR1 hP hD hS hd0 (lv_sub hl [2, 3, 4, 5, 6] rfl) (by omega) (by omega)
    by_cases hk9 : k15 = 9
    · subst hk9
      refine lv_tableIn (tgt := 680) (off := 641) hx hb dL_law_39 (by rw [ekt]; decide) (by rw [ekt]; decide) rfl (by decide) ?_
      rcases s10 (xs (x4 + 1).toNatClampNeg) with h9 | h9
      · obtain ⟨r, S', T', M', hx1, hy1, h0, hR1⟩ := h9
        refine lv_aload_n hx hb dL_law_680 rfl (lv_at hl 1 rfl) ?_
        refine lv_aload_n hx hb dL_law_681 rfl (lv_at hl 0 rfl) ?_
        refine lv_iload hx hb dL_law_682 (lv_at hl 4 rfl) ?_
        refine lv_iconst (v := 1) hx hb dL_law_684 (by decide) ?_
        refine lv_iadd hx hb dL_law_685 ?_
        refine va_sld hx hb hX hbl hbA hS hi1 dL_law_686 ?_
        refine lv_aload_n hx hb dL_law_687 rfl (lv_at hl 3 rfl) ?_
        refine zc_mi zI_lw (z_SW (As := [.ref o, .int (xs (x4 + 1).toNatClampNeg), .ref q]) (rest := []) yE_ok hE hS hA ⟨hx, hb, hml, hown, hts⟩ (ok_L_pass l D Z o a b2 S T q f (xs (x4 + 1).toNatClampNeg) r S' T' hx1) gL_law_L_pass rfl rfl rfl hds_L_pass ⟨Nat.le_of_ble_eq_true rfl, Nat.le_of_ble_eq_true rfl⟩ hK (hP.sub (ws' := olw Z o a b2 S T q f) [0, 1, 2, 3, 4, 5, 6, 7, 8, 9, 10, 11, 12, 13, 14, 15, 16, 17, 18, 19, 20, 21, 22, 23, 24, 30] rfl) (hD.sub (ws' := olw Z o a b2 S T q f) [0, 1, 2, 3, 4, 5, 6, 7, 8, 9, 10, 11, 12, 13, 14, 15, 16, 17, 18, 19, 20, 21, 22, 23, 24, 30] (by decide) rfl) rfl hl.1 rfl (Nat.le_of_ble_eq_true rfl) dL_law_688 ⟨by show _ ≤ 601024; omega, by show _ ≤ 7293033; omega⟩) hP hD hS hA (fun H locs hP hD hS => ?_)
        refine lv_istore (lv' := [(5, .int 0), (0, .ref b), (1, .ref o), (2, .ref (g 0)), (3, .ref q), (4, .int x4)]) hx hb dL_law_691 hl (by decide) rfl (fun ls hl => ?_)
        refine lv_aload_n hx hb dL_law_693 rfl (lv_at hl 3 rfl) ?_
        refine lv_aload_n hx hb dL_law_694 rfl (lv_at hl 1 rfl) ?_
        refine lv_iload hx hb dL_law_695 (lv_at hl 5 rfl) ?_
        refine lv_iconst (v := 1) hx hb dL_law_697 (by decide) ?_
        refine lv_iadd hx hb dL_law_698 ?_
        refine va_sld hx hb hX hbl hbA hS hi1 dL_law_699 ?_
        refine zc_mi zI_lm (z_VD (As := [.int (xs (x4 + 1).toNatClampNeg)]) (rest := []) (q0 := 0) (ci := 2) ⟨hx, hb, hml, hown, hts⟩ (m_X2_pass l D Z g M (xs (x4 + 1).toNatClampNeg) M' r hy1) gL_law_X2_pass rfl rfl rfl hdv_X2_pass ⟨Nat.le_of_ble_eq_true rfl, Nat.le_of_ble_eq_true rfl⟩ hK (hP.sub (ws' := mwl Z g M) [25, 26, 27, 28, 29] rfl) (hD.sub (ws' := mwl Z g M) [25, 26, 27, 28, 29] (by decide) rfl) rfl rfl rfl rfl hl.1 rfl (Nat.le_of_ble_eq_true rfl) dL_law_700 ⟨by show _ ≤ 601024; omega, by show _ ≤ 7293033; omega⟩) hP hD hS hA (fun H locs hP hD hS => ?_)
        refine lv_istore (lv' := [(6, .int r), (5, .int 0), (0, .ref b), (1, .ref o), (2, .ref (g 0)), (3, .ref q), (4, .int x4)]) hx hb dL_law_703 hl (by decide) rfl (fun ls hl => ?_)
        refine lv_aload_n hx hb dL_law_705 rfl (lv_at hl 4 rfl) ?_
        refine zc_i (z_VD (As := []) (rest := []) (q0 := 0) (ci := 2) ⟨hx, hb, hml, hown, hts⟩ (m_X2_thrown l D Z g M' (M'.1 0) rfl) gL_law_X2_thrown rfl rfl rfl hdv_X2_thrown ⟨Nat.le_of_ble_eq_true rfl, Nat.le_of_ble_eq_true rfl⟩ hK (hP.sub (ws' := mwl Z g M') [25, 26, 27, 28, 29] rfl) (hD.sub (ws' := mwl Z g M') [25, 26, 27, 28, 29] (by decide) rfl) rfl rfl rfl rfl hl.1 rfl (Nat.le_of_ble_eq_true rfl) dL_law_706 ⟨by show _ ≤ 601024; omega, by show _ ≤ 7293033; omega⟩) hP hS hA (fun H locs hP hS => ?_)
        refine lv_iload hx hb dL_law_709 (lv_at hl 1 rfl) ?_
        refine lv_icmp_eq (tgt := 716) hx hb dL_law_711 (by decide) (fun _ => ?_) (fun c2 => absurd h0 c2)
        refine lv_iload hx hb dL_law_716 (lv_at hl 1 rfl) ?_
        refine lv_if_ne (tgt := 733) hx hb dL_law_718 (by decide) (fun c3 => absurd rfl c3) (fun _ => ?_)
        refine lv_aload_n hx hb dL_law_721 rfl (lv_at hl 5 rfl) ?_
        refine lv_iconst (v := 0) hx hb dL_law_722 (by decide) ?_
        refine va_lald hx hb hK hP 30 1 rfl rfl (vp_in_lit (by decide)) dL_law_723 ?_
        refine lv_iload hx hb dL_law_724 (lv_at hl 0 rfl) ?_
        refine lv_i2l hx hb dL_law_726 rfl ?_
        refine W.lcmp hx hb dL_law_727 ?_
        refine lv_if_eq (tgt := 733) hx hb dL_law_728 (by decide) (fun _ => ?_) (fun c4 => absurd ((lg_cmp_eq _ _).mpr rfl) c4)
        refine lv_goto (tgt := 1039) hx hb dL_law_733 (by decide) ?_
        exact hbk S' T' M' (vp_updL f 0 r.toInt64) H locs d0 _ _ ls hR1 hP hD hS hd0 (lv_sub hl [2, 3, 4, 5, 6] rfl) (by omega) (by omega)
      · obtain ⟨E, bb, M', hx1, hy1, h0, hE0, hR1⟩ := h9
        refine lv_aload_n hx hb dL_law_680 rfl (lv_at hl 1 rfl) ?_
        refine lv_aload_n hx hb dL_law_681 rfl (lv_at hl 0 rfl) ?_
        refine lv_iload hx hb dL_law_682 (lv_at hl 4 rfl) ?_
        refine lv_iconst (v := 1) hx hb dL_law_684 (by decide) ?_
        refine lv_iadd hx hb dL_law_685 ?_
        refine va_sld hx hb hX hbl hbA hS hi1 dL_law_686 ?_
        refine lv_aload_n hx hb dL_law_687 rfl (lv_at hl 3 rfl) ?_
        refine zc_mi zI_lw (z_SW (As := [.ref o, .int (xs (x4 + 1).toNatClampNeg), .ref q]) (rest := []) yE_ok hE hS hA ⟨hx, hb, hml, hown, hts⟩ (er_L_pass l htr D Z o a b2 S T q f (xs (x4 + 1).toNatClampNeg) E (cdA E) hx1 (cdA_c hE0)) gL_law_L_pass rfl rfl rfl hds_L_pass ⟨Nat.le_of_ble_eq_true rfl, Nat.le_of_ble_eq_true rfl⟩ hK (hP.sub (ws' := olw Z o a b2 S T q f) [0, 1, 2, 3, 4, 5, 6, 7, 8, 9, 10, 11, 12, 13, 14, 15, 16, 17, 18, 19, 20, 21, 22, 23, 24, 30] rfl) (hD.sub (ws' := olw Z o a b2 S T q f) [0, 1, 2, 3, 4, 5, 6, 7, 8, 9, 10, 11, 12, 13, 14, 15, 16, 17, 18, 19, 20, 21, 22, 23, 24, 30] (by decide) rfl) rfl hl.1 rfl (Nat.le_of_ble_eq_true rfl) dL_law_688 ⟨by show _ ≤ 601024; omega, by show _ ≤ 7293033; omega⟩) hP hD hS hA (fun H locs hP hD hS => ?_)
        refine lv_istore (lv' := [(5, .int (cdA E)), (0, .ref b), (1, .ref o), (2, .ref (g 0)), (3, .ref q), (4, .int x4)]) hx hb dL_law_691 hl (by decide) rfl (fun ls hl => ?_)
        refine lv_aload_n hx hb dL_law_693 rfl (lv_at hl 3 rfl) ?_
        refine lv_aload_n hx hb dL_law_694 rfl (lv_at hl 1 rfl) ?_
        refine lv_iload hx hb dL_law_695 (lv_at hl 5 rfl) ?_
        refine lv_iconst (v := 1) hx hb dL_law_697 (by decide) ?_
        refine lv_iadd hx hb dL_law_698 ?_
        refine va_sld hx hb hX hbl hbA hS hi1 dL_law_699 ?_
        refine zc_mi zI_lm (z_VD (As := [.int (xs (x4 + 1).toNatClampNeg)]) (rest := []) (q0 := 0) (ci := 2) ⟨hx, hb, hml, hown, hts⟩ (m_X2_pass l D Z g M (xs (x4 + 1).toNatClampNeg) M' bb hy1) gL_law_X2_pass rfl rfl rfl hdv_X2_pass ⟨Nat.le_of_ble_eq_true rfl, Nat.le_of_ble_eq_true rfl⟩ hK (hP.sub (ws' := mwl Z g M) [25, 26, 27, 28, 29] rfl) (hD.sub (ws' := mwl Z g M) [25, 26, 27, 28, 29] (by decide) rfl) rfl rfl rfl rfl hl.1 rfl (Nat.le_of_ble_eq_true rfl) dL_law_700 ⟨by show _ ≤ 601024; omega, by show _ ≤ 7293033; omega⟩) hP hD hS hA (fun H locs hP hD hS => ?_)
        refine lv_istore (lv' := [(6, .int bb), (5, .int (cdA E)), (0, .ref b), (1, .ref o), (2, .ref (g 0)), (3, .ref q), (4, .int x4)]) hx hb dL_law_703 hl (by decide) rfl (fun ls hl => ?_)
        refine lv_aload_n hx hb dL_law_705 rfl (lv_at hl 4 rfl) ?_
        refine zc_i (z_VD (As := []) (rest := []) (q0 := 0) (ci := 2) ⟨hx, hb, hml, hown, hts⟩ (m_X2_thrown l D Z g M' (M'.1 0) rfl) gL_law_X2_thrown rfl rfl rfl hdv_X2_thrown ⟨Nat.le_of_ble_eq_true rfl, Nat.le_of_ble_eq_true rfl⟩ hK (hP.sub (ws' := mwl Z g M') [25, 26, 27, 28, 29] rfl) (hD.sub (ws' := mwl Z g M') [25, 26, 27, 28, 29] (by decide) rfl) rfl rfl rfl rfl hl.1 rfl (Nat.le_of_ble_eq_true rfl) dL_law_706 ⟨by show _ ≤ 601024; omega, by show _ ≤ 7293033; omega⟩) hP hS hA (fun H locs hP hS => ?_)
        refine lv_iload hx hb dL_law_709 (lv_at hl 1 rfl) ?_
        refine lv_icmp_eq (tgt := 716) hx hb dL_law_711 (by decide) (fun _ => ?_) (fun c2 => absurd h0 c2)
        refine lv_iload hx hb dL_law_716 (lv_at hl 1 rfl) ?_
        refine lv_if_ne (tgt := 733) hx hb dL_law_718 (by decide) (fun _ => ?_) (fun c3 => absurd c3 hE0)
        refine lv_goto (tgt := 1039) hx hb dL_law_733 (by decide) ?_
        exact hbk S T M' f H locs d0 _ _ ls hR1 hP hD hS hd0 (lv_sub hl [2, 3, 4, 5, 6] rfl) (by omega) (by omega)
    by_cases hk10 : k15 = 10
    · subst hk10
      refine lv_tableIn (tgt := 736) (off := 697) hx hb dL_law_39 (by rw [ekt]; decide) (by rw [ekt]; decide) rfl (by decide) ?_
      rcases s11 (xs (x4 + 1).toNatClampNeg) with h9 | h9
      · obtain ⟨r, S', T', M', hx1, hy1, h0, hR1⟩ := h9
        refine lv_aload_n hx hb dL_law_736 rfl (lv_at hl 1 rfl) ?_
        refine lv_aload_n hx hb dL_law_737 rfl (lv_at hl 0 rfl) ?_
        refine lv_iload hx hb dL_law_738 (lv_at hl 4 rfl) ?_
        refine lv_iconst (v := 1) hx hb dL_law_740 (by decide) ?_
        refine lv_iadd hx hb dL_law_741 ?_
        refine va_sld hx hb hX hbl hbA hS hi1 dL_law_742 ?_
        refine lv_aload_n hx hb dL_law_743 rfl (lv_at hl 3 rfl) ?_
        refine zc_mi zI_lw (z_SW (As := [.ref o, .int (xs (x4 + 1).toNatClampNeg), .ref q]) (rest := []) yE_ok hE hS hA ⟨hx, hb, hml, hown, hts⟩ (ok_L_when l D Z o a b2 S T q f (xs (x4 + 1).toNatClampNeg) r S' T' hx1) gL_law_L_when rfl rfl rfl hds_L_when ⟨Nat.le_of_ble_eq_true rfl, Nat.le_of_ble_eq_true rfl⟩ hK (hP.sub (ws' := olw Z o a b2 S T q f) [0, 1, 2, 3, 4, 5, 6, 7, 8, 9, 10, 11, 12, 13, 14, 15, 16, 17, 18, 19, 20, 21, 22, 23, 24, 30] rfl) (hD.sub (ws' := olw Z o a b2 S T q f) [0, 1, 2, 3, 4, 5, 6, 7, 8, 9, 10, 11, 12, 13, 14, 15, 16, 17, 18, 19, 20, 21, 22, 23, 24, 30] (by decide) rfl) rfl hl.1 rfl (Nat.le_of_ble_eq_true rfl) dL_law_744 ⟨by show _ ≤ 601024; omega, by show _ ≤ 7293033; omega⟩) hP hD hS hA (fun H locs hP hD hS => ?_)
        refine lv_istore (lv' := [(5, .int 0), (0, .ref b), (1, .ref o), (2, .ref (g 0)), (3, .ref q), (4, .int x4)]) hx hb dL_law_747 hl (by decide) rfl (fun ls hl => ?_)
        refine lv_aload_n hx hb dL_law_749 rfl (lv_at hl 3 rfl) ?_
        refine lv_aload_n hx hb dL_law_750 rfl (lv_at hl 1 rfl) ?_
        refine lv_iload hx hb dL_law_751 (lv_at hl 5 rfl) ?_
        refine lv_iconst (v := 1) hx hb dL_law_753 (by decide) ?_
        refine lv_iadd hx hb dL_law_754 ?_
        refine va_sld hx hb hX hbl hbA hS hi1 dL_law_755 ?_
        refine zc_mi zI_lm (z_VG (As := [.int (xs (x4 + 1).toNatClampNeg)]) (rest := []) (q0 := 0) (ci := 2) mE_ok hE2 hS hA ⟨hx, hb, hml, hown, hts⟩ (m_X2_when l D Z g M (xs (x4 + 1).toNatClampNeg) M' r hy1) gL_law_X2_when rfl rfl rfl hdv_X2_when ⟨Nat.le_of_ble_eq_true rfl, Nat.le_of_ble_eq_true rfl⟩ hK (hP.sub (ws' := mwl Z g M) [25, 26, 27, 28, 29] rfl) (hD.sub (ws' := mwl Z g M) [25, 26, 27, 28, 29] (by decide) rfl) rfl rfl rfl rfl hl.1 rfl (Nat.le_of_ble_eq_true rfl) dL_law_756 ⟨by show _ ≤ 601024; omega, by show _ ≤ 7293033; omega⟩) hP hD hS hA (fun H locs hP hD hS => ?_)
        refine lv_istore (lv' := [(6, .int r), (5, .int 0), (0, .ref b), (1, .ref o), (2, .ref (g 0)), (3, .ref q), (4, .int x4)]) hx hb dL_law_759 hl (by decide) rfl (fun ls hl => ?_)
        refine lv_aload_n hx hb dL_law_761 rfl (lv_at hl 4 rfl) ?_
        refine zc_i (z_VD (As := []) (rest := []) (q0 := 0) (ci := 2) ⟨hx, hb, hml, hown, hts⟩ (m_X2_thrown l D Z g M' (M'.1 0) rfl) gL_law_X2_thrown rfl rfl rfl hdv_X2_thrown ⟨Nat.le_of_ble_eq_true rfl, Nat.le_of_ble_eq_true rfl⟩ hK (hP.sub (ws' := mwl Z g M') [25, 26, 27, 28, 29] rfl) (hD.sub (ws' := mwl Z g M') [25, 26, 27, 28, 29] (by decide) rfl) rfl rfl rfl rfl hl.1 rfl (Nat.le_of_ble_eq_true rfl) dL_law_762 ⟨by show _ ≤ 601024; omega, by show _ ≤ 7293033; omega⟩) hP hS hA (fun H locs hP hS => ?_)
        refine lv_iload hx hb dL_law_765 (lv_at hl 1 rfl) ?_
        refine lv_icmp_eq (tgt := 772) hx hb dL_law_767 (by decide) (fun _ => ?_) (fun c2 => absurd h0 c2)
        refine lv_iload hx hb dL_law_772 (lv_at hl 1 rfl) ?_
        refine lv_if_ne (tgt := 789) hx hb dL_law_774 (by decide) (fun c3 => absurd rfl c3) (fun _ => ?_)
        refine lv_aload_n hx hb dL_law_777 rfl (lv_at hl 5 rfl) ?_
        refine lv_iconst (v := 0) hx hb dL_law_778 (by decide) ?_
        refine va_lald hx hb hK hP 30 1 rfl rfl (vp_in_lit (by decide)) dL_law_779 ?_
        refine lv_iload hx hb dL_law_780 (lv_at hl 0 rfl) ?_
        refine lv_i2l hx hb dL_law_782 rfl ?_
        refine W.lcmp hx hb dL_law_783 ?_
        refine lv_if_eq (tgt := 789) hx hb dL_law_784 (by decide) (fun _ => ?_) (fun c4 => absurd ((lg_cmp_eq _ _).mpr rfl) c4)
        refine lv_goto (tgt := 1039) hx hb dL_law_789 (by decide) ?_
        exact hbk S' T' M' (vp_updL f 0 r.toInt64) H locs d0 _ _ ls hR1 hP hD hS hd0 (lv_sub hl [2, 3, 4, 5, 6] rfl) (by omega) (by omega)
      · obtain ⟨E, bb, M', hx1, hy1, h0, hE0, hR1⟩ := h9
        refine lv_aload_n hx hb dL_law_736 rfl (lv_at hl 1 rfl) ?_
        refine lv_aload_n hx hb dL_law_737 rfl (lv_at hl 0 rfl) ?_
        refine lv_iload hx hb dL_law_738 (lv_at hl 4 rfl) ?_
        refine lv_iconst (v := 1) hx hb dL_law_740 (by decide) ?_
        refine lv_iadd hx hb dL_law_741 ?_
        refine va_sld hx hb hX hbl hbA hS hi1 dL_law_742 ?_
        refine lv_aload_n hx hb dL_law_743 rfl (lv_at hl 3 rfl) ?_
        refine zc_mi zI_lw (z_SW (As := [.ref o, .int (xs (x4 + 1).toNatClampNeg), .ref q]) (rest := []) yE_ok hE hS hA ⟨hx, hb, hml, hown, hts⟩ (er_L_when l htr D Z o a b2 S T q f (xs (x4 + 1).toNatClampNeg) E (cdI E) hx1 (cdI_c hE0)) gL_law_L_when rfl rfl rfl hds_L_when ⟨Nat.le_of_ble_eq_true rfl, Nat.le_of_ble_eq_true rfl⟩ hK (hP.sub (ws' := olw Z o a b2 S T q f) [0, 1, 2, 3, 4, 5, 6, 7, 8, 9, 10, 11, 12, 13, 14, 15, 16, 17, 18, 19, 20, 21, 22, 23, 24, 30] rfl) (hD.sub (ws' := olw Z o a b2 S T q f) [0, 1, 2, 3, 4, 5, 6, 7, 8, 9, 10, 11, 12, 13, 14, 15, 16, 17, 18, 19, 20, 21, 22, 23, 24, 30] (by decide) rfl) rfl hl.1 rfl (Nat.le_of_ble_eq_true rfl) dL_law_744 ⟨by show _ ≤ 601024; omega, by show _ ≤ 7293033; omega⟩) hP hD hS hA (fun H locs hP hD hS => ?_)
        refine lv_istore (lv' := [(5, .int (cdI E)), (0, .ref b), (1, .ref o), (2, .ref (g 0)), (3, .ref q), (4, .int x4)]) hx hb dL_law_747 hl (by decide) rfl (fun ls hl => ?_)
        refine lv_aload_n hx hb dL_law_749 rfl (lv_at hl 3 rfl) ?_
        refine lv_aload_n hx hb dL_law_750 rfl (lv_at hl 1 rfl) ?_
        refine lv_iload hx hb dL_law_751 (lv_at hl 5 rfl) ?_
        refine lv_iconst (v := 1) hx hb dL_law_753 (by decide) ?_
        refine lv_iadd hx hb dL_law_754 ?_
        refine va_sld hx hb hX hbl hbA hS hi1 dL_law_755 ?_
        refine zc_mi zI_lm (z_VG (As := [.int (xs (x4 + 1).toNatClampNeg)]) (rest := []) (q0 := 0) (ci := 2) mE_ok hE2 hS hA ⟨hx, hb, hml, hown, hts⟩ (m_X2_when l D Z g M (xs (x4 + 1).toNatClampNeg) M' bb hy1) gL_law_X2_when rfl rfl rfl hdv_X2_when ⟨Nat.le_of_ble_eq_true rfl, Nat.le_of_ble_eq_true rfl⟩ hK (hP.sub (ws' := mwl Z g M) [25, 26, 27, 28, 29] rfl) (hD.sub (ws' := mwl Z g M) [25, 26, 27, 28, 29] (by decide) rfl) rfl rfl rfl rfl hl.1 rfl (Nat.le_of_ble_eq_true rfl) dL_law_756 ⟨by show _ ≤ 601024; omega, by show _ ≤ 7293033; omega⟩) hP hD hS hA (fun H locs hP hD hS => ?_)
        refine lv_istore (lv' := [(6, .int bb), (5, .int (cdI E)), (0, .ref b), (1, .ref o), (2, .ref (g 0)), (3, .ref q), (4, .int x4)]) hx hb dL_law_759 hl (by decide) rfl (fun ls hl => ?_)
        refine lv_aload_n hx hb dL_law_761 rfl (lv_at hl 4 rfl) ?_
        refine zc_i (z_VD (As := []) (rest := []) (q0 := 0) (ci := 2) ⟨hx, hb, hml, hown, hts⟩ (m_X2_thrown l D Z g M' (M'.1 0) rfl) gL_law_X2_thrown rfl rfl rfl hdv_X2_thrown ⟨Nat.le_of_ble_eq_true rfl, Nat.le_of_ble_eq_true rfl⟩ hK (hP.sub (ws' := mwl Z g M') [25, 26, 27, 28, 29] rfl) (hD.sub (ws' := mwl Z g M') [25, 26, 27, 28, 29] (by decide) rfl) rfl rfl rfl rfl hl.1 rfl (Nat.le_of_ble_eq_true rfl) dL_law_762 ⟨by show _ ≤ 601024; omega, by show _ ≤ 7293033; omega⟩) hP hS hA (fun H locs hP hS => ?_)
        refine lv_iload hx hb dL_law_765 (lv_at hl 1 rfl) ?_
        refine lv_icmp_eq (tgt := 772) hx hb dL_law_767 (by decide) (fun _ => ?_) (fun c2 => absurd h0 c2)
        refine lv_iload hx hb dL_law_772 (lv_at hl 1 rfl) ?_
        refine lv_if_ne (tgt := 789) hx hb dL_law_774 (by decide) (fun _ => ?_) (fun c3 => absurd c3 hE0)
        refine lv_goto (tgt := 1039) hx hb dL_law_789 (by decide) ?_
        exact hbk S T M' f H locs d0 _ _ ls hR1 hP hD hS hd0 (lv_sub hl [2, 3, 4, 5, 6] rfl) (by omega) (by omega)
    by_cases hk11 : k15 = 11
    · subst hk11
      refine lv_tableIn (tgt := 792) (off := 753) hx hb dL_law_39 (by rw [ekt]; decide) (by rw [ekt]; decide) rfl (by decide) ?_
      rcases s12 (xs (x4 + 1).toNatClampNeg) (xs (x4 + 2).toNatClampNeg) with h9 | h9
      · obtain ⟨r, S', T', M', hx1, hy1, h0, hR1⟩ := h9
        refine lv_aload_n hx hb dL_law_792 rfl (lv_at hl 1 rfl) ?_
        refine lv_aload_n hx hb dL_law_793 rfl (lv_at hl 0 rfl) ?_
        refine lv_iload hx hb dL_law_794 (lv_at hl 4 rfl) ?_
        refine lv_iconst (v := 1) hx hb dL_law_796 (by decide) ?_
        refine lv_iadd hx hb dL_law_797 ?_
        refine va_sld hx hb hX hbl hbA hS hi1 dL_law_798 ?_
        refine lv_aload_n hx hb dL_law_799 rfl (lv_at hl 0 rfl) ?_
        refine lv_iload hx hb dL_law_800 (lv_at hl 4 rfl) ?_
        refine lv_iconst (v := 2) hx hb dL_law_802 (by decide) ?_
        refine lv_iadd hx hb dL_law_803 ?_
        refine va_sld hx hb hX hbl hbA hS hi2 dL_law_804 ?_
        refine lv_aload_n hx hb dL_law_805 rfl (lv_at hl 3 rfl) ?_
        refine zc_mi zI_lw (z_SW (As := [.ref o, .int (xs (x4 + 1).toNatClampNeg), .int (xs (x4 + 2).toNatClampNeg), .ref q]) (rest := []) yE_ok hE hS hA ⟨hx, hb, hml, hown, hts⟩ (ok_L_takes l D Z o a b2 S T q f (xs (x4 + 1).toNatClampNeg) (xs (x4 + 2).toNatClampNeg) r S' T' hx1) gL_law_L_takes rfl rfl rfl hds_L_takes ⟨Nat.le_of_ble_eq_true rfl, Nat.le_of_ble_eq_true rfl⟩ hK (hP.sub (ws' := olw Z o a b2 S T q f) [0, 1, 2, 3, 4, 5, 6, 7, 8, 9, 10, 11, 12, 13, 14, 15, 16, 17, 18, 19, 20, 21, 22, 23, 24, 30] rfl) (hD.sub (ws' := olw Z o a b2 S T q f) [0, 1, 2, 3, 4, 5, 6, 7, 8, 9, 10, 11, 12, 13, 14, 15, 16, 17, 18, 19, 20, 21, 22, 23, 24, 30] (by decide) rfl) rfl hl.1 rfl (Nat.le_of_ble_eq_true rfl) dL_law_806 ⟨by show _ ≤ 601024; omega, by show _ ≤ 7293033; omega⟩) hP hD hS hA (fun H locs hP hD hS => ?_)
        refine lv_istore (lv' := [(5, .int 0), (0, .ref b), (1, .ref o), (2, .ref (g 0)), (3, .ref q), (4, .int x4)]) hx hb dL_law_809 hl (by decide) rfl (fun ls hl => ?_)
        refine lv_aload_n hx hb dL_law_811 rfl (lv_at hl 3 rfl) ?_
        refine lv_aload_n hx hb dL_law_812 rfl (lv_at hl 1 rfl) ?_
        refine lv_iload hx hb dL_law_813 (lv_at hl 5 rfl) ?_
        refine lv_iconst (v := 1) hx hb dL_law_815 (by decide) ?_
        refine lv_iadd hx hb dL_law_816 ?_
        refine va_sld hx hb hX hbl hbA hS hi1 dL_law_817 ?_
        refine lv_aload_n hx hb dL_law_818 rfl (lv_at hl 1 rfl) ?_
        refine lv_iload hx hb dL_law_819 (lv_at hl 5 rfl) ?_
        refine lv_iconst (v := 2) hx hb dL_law_821 (by decide) ?_
        refine lv_iadd hx hb dL_law_822 ?_
        refine va_sld hx hb hX hbl hbA hS hi2 dL_law_823 ?_
        refine zc_mi zI_lm (z_VG (As := [.int (xs (x4 + 1).toNatClampNeg), .int (xs (x4 + 2).toNatClampNeg)]) (rest := []) (q0 := 0) (ci := 2) mE_ok hE2 hS hA ⟨hx, hb, hml, hown, hts⟩ (m_X2_takes l D Z g M (xs (x4 + 1).toNatClampNeg) (xs (x4 + 2).toNatClampNeg) M' r hy1) gL_law_X2_takes rfl rfl rfl hdv_X2_takes ⟨Nat.le_of_ble_eq_true rfl, Nat.le_of_ble_eq_true rfl⟩ hK (hP.sub (ws' := mwl Z g M) [25, 26, 27, 28, 29] rfl) (hD.sub (ws' := mwl Z g M) [25, 26, 27, 28, 29] (by decide) rfl) rfl rfl rfl rfl hl.1 rfl (Nat.le_of_ble_eq_true rfl) dL_law_824 ⟨by show _ ≤ 601024; omega, by show _ ≤ 7293033; omega⟩) hP hD hS hA (fun H locs hP hD hS => ?_)
        refine lv_istore (lv' := [(6, .int r), (5, .int 0), (0, .ref b), (1, .ref o), (2, .ref (g 0)), (3, .ref q), (4, .int x4)]) hx hb dL_law_827 hl (by decide) rfl (fun ls hl => ?_)
        refine lv_aload_n hx hb dL_law_829 rfl (lv_at hl 4 rfl) ?_
        refine zc_i (z_VD (As := []) (rest := []) (q0 := 0) (ci := 2) ⟨hx, hb, hml, hown, hts⟩ (m_X2_thrown l D Z g M' (M'.1 0) rfl) gL_law_X2_thrown rfl rfl rfl hdv_X2_thrown ⟨Nat.le_of_ble_eq_true rfl, Nat.le_of_ble_eq_true rfl⟩ hK (hP.sub (ws' := mwl Z g M') [25, 26, 27, 28, 29] rfl) (hD.sub (ws' := mwl Z g M') [25, 26, 27, 28, 29] (by decide) rfl) rfl rfl rfl rfl hl.1 rfl (Nat.le_of_ble_eq_true rfl) dL_law_830 ⟨by show _ ≤ 601024; omega, by show _ ≤ 7293033; omega⟩) hP hS hA (fun H locs hP hS => ?_)
        refine lv_iload hx hb dL_law_833 (lv_at hl 1 rfl) ?_
        refine lv_icmp_eq (tgt := 840) hx hb dL_law_835 (by decide) (fun _ => ?_) (fun c2 => absurd h0 c2)
        refine lv_iload hx hb dL_law_840 (lv_at hl 1 rfl) ?_
        refine lv_if_ne (tgt := 857) hx hb dL_law_842 (by decide) (fun c3 => absurd rfl c3) (fun _ => ?_)
        refine lv_aload_n hx hb dL_law_845 rfl (lv_at hl 5 rfl) ?_
        refine lv_iconst (v := 0) hx hb dL_law_846 (by decide) ?_
        refine va_lald hx hb hK hP 30 1 rfl rfl (vp_in_lit (by decide)) dL_law_847 ?_
        refine lv_iload hx hb dL_law_848 (lv_at hl 0 rfl) ?_
        refine lv_i2l hx hb dL_law_850 rfl ?_
        refine W.lcmp hx hb dL_law_851 ?_
        refine lv_if_eq (tgt := 857) hx hb dL_law_852 (by decide) (fun _ => ?_) (fun c4 => absurd ((lg_cmp_eq _ _).mpr rfl) c4)
        refine lv_goto (tgt := 1039) hx hb dL_law_857 (by decide) ?_
        exact hbk S' T' M' (vp_updL f 0 r.toInt64) H locs d0 _ _ ls hR1 hP hD hS hd0 (lv_sub hl [2, 3, 4, 5, 6] rfl) (by omega) (by omega)
      · obtain ⟨E, bb, M', hx1, hy1, h0, hE0, hR1⟩ := h9
        refine lv_aload_n hx hb dL_law_792 rfl (lv_at hl 1 rfl) ?_
        refine lv_aload_n hx hb dL_law_793 rfl (lv_at hl 0 rfl) ?_
        refine lv_iload hx hb dL_law_794 (lv_at hl 4 rfl) ?_
        refine lv_iconst (v := 1) hx hb dL_law_796 (by decide) ?_
        refine lv_iadd hx hb dL_law_797 ?_
        refine va_sld hx hb hX hbl hbA hS hi1 dL_law_798 ?_
        refine lv_aload_n hx hb dL_law_799 rfl (lv_at hl 0 rfl) ?_
        refine lv_iload hx hb dL_law_800 (lv_at hl 4 rfl) ?_
        refine lv_iconst (v := 2) hx hb dL_law_802 (by decide) ?_
        refine lv_iadd hx hb dL_law_803 ?_
        refine va_sld hx hb hX hbl hbA hS hi2 dL_law_804 ?_
        refine lv_aload_n hx hb dL_law_805 rfl (lv_at hl 3 rfl) ?_
        refine zc_mi zI_lw (z_SW (As := [.ref o, .int (xs (x4 + 1).toNatClampNeg), .int (xs (x4 + 2).toNatClampNeg), .ref q]) (rest := []) yE_ok hE hS hA ⟨hx, hb, hml, hown, hts⟩ (er_L_takes l htr D Z o a b2 S T q f (xs (x4 + 1).toNatClampNeg) (xs (x4 + 2).toNatClampNeg) E (cdIA E) hx1 (cdIA_c hE0)) gL_law_L_takes rfl rfl rfl hds_L_takes ⟨Nat.le_of_ble_eq_true rfl, Nat.le_of_ble_eq_true rfl⟩ hK (hP.sub (ws' := olw Z o a b2 S T q f) [0, 1, 2, 3, 4, 5, 6, 7, 8, 9, 10, 11, 12, 13, 14, 15, 16, 17, 18, 19, 20, 21, 22, 23, 24, 30] rfl) (hD.sub (ws' := olw Z o a b2 S T q f) [0, 1, 2, 3, 4, 5, 6, 7, 8, 9, 10, 11, 12, 13, 14, 15, 16, 17, 18, 19, 20, 21, 22, 23, 24, 30] (by decide) rfl) rfl hl.1 rfl (Nat.le_of_ble_eq_true rfl) dL_law_806 ⟨by show _ ≤ 601024; omega, by show _ ≤ 7293033; omega⟩) hP hD hS hA (fun H locs hP hD hS => ?_)
        refine lv_istore (lv' := [(5, .int (cdIA E)), (0, .ref b), (1, .ref o), (2, .ref (g 0)), (3, .ref q), (4, .int x4)]) hx hb dL_law_809 hl (by decide) rfl (fun ls hl => ?_)
        refine lv_aload_n hx hb dL_law_811 rfl (lv_at hl 3 rfl) ?_
        refine lv_aload_n hx hb dL_law_812 rfl (lv_at hl 1 rfl) ?_
        refine lv_iload hx hb dL_law_813 (lv_at hl 5 rfl) ?_
        refine lv_iconst (v := 1) hx hb dL_law_815 (by decide) ?_
        refine lv_iadd hx hb dL_law_816 ?_
        refine va_sld hx hb hX hbl hbA hS hi1 dL_law_817 ?_
        refine lv_aload_n hx hb dL_law_818 rfl (lv_at hl 1 rfl) ?_
        refine lv_iload hx hb dL_law_819 (lv_at hl 5 rfl) ?_
        refine lv_iconst (v := 2) hx hb dL_law_821 (by decide) ?_
        refine lv_iadd hx hb dL_law_822 ?_
        refine va_sld hx hb hX hbl hbA hS hi2 dL_law_823 ?_
        refine zc_mi zI_lm (z_VG (As := [.int (xs (x4 + 1).toNatClampNeg), .int (xs (x4 + 2).toNatClampNeg)]) (rest := []) (q0 := 0) (ci := 2) mE_ok hE2 hS hA ⟨hx, hb, hml, hown, hts⟩ (m_X2_takes l D Z g M (xs (x4 + 1).toNatClampNeg) (xs (x4 + 2).toNatClampNeg) M' bb hy1) gL_law_X2_takes rfl rfl rfl hdv_X2_takes ⟨Nat.le_of_ble_eq_true rfl, Nat.le_of_ble_eq_true rfl⟩ hK (hP.sub (ws' := mwl Z g M) [25, 26, 27, 28, 29] rfl) (hD.sub (ws' := mwl Z g M) [25, 26, 27, 28, 29] (by decide) rfl) rfl rfl rfl rfl hl.1 rfl (Nat.le_of_ble_eq_true rfl) dL_law_824 ⟨by show _ ≤ 601024; omega, by show _ ≤ 7293033; omega⟩) hP hD hS hA (fun H locs hP hD hS => ?_)
        refine lv_istore (lv' := [(6, .int bb), (5, .int (cdIA E)), (0, .ref b), (1, .ref o), (2, .ref (g 0)), (3, .ref q), (4, .int x4)]) hx hb dL_law_827 hl (by decide) rfl (fun ls hl => ?_)
        refine lv_aload_n hx hb dL_law_829 rfl (lv_at hl 4 rfl) ?_
        refine zc_i (z_VD (As := []) (rest := []) (q0 := 0) (ci := 2) ⟨hx, hb, hml, hown, hts⟩ (m_X2_thrown l D Z g M' (M'.1 0) rfl) gL_law_X2_thrown rfl rfl rfl hdv_X2_thrown ⟨Nat.le_of_ble_eq_true rfl, Nat.le_of_ble_eq_true rfl⟩ hK (hP.sub (ws' := mwl Z g M') [25, 26, 27, 28, 29] rfl) (hD.sub (ws' := mwl Z g M') [25, 26, 27, 28, 29] (by decide) rfl) rfl rfl rfl rfl hl.1 rfl (Nat.le_of_ble_eq_true rfl) dL_law_830 ⟨by show _ ≤ 601024; omega, by show _ ≤ 7293033; omega⟩) hP hS hA (fun H locs hP hS => ?_)
        refine lv_iload hx hb dL_law_833 (lv_at hl 1 rfl) ?_
        refine lv_icmp_eq (tgt := 840) hx hb dL_law_835 (by decide) (fun _ => ?_) (fun c2 => absurd h0 c2)
        refine lv_iload hx hb dL_law_840 (lv_at hl 1 rfl) ?_
        refine lv_if_ne (tgt := 857) hx hb dL_law_842 (by decide) (fun _ => ?_) (fun c3 => absurd c3 hE0)
        refine lv_goto (tgt := 1039) hx hb dL_law_857 (by decide) ?_
        exact hbk S T M' f H locs d0 _ _ ls hR1 hP hD hS hd0 (lv_sub hl [2, 3, 4, 5, 6] rfl) (by omega) (by omega)
    by_cases hk12 : k15 = 12
    · subst hk12
      refine lv_tableIn (tgt := 860) (off := 821) hx hb dL_law_39 (by rw [ekt]; decide) (by rw [ekt]; decide) rfl (by decide) ?_
      rcases s13 (xs (x4 + 1).toNatClampNeg) with h9 | h9
      · obtain ⟨r, M', hx1, hy1, h0, hR1⟩ := h9
        refine lv_aload_n hx hb dL_law_860 rfl (lv_at hl 1 rfl) ?_
        refine lv_aload_n hx hb dL_law_861 rfl (lv_at hl 0 rfl) ?_
        refine lv_iload hx hb dL_law_862 (lv_at hl 4 rfl) ?_
        refine lv_iconst (v := 1) hx hb dL_law_864 (by decide) ?_
        refine lv_iadd hx hb dL_law_865 ?_
        refine va_sld hx hb hX hbl hbA hS hi1 dL_law_866 ?_
        refine lv_aload_n hx hb dL_law_867 rfl (lv_at hl 3 rfl) ?_
        refine zc_mi zI_lw (z_SW (As := [.ref o, .int (xs (x4 + 1).toNatClampNeg), .ref q]) (rest := []) yE_ok hE hS hA ⟨hx, hb, hml, hown, hts⟩ (ok_L_answers l D Z o a b2 S T q f (xs (x4 + 1).toNatClampNeg) r hx1) gL_law_L_answers rfl rfl rfl hds_L_answers ⟨Nat.le_of_ble_eq_true rfl, Nat.le_of_ble_eq_true rfl⟩ hK (hP.sub (ws' := olw Z o a b2 S T q f) [0, 1, 2, 3, 4, 5, 6, 7, 8, 9, 10, 11, 12, 13, 14, 15, 16, 17, 18, 19, 20, 21, 22, 23, 24, 30] rfl) (hD.sub (ws' := olw Z o a b2 S T q f) [0, 1, 2, 3, 4, 5, 6, 7, 8, 9, 10, 11, 12, 13, 14, 15, 16, 17, 18, 19, 20, 21, 22, 23, 24, 30] (by decide) rfl) rfl hl.1 rfl (Nat.le_of_ble_eq_true rfl) dL_law_868 ⟨by show _ ≤ 601024; omega, by show _ ≤ 7293033; omega⟩) hP hD hS hA (fun H locs hP hD hS => ?_)
        refine lv_istore (lv' := [(5, .int 0), (0, .ref b), (1, .ref o), (2, .ref (g 0)), (3, .ref q), (4, .int x4)]) hx hb dL_law_871 hl (by decide) rfl (fun ls hl => ?_)
        refine lv_aload_n hx hb dL_law_873 rfl (lv_at hl 3 rfl) ?_
        refine lv_aload_n hx hb dL_law_874 rfl (lv_at hl 1 rfl) ?_
        refine lv_iload hx hb dL_law_875 (lv_at hl 5 rfl) ?_
        refine lv_iconst (v := 1) hx hb dL_law_877 (by decide) ?_
        refine lv_iadd hx hb dL_law_878 ?_
        refine va_sld hx hb hX hbl hbA hS hi1 dL_law_879 ?_
        refine zc_mi zI_lm (z_VD (As := [.int (xs (x4 + 1).toNatClampNeg)]) (rest := []) (q0 := 0) (ci := 2) ⟨hx, hb, hml, hown, hts⟩ (m_X2_answers l D Z g M (xs (x4 + 1).toNatClampNeg) M' r hy1) gL_law_X2_answers rfl rfl rfl hdv_X2_answers ⟨Nat.le_of_ble_eq_true rfl, Nat.le_of_ble_eq_true rfl⟩ hK (hP.sub (ws' := mwl Z g M) [25, 26, 27, 28, 29] rfl) (hD.sub (ws' := mwl Z g M) [25, 26, 27, 28, 29] (by decide) rfl) rfl rfl rfl rfl hl.1 rfl (Nat.le_of_ble_eq_true rfl) dL_law_880 ⟨by show _ ≤ 601024; omega, by show _ ≤ 7293033; omega⟩) hP hD hS hA (fun H locs hP hD hS => ?_)
        refine lv_istore (lv' := [(6, .int r), (5, .int 0), (0, .ref b), (1, .ref o), (2, .ref (g 0)), (3, .ref q), (4, .int x4)]) hx hb dL_law_883 hl (by decide) rfl (fun ls hl => ?_)
        refine lv_aload_n hx hb dL_law_885 rfl (lv_at hl 4 rfl) ?_
        refine zc_i (z_VD (As := []) (rest := []) (q0 := 0) (ci := 2) ⟨hx, hb, hml, hown, hts⟩ (m_X2_thrown l D Z g M' (M'.1 0) rfl) gL_law_X2_thrown rfl rfl rfl hdv_X2_thrown ⟨Nat.le_of_ble_eq_true rfl, Nat.le_of_ble_eq_true rfl⟩ hK (hP.sub (ws' := mwl Z g M') [25, 26, 27, 28, 29] rfl) (hD.sub (ws' := mwl Z g M') [25, 26, 27, 28, 29] (by decide) rfl) rfl rfl rfl rfl hl.1 rfl (Nat.le_of_ble_eq_true rfl) dL_law_886 ⟨by show _ ≤ 601024; omega, by show _ ≤ 7293033; omega⟩) hP hS hA (fun H locs hP hS => ?_)
        refine lv_iload hx hb dL_law_889 (lv_at hl 1 rfl) ?_
        refine lv_icmp_eq (tgt := 896) hx hb dL_law_891 (by decide) (fun _ => ?_) (fun c2 => absurd h0 c2)
        refine lv_iload hx hb dL_law_896 (lv_at hl 1 rfl) ?_
        refine lv_if_ne (tgt := 913) hx hb dL_law_898 (by decide) (fun c3 => absurd rfl c3) (fun _ => ?_)
        refine lv_aload_n hx hb dL_law_901 rfl (lv_at hl 5 rfl) ?_
        refine lv_iconst (v := 0) hx hb dL_law_902 (by decide) ?_
        refine va_lald hx hb hK hP 30 1 rfl rfl (vp_in_lit (by decide)) dL_law_903 ?_
        refine lv_iload hx hb dL_law_904 (lv_at hl 0 rfl) ?_
        refine lv_i2l hx hb dL_law_906 rfl ?_
        refine W.lcmp hx hb dL_law_907 ?_
        refine lv_if_eq (tgt := 913) hx hb dL_law_908 (by decide) (fun _ => ?_) (fun c4 => absurd ((lg_cmp_eq _ _).mpr rfl) c4)
        refine lv_goto (tgt := 1039) hx hb dL_law_913 (by decide) ?_
        exact hbk S T M' (vp_updL f 0 r.toInt64) H locs d0 _ _ ls hR1 hP hD hS hd0 (lv_sub hl [2, 3, 4, 5, 6] rfl) (by omega) (by omega)
      · obtain ⟨E, bb, M', hx1, hy1, h0, hE0, hR1⟩ := h9
        refine lv_aload_n hx hb dL_law_860 rfl (lv_at hl 1 rfl) ?_
        refine lv_aload_n hx hb dL_law_861 rfl (lv_at hl 0 rfl) ?_
        refine lv_iload hx hb dL_law_862 (lv_at hl 4 rfl) ?_
        refine lv_iconst (v := 1) hx hb dL_law_864 (by decide) ?_
        refine lv_iadd hx hb dL_law_865 ?_
        refine va_sld hx hb hX hbl hbA hS hi1 dL_law_866 ?_
        refine lv_aload_n hx hb dL_law_867 rfl (lv_at hl 3 rfl) ?_
        refine zc_mi zI_lw (z_SW (As := [.ref o, .int (xs (x4 + 1).toNatClampNeg), .ref q]) (rest := []) yE_ok hE hS hA ⟨hx, hb, hml, hown, hts⟩ (er_L_answers l htr D Z o a b2 S T q f (xs (x4 + 1).toNatClampNeg) E (cdI E) hx1 (cdI_c hE0)) gL_law_L_answers rfl rfl rfl hds_L_answers ⟨Nat.le_of_ble_eq_true rfl, Nat.le_of_ble_eq_true rfl⟩ hK (hP.sub (ws' := olw Z o a b2 S T q f) [0, 1, 2, 3, 4, 5, 6, 7, 8, 9, 10, 11, 12, 13, 14, 15, 16, 17, 18, 19, 20, 21, 22, 23, 24, 30] rfl) (hD.sub (ws' := olw Z o a b2 S T q f) [0, 1, 2, 3, 4, 5, 6, 7, 8, 9, 10, 11, 12, 13, 14, 15, 16, 17, 18, 19, 20, 21, 22, 23, 24, 30] (by decide) rfl) rfl hl.1 rfl (Nat.le_of_ble_eq_true rfl) dL_law_868 ⟨by show _ ≤ 601024; omega, by show _ ≤ 7293033; omega⟩) hP hD hS hA (fun H locs hP hD hS => ?_)
        refine lv_istore (lv' := [(5, .int (cdI E)), (0, .ref b), (1, .ref o), (2, .ref (g 0)), (3, .ref q), (4, .int x4)]) hx hb dL_law_871 hl (by decide) rfl (fun ls hl => ?_)
        refine lv_aload_n hx hb dL_law_873 rfl (lv_at hl 3 rfl) ?_
        refine lv_aload_n hx hb dL_law_874 rfl (lv_at hl 1 rfl) ?_
        refine lv_iload hx hb dL_law_875 (lv_at hl 5 rfl) ?_
        refine lv_iconst (v := 1) hx hb dL_law_877 (by decide) ?_
        refine lv_iadd hx hb dL_law_878 ?_
        refine va_sld hx hb hX hbl hbA hS hi1 dL_law_879 ?_
        refine zc_mi zI_lm (z_VD (As := [.int (xs (x4 + 1).toNatClampNeg)]) (rest := []) (q0 := 0) (ci := 2) ⟨hx, hb, hml, hown, hts⟩ (m_X2_answers l D Z g M (xs (x4 + 1).toNatClampNeg) M' bb hy1) gL_law_X2_answers rfl rfl rfl hdv_X2_answers ⟨Nat.le_of_ble_eq_true rfl, Nat.le_of_ble_eq_true rfl⟩ hK (hP.sub (ws' := mwl Z g M) [25, 26, 27, 28, 29] rfl) (hD.sub (ws' := mwl Z g M) [25, 26, 27, 28, 29] (by decide) rfl) rfl rfl rfl rfl hl.1 rfl (Nat.le_of_ble_eq_true rfl) dL_law_880 ⟨by show _ ≤ 601024; omega, by show _ ≤ 7293033; omega⟩) hP hD hS hA (fun H locs hP hD hS => ?_)
        refine lv_istore (lv' := [(6, .int bb), (5, .int (cdI E)), (0, .ref b), (1, .ref o), (2, .ref (g 0)), (3, .ref q), (4, .int x4)]) hx hb dL_law_883 hl (by decide) rfl (fun ls hl => ?_)
        refine lv_aload_n hx hb dL_law_885 rfl (lv_at hl 4 rfl) ?_
        refine zc_i (z_VD (As := []) (rest := []) (q0 := 0) (ci := 2) ⟨hx, hb, hml, hown, hts⟩ (m_X2_thrown l D Z g M' (M'.1 0) rfl) gL_law_X2_thrown rfl rfl rfl hdv_X2_thrown ⟨Nat.le_of_ble_eq_true rfl, Nat.le_of_ble_eq_true rfl⟩ hK (hP.sub (ws' := mwl Z g M') [25, 26, 27, 28, 29] rfl) (hD.sub (ws' := mwl Z g M') [25, 26, 27, 28, 29] (by decide) rfl) rfl rfl rfl rfl hl.1 rfl (Nat.le_of_ble_eq_true rfl) dL_law_886 ⟨by show _ ≤ 601024; omega, by show _ ≤ 7293033; omega⟩) hP hS hA (fun H locs hP hS => ?_)
        refine lv_iload hx hb dL_law_889 (lv_at hl 1 rfl) ?_
        refine lv_icmp_eq (tgt := 896) hx hb dL_law_891 (by decide) (fun _ => ?_) (fun c2 => absurd h0 c2)
        refine lv_iload hx hb dL_law_896 (lv_at hl 1 rfl) ?_
        refine lv_if_ne (tgt := 913) hx hb dL_law_898 (by decide) (fun _ => ?_) (fun c3 => absurd c3 hE0)
        refine lv_goto (tgt := 1039) hx hb dL_law_913 (by decide) ?_
        exact hbk S T M' f H locs d0 _ _ ls hR1 hP hD hS hd0 (lv_sub hl [2, 3, 4, 5, 6] rfl) (by omega) (by omega)
    by_cases hk13 : k15 = 13
    · subst hk13
      refine lv_tableIn (tgt := 916) (off := 877) hx hb dL_law_39 (by rw [ekt]; decide) (by rw [ekt]; decide) rfl (by decide) ?_
      rcases s14 (xs (x4 + 1).toNatClampNeg) (xs (x4 + 2).toNatClampNeg) with h9 | h9
      · obtain ⟨r, S', T', M', hx1, hy1, h0, hR1⟩ := h9
        refine lv_aload_n hx hb dL_law_916 rfl (lv_at hl 1 rfl) ?_
        refine lv_aload_n hx hb dL_law_917 rfl (lv_at hl 0 rfl) ?_
        refine lv_iload hx hb dL_law_918 (lv_at hl 4 rfl) ?_
        refine lv_iconst (v := 1) hx hb dL_law_920 (by decide) ?_
        refine lv_iadd hx hb dL_law_921 ?_
        refine va_sld hx hb hX hbl hbA hS hi1 dL_law_922 ?_
        refine lv_aload_n hx hb dL_law_923 rfl (lv_at hl 0 rfl) ?_
        refine lv_iload hx hb dL_law_924 (lv_at hl 4 rfl) ?_
        refine lv_iconst (v := 2) hx hb dL_law_926 (by decide) ?_
        refine lv_iadd hx hb dL_law_927 ?_
        refine va_sld hx hb hX hbl hbA hS hi2 dL_law_928 ?_
        refine lv_aload_n hx hb dL_law_929 rfl (lv_at hl 3 rfl) ?_
        refine zc_mi zI_lw (z_SW (As := [.ref o, .int (xs (x4 + 1).toNatClampNeg), .int (xs (x4 + 2).toNatClampNeg), .ref q]) (rest := []) yE_ok hE hS hA ⟨hx, hb, hml, hown, hts⟩ (ok_L_foresee l D Z o a b2 S T q f (xs (x4 + 1).toNatClampNeg) (xs (x4 + 2).toNatClampNeg) r S' T' hx1) gL_law_L_foresee rfl rfl rfl hds_L_foresee ⟨Nat.le_of_ble_eq_true rfl, Nat.le_of_ble_eq_true rfl⟩ hK (hP.sub (ws' := olw Z o a b2 S T q f) [0, 1, 2, 3, 4, 5, 6, 7, 8, 9, 10, 11, 12, 13, 14, 15, 16, 17, 18, 19, 20, 21, 22, 23, 24, 30] rfl) (hD.sub (ws' := olw Z o a b2 S T q f) [0, 1, 2, 3, 4, 5, 6, 7, 8, 9, 10, 11, 12, 13, 14, 15, 16, 17, 18, 19, 20, 21, 22, 23, 24, 30] (by decide) rfl) rfl hl.1 rfl (Nat.le_of_ble_eq_true rfl) dL_law_930 ⟨by show _ ≤ 601024; omega, by show _ ≤ 7293033; omega⟩) hP hD hS hA (fun H locs hP hD hS => ?_)
        refine lv_istore (lv' := [(5, .int 0), (0, .ref b), (1, .ref o), (2, .ref (g 0)), (3, .ref q), (4, .int x4)]) hx hb dL_law_933 hl (by decide) rfl (fun ls hl => ?_)
        refine lv_aload_n hx hb dL_law_935 rfl (lv_at hl 3 rfl) ?_
        refine lv_aload_n hx hb dL_law_936 rfl (lv_at hl 1 rfl) ?_
        refine lv_iload hx hb dL_law_937 (lv_at hl 5 rfl) ?_
        refine lv_iconst (v := 1) hx hb dL_law_939 (by decide) ?_
        refine lv_iadd hx hb dL_law_940 ?_
        refine va_sld hx hb hX hbl hbA hS hi1 dL_law_941 ?_
        refine lv_aload_n hx hb dL_law_942 rfl (lv_at hl 1 rfl) ?_
        refine lv_iload hx hb dL_law_943 (lv_at hl 5 rfl) ?_
        refine lv_iconst (v := 2) hx hb dL_law_945 (by decide) ?_
        refine lv_iadd hx hb dL_law_946 ?_
        refine va_sld hx hb hX hbl hbA hS hi2 dL_law_947 ?_
        refine zc_mi zI_lm (z_VG (As := [.int (xs (x4 + 1).toNatClampNeg), .int (xs (x4 + 2).toNatClampNeg)]) (rest := []) (q0 := 0) (ci := 2) mE_ok hE2 hS hA ⟨hx, hb, hml, hown, hts⟩ (m_X2_foresee l D Z g M (xs (x4 + 1).toNatClampNeg) (xs (x4 + 2).toNatClampNeg) M' r hy1) gL_law_X2_foresee rfl rfl rfl hdv_X2_foresee ⟨Nat.le_of_ble_eq_true rfl, Nat.le_of_ble_eq_true rfl⟩ hK (hP.sub (ws' := mwl Z g M) [25, 26, 27, 28, 29] rfl) (hD.sub (ws' := mwl Z g M) [25, 26, 27, 28, 29] (by decide) rfl) rfl rfl rfl rfl hl.1 rfl (Nat.le_of_ble_eq_true rfl) dL_law_948 ⟨by show _ ≤ 601024; omega, by show _ ≤ 7293033; omega⟩) hP hD hS hA (fun H locs hP hD hS => ?_)
        refine lv_istore (lv' := [(6, .int r), (5, .int 0), (0, .ref b), (1, .ref o), (2, .ref (g 0)), (3, .ref q), (4, .int x4)]) hx hb dL_law_951 hl (by decide) rfl (fun ls hl => ?_)
        refine lv_aload_n hx hb dL_law_953 rfl (lv_at hl 4 rfl) ?_
        refine zc_i (z_VD (As := []) (rest := []) (q0 := 0) (ci := 2) ⟨hx, hb, hml, hown, hts⟩ (m_X2_thrown l D Z g M' (M'.1 0) rfl) gL_law_X2_thrown rfl rfl rfl hdv_X2_thrown ⟨Nat.le_of_ble_eq_true rfl, Nat.le_of_ble_eq_true rfl⟩ hK (hP.sub (ws' := mwl Z g M') [25, 26, 27, 28, 29] rfl) (hD.sub (ws' := mwl Z g M') [25, 26, 27, 28, 29] (by decide) rfl) rfl rfl rfl rfl hl.1 rfl (Nat.le_of_ble_eq_true rfl) dL_law_954 ⟨by show _ ≤ 601024; omega, by show _ ≤ 7293033; omega⟩) hP hS hA (fun H locs hP hS => ?_)
        refine lv_iload hx hb dL_law_957 (lv_at hl 1 rfl) ?_
        refine lv_icmp_eq (tgt := 964) hx hb dL_law_959 (by decide) (fun _ => ?_) (fun c2 => absurd h0 c2)
        refine lv_iload hx hb dL_law_964 (lv_at hl 1 rfl) ?_
        refine lv_if_ne (tgt := 981) hx hb dL_law_966 (by decide) (fun c3 => absurd rfl c3) (fun _ => ?_)
        refine lv_aload_n hx hb dL_law_969 rfl (lv_at hl 5 rfl) ?_
        refine lv_iconst (v := 0) hx hb dL_law_970 (by decide) ?_
        refine va_lald hx hb hK hP 30 1 rfl rfl (vp_in_lit (by decide)) dL_law_971 ?_
        refine lv_iload hx hb dL_law_972 (lv_at hl 0 rfl) ?_
        refine lv_i2l hx hb dL_law_974 rfl ?_
        refine W.lcmp hx hb dL_law_975 ?_
        refine lv_if_eq (tgt := 981) hx hb dL_law_976 (by decide) (fun _ => ?_) (fun c4 => absurd ((lg_cmp_eq _ _).mpr rfl) c4)
        refine lv_goto (tgt := 1039) hx hb dL_law_981 (by decide) ?_
        exact hbk S' T' M' (vp_updL f 0 r.toInt64) H locs d0 _ _ ls hR1 hP hD hS hd0 (lv_sub hl [2, 3, 4, 5, 6] rfl) (by omega) (by omega)
      · obtain ⟨E, bb, M', hx1, hy1, h0, hE0, hR1⟩ := h9
        refine lv_aload_n hx hb dL_law_916 rfl (lv_at hl 1 rfl) ?_
        refine lv_aload_n hx hb dL_law_917 rfl (lv_at hl 0 rfl) ?_
        refine lv_iload hx hb dL_law_918 (lv_at hl 4 rfl) ?_
        refine lv_iconst (v := 1) hx hb dL_law_920 (by decide) ?_
        refine lv_iadd hx hb dL_law_921 ?_
        refine va_sld hx hb hX hbl hbA hS hi1 dL_law_922 ?_
        refine lv_aload_n hx hb dL_law_923 rfl (lv_at hl 0 rfl) ?_
        refine lv_iload hx hb dL_law_924 (lv_at hl 4 rfl) ?_
        refine lv_iconst (v := 2) hx hb dL_law_926 (by decide) ?_
        refine lv_iadd hx hb dL_law_927 ?_
        refine va_sld hx hb hX hbl hbA hS hi2 dL_law_928 ?_
        refine lv_aload_n hx hb dL_law_929 rfl (lv_at hl 3 rfl) ?_
        refine zc_mi zI_lw (z_SW (As := [.ref o, .int (xs (x4 + 1).toNatClampNeg), .int (xs (x4 + 2).toNatClampNeg), .ref q]) (rest := []) yE_ok hE hS hA ⟨hx, hb, hml, hown, hts⟩ (er_L_foresee l htr D Z o a b2 S T q f (xs (x4 + 1).toNatClampNeg) (xs (x4 + 2).toNatClampNeg) E (cdAI E) hx1 (cdAI_c hE0)) gL_law_L_foresee rfl rfl rfl hds_L_foresee ⟨Nat.le_of_ble_eq_true rfl, Nat.le_of_ble_eq_true rfl⟩ hK (hP.sub (ws' := olw Z o a b2 S T q f) [0, 1, 2, 3, 4, 5, 6, 7, 8, 9, 10, 11, 12, 13, 14, 15, 16, 17, 18, 19, 20, 21, 22, 23, 24, 30] rfl) (hD.sub (ws' := olw Z o a b2 S T q f) [0, 1, 2, 3, 4, 5, 6, 7, 8, 9, 10, 11, 12, 13, 14, 15, 16, 17, 18, 19, 20, 21, 22, 23, 24, 30] (by decide) rfl) rfl hl.1 rfl (Nat.le_of_ble_eq_true rfl) dL_law_930 ⟨by show _ ≤ 601024; omega, by show _ ≤ 7293033; omega⟩) hP hD hS hA (fun H locs hP hD hS => ?_)
        refine lv_istore (lv' := [(5, .int (cdAI E)), (0, .ref b), (1, .ref o), (2, .ref (g 0)), (3, .ref q), (4, .int x4)]) hx hb dL_law_933 hl (by decide) rfl (fun ls hl => ?_)
        refine lv_aload_n hx hb dL_law_935 rfl (lv_at hl 3 rfl) ?_
        refine lv_aload_n hx hb dL_law_936 rfl (lv_at hl 1 rfl) ?_
        refine lv_iload hx hb dL_law_937 (lv_at hl 5 rfl) ?_
        refine lv_iconst (v := 1) hx hb dL_law_939 (by decide) ?_
        refine lv_iadd hx hb dL_law_940 ?_
        refine va_sld hx hb hX hbl hbA hS hi1 dL_law_941 ?_
        refine lv_aload_n hx hb dL_law_942 rfl (lv_at hl 1 rfl) ?_
        refine lv_iload hx hb dL_law_943 (lv_at hl 5 rfl) ?_
        refine lv_iconst (v := 2) hx hb dL_law_945 (by decide) ?_
        refine lv_iadd hx hb dL_law_946 ?_
        refine va_sld hx hb hX hbl hbA hS hi2 dL_law_947 ?_
        refine zc_mi zI_lm (z_VG (As := [.int (xs (x4 + 1).toNatClampNeg), .int (xs (x4 + 2).toNatClampNeg)]) (rest := []) (q0 := 0) (ci := 2) mE_ok hE2 hS hA ⟨hx, hb, hml, hown, hts⟩ (m_X2_foresee l D Z g M (xs (x4 + 1).toNatClampNeg) (xs (x4 + 2).toNatClampNeg) M' bb hy1) gL_law_X2_foresee rfl rfl rfl hdv_X2_foresee ⟨Nat.le_of_ble_eq_true rfl, Nat.le_of_ble_eq_true rfl⟩ hK (hP.sub (ws' := mwl Z g M) [25, 26, 27, 28, 29] rfl) (hD.sub (ws' := mwl Z g M) [25, 26, 27, 28, 29] (by decide) rfl) rfl rfl rfl rfl hl.1 rfl (Nat.le_of_ble_eq_true rfl) dL_law_948 ⟨by show _ ≤ 601024; omega, by show _ ≤ 7293033; omega⟩) hP hD hS hA (fun H locs hP hD hS => ?_)
        refine lv_istore (lv' := [(6, .int bb), (5, .int (cdAI E)), (0, .ref b), (1, .ref o), (2, .ref (g 0)), (3, .ref q), (4, .int x4)]) hx hb dL_law_951 hl (by decide) rfl (fun ls hl => ?_)
        refine lv_aload_n hx hb dL_law_953 rfl (lv_at hl 4 rfl) ?_
        refine zc_i (z_VD (As := []) (rest := []) (q0 := 0) (ci := 2) ⟨hx, hb, hml, hown, hts⟩ (m_X2_thrown l D Z g M' (M'.1 0) rfl) gL_law_X2_thrown rfl rfl rfl hdv_X2_thrown ⟨Nat.le_of_ble_eq_true rfl, Nat.le_of_ble_eq_true rfl⟩ hK (hP.sub (ws' := mwl Z g M') [25, 26, 27, 28, 29] rfl) (hD.sub (ws' := mwl Z g M') [25, 26, 27, 28, 29] (by decide) rfl) rfl rfl rfl rfl hl.1 rfl (Nat.le_of_ble_eq_true rfl) dL_law_954 ⟨by show _ ≤ 601024; omega, by show _ ≤ 7293033; omega⟩) hP hS hA (fun H locs hP hS => ?_)
        refine lv_iload hx hb dL_law_957 (lv_at hl 1 rfl) ?_
        refine lv_icmp_eq (tgt := 964) hx hb dL_law_959 (by decide) (fun _ => ?_) (fun c2 => absurd h0 c2)
        refine lv_iload hx hb dL_law_964 (lv_at hl 1 rfl) ?_
        refine lv_if_ne (tgt := 981) hx hb dL_law_966 (by decide) (fun _ => ?_) (fun c3 => absurd c3 hE0)
        refine lv_goto (tgt := 1039) hx hb dL_law_981 (by decide) ?_
        exact hbk S T M' f H locs d0 _ _ ls hR1 hP hD hS hd0 (lv_sub hl [2, 3, 4, 5, 6] rfl) (by omega) (by omega)
    by_cases hk14 : k15 = 14
    · subst hk14
      refine lv_tableIn (tgt := 984) (off := 945) hx hb dL_law_39 (by rw [ekt]; decide) (by rw [ekt]; decide) rfl (by decide) ?_
      obtain ⟨v, M', hx1, hy1, hR1⟩ := s15
      refine lv_aload_n hx hb dL_law_984 rfl (lv_at hl 1 rfl) ?_
      have hPc := hP.sub (ws' := owl Z o a b2 S T) [0, 1, 2, 3, 4, 5, 6, 7, 8, 9, 10, 11, 12, 13, 14, 15, 16, 17, 18, 19, 20, 21, 22, 23, 24] rfl
      have hDc := hD.sub (ws' := owl Z o a b2 S T) [0, 1, 2, 3, 4, 5, 6, 7, 8, 9, 10, 11, 12, 13, 14, 15, 16, 17, 18, 19, 20, 21, 22, 23, 24] (by decide) rfl
      refine va_calldD hd0 (va_runV_D (As := []) (rest := []) ⟨hx, hb, hml, hown, hts⟩ (ok_X1_mean l D Z o a b2 S T v hx1 H.size) (cwV 0 hts gL_law_X1_mean rfl rfl rfl hdv_X1_mean ⟨Nat.le_of_ble_eq_true rfl, Nat.le_of_ble_eq_true rfl⟩) ⟨g_blind xE_ok, va_recv hK hPc (ci := 1) (q0 := 0) rfl rfl, g_pre xE_ok hE.1 hS (z_hF hDc hS hA) hK hPc hDc⟩ rfl rfl hl.1 rfl (lv_room (Nat.le_of_ble_eq_true rfl)) dL_law_985 ⟨by show _ ≤ 601024; omega, by show _ ≤ 7293033; omega⟩) hS (fun q h1 h2 => absurd h2 (Nat.not_le.mpr h1)) (fun q h => Nat.le_trans hS.1 h) (fun r u t H1 locs ht _ hal _ _ hk hS d1 hd1 => ?_)
      have hP := hP.kept (H1 := H1) (fun k q hq => hk q.1 (hP k q hq).lt (Nat.not_le.mpr (hP k q hq).lt))
      generalize H1 = H at hP hS ⊢
      have hts := dr_words hts1 d1
      have hown : (s.setDrawn d1).vm.findClass RL = some m.cls := hown
      have hK : zK D Z (s.setDrawn d1) := hK
      refine lv_dstore (lv' := [(5, .double r), (0, .ref b), (1, .ref o), (2, .ref (g 0)), (3, .ref q), (4, .int x4)]) hx hb dL_law_988 hl (by decide) rfl (fun ls hl => ?_)
      refine lv_aload_n hx hb dL_law_990 rfl (lv_at hl 3 rfl) ?_
      have hPc := hP.sub (ws' := mwl Z g M) [25, 26, 27, 28, 29] rfl
      have hDc := hD.sub (ws' := mwl Z g M) [25, 26, 27, 28, 29] (by decide) rfl
      have hFc := z_hF hDc hS hA
      refine va_calldD hd1 (va_runV_D (As := []) (rest := []) ⟨hx, hb, hml, hown, hts⟩ (m_X2_mean l D Z g M M' v hy1 H.size) (cwV 0 hts gL_law_X2_mean rfl rfl rfl hdv_X2_mean ⟨Nat.le_of_ble_eq_true rfl, Nat.le_of_ble_eq_true rfl⟩) ⟨z_blind, va_recv hK hPc (ci := 2) (q0 := 0) rfl rfl, z_pre hK hPc hDc⟩ rfl rfl hl.1 rfl (lv_room (Nat.le_of_ble_eq_true rfl)) dL_law_991 ⟨by show _ ≤ 601024; omega, by show _ ≤ 7293033; omega⟩) hS (fun q _ h => hFc q h) hFc (fun r2 u t H1 locs ht _ hal2 hB _ hk hS d2 hd2 => ?_)
      obtain ⟨hP1, hD1⟩ := hB
      rw [ht] at hP1
      obtain ⟨hP, hD⟩ := z_back zI_lm hP hD hFc hk hP1 hD1
      generalize H1 = H at hP hS ⊢
      have hts := dr_words hts1 d2
      have hown : (s.setDrawn d2).vm.findClass RL = some m.cls := hown
      refine lv_dstore (lv' := [(7, .double r2), (5, .double r), (0, .ref b), (1, .ref o), (2, .ref (g 0)), (3, .ref q), (4, .int x4)]) hx hb dL_law_994 hl (by decide) rfl (fun ls hl => ?_)
      refine lv_dload hx hb dL_law_996 (lv_at hl 1 rfl) ?_
      refine lv_dload hx hb dL_law_998 (lv_at hl 0 rfl) ?_
      refine lv_dcmp hx hb dL_law_1000 ?_
      rcases al_two hal hal2 with ⟨hn1, hn2⟩ | ⟨he, hn1⟩
      · rw [dcmp_nan hn1]
        refine lv_if_eq (tgt := 1022) hx hb dL_law_1001 (by decide) (fun c2 => absurd c2 (by decide)) (fun _ => ?_)
        refine lv_dload hx hb dL_law_1004 (lv_at hl 1 rfl) ?_
        refine lv_dload hx hb dL_law_1006 (lv_at hl 1 rfl) ?_
        refine lv_dcmp hx hb dL_law_1008 ?_
        rw [dcmp_nan hn1]
        refine lv_if_eq (tgt := 1020) hx hb dL_law_1009 (by decide) (fun c2 => absurd c2 (by decide)) (fun _ => ?_)
        refine lv_dload hx hb dL_law_1012 (lv_at hl 0 rfl) ?_
        refine lv_dload hx hb dL_law_1014 (lv_at hl 0 rfl) ?_
        refine lv_dcmp hx hb dL_law_1016 ?_
        rw [dcmp_nan hn2]
        refine lv_if_ne (tgt := 1022) hx hb dL_law_1017 (by decide) (fun _ => ?_) (fun c2 => absurd c2 (by decide))
        refine lv_goto (tgt := 1039) hx hb dL_law_1022 (by decide) ?_
        exact hbk S T M' f H locs d2 _ _ ls hR1 hP hD hS hd2 (lv_sub hl [2, 3, 4, 5, 6] rfl) (by omega) (by omega)
      · subst he
        rw [dcmp_same hn1]
        refine lv_if_eq (tgt := 1022) hx hb dL_law_1001 (by decide) (fun _ => ?_) (fun c2 => absurd (by decide) c2)
        refine lv_goto (tgt := 1039) hx hb dL_law_1022 (by decide) ?_
        exact hbk S T M' f H locs d2 _ _ ls hR1 hP hD hS hd2 (lv_sub hl [2, 3, 4, 5, 6] rfl) (by omega) (by omega)
    by_cases hk15 : k15 = 15
    · subst hk15
      refine lv_tableIn (tgt := 1025) (off := 986) hx hb dL_law_39 (by rw [ekt]; decide) (by rw [ekt]; decide) rfl (by decide) ?_
      obtain ⟨v, M', hx1, hy1, hR1⟩ := s16
      refine lv_aload_n hx hb dL_law_1025 rfl (lv_at hl 1 rfl) ?_
      refine zc_l (z_VG (As := []) (rest := []) (q0 := 0) (ci := 1) xE_ok hE.1 hS hA ⟨hx, hb, hml, hown, hts⟩ (ok_X1_digest l D Z o a b2 S T v hx1) gL_law_X1_digest rfl rfl rfl hdv_X1_digest ⟨Nat.le_of_ble_eq_true rfl, Nat.le_of_ble_eq_true rfl⟩ hK (hP.sub (ws' := owl Z o a b2 S T) [0, 1, 2, 3, 4, 5, 6, 7, 8, 9, 10, 11, 12, 13, 14, 15, 16, 17, 18, 19, 20, 21, 22, 23, 24] rfl) (hD.sub (ws' := owl Z o a b2 S T) [0, 1, 2, 3, 4, 5, 6, 7, 8, 9, 10, 11, 12, 13, 14, 15, 16, 17, 18, 19, 20, 21, 22, 23, 24] (by decide) rfl) rfl rfl rfl rfl hl.1 rfl (Nat.le_of_ble_eq_true rfl) dL_law_1026 ⟨by show _ ≤ 601024; omega, by show _ ≤ 7293033; omega⟩) hP hS hA (fun H locs hP hS => ?_)
      refine lv_aload_n hx hb dL_law_1029 rfl (lv_at hl 2 rfl) ?_
      refine zc_ml zI_lm (z_VD (As := []) (rest := [.long v]) (q0 := 0) (ci := 2) ⟨hx, hb, hml, hown, hts⟩ (m_X2_digest l D Z g M M' v hy1) gL_law_X2_digest rfl rfl rfl hdv_X2_digest ⟨Nat.le_of_ble_eq_true rfl, Nat.le_of_ble_eq_true rfl⟩ hK (hP.sub (ws' := mwl Z g M) [25, 26, 27, 28, 29] rfl) (hD.sub (ws' := mwl Z g M) [25, 26, 27, 28, 29] (by decide) rfl) rfl rfl rfl rfl hl.1 rfl (Nat.le_of_ble_eq_true rfl) dL_law_1030 ⟨by show _ ≤ 601024; omega, by show _ ≤ 7293033; omega⟩) hP hD hS hA (fun H locs hP hD hS => ?_)
      refine W.lcmp hx hb dL_law_1033 ?_
      refine lv_if_eq (tgt := 1039) hx hb dL_law_1034 (by decide) (fun _ => ?_) (fun c4 => absurd ((lg_cmp_eq _ _).mpr rfl) c4)
      exact hbk S T M' f H locs d0 _ _ ls hR1 hP hD hS hd0 hl (by omega) (by omega)
    exact absurd hk15 (by omega)
