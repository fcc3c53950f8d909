-- a new pod
section SPDN
variable {Φ : FR} {Z : Nat → ClassId} {h0 h : PH} {t : Nat} {σ : SG} {α : AS} {K : PH → Prop} {x1 x2 : Int32}
def gD (σ : SG) (n q b : Nat) (v1 v2 : Int32) : SG := (fun k => if k = 1 then n + 1 else if k = 5 then q else sN σ k, fun k j => if k = 0 ∧ j = n then b else sB σ k j, fun k j => if 3 ≤ k ∧ j = n then (if k = 3 then -1 else if k = 4 then v1 else if k = 5 then v2 else if k = 6 then -1 else 0) else sV σ k j, sL σ)
theorem in_neq {a : ClassId × vp_A} {c : Nat × List Value} : (Sum.inl a : va_E) ≠ Sum.inr c := fun z => by cases z
theorem gD_V {n q b k j : Nat} {v1 v2 : Int32} : sV (gD σ n q b v1 v2) k j = if 3 ≤ k ∧ j = n then (if k = 3 then -1 else if k = 4 then v1 else if k = 5 then v2 else if k = 6 then -1 else 0) else sV σ k j := rfl
theorem gD_B {n q b k j : Nat} {v1 v2 : Int32} : sB (gD σ n q b v1 v2) k j = if k = 0 ∧ j = n then b else sB σ k j := rfl
theorem SD_fin {n s b q : Nat} {f : Nat → Option Nat} (hA : AI α) (H0 : HR Φ Z h0 t σ) (S : SR α σ) (E : EXT h0 h) (hn : sN σ 1 = n) (hn12 : n < 12) (hs : s < 6) (hb : fb α s 0 = some b)
    (aq : at_ h q (.inl (Z 1, vQ (n + 1) f))) (nq : q ∉ h0.1) (gq : ∀ k, k < n → f k = some (sB σ 0 k)) (hK : ∀ b37 h1, HR Φ Z h1 t (gD σ n q b37 (nI s) (nI b)) → K h1) :
    nO h 2 [.int 0, .int 0, .int 0, .int 0, .int 0, .int 0, .int 0] fun b37 h38 => w_X2_init Z b37 (fun h39 => sQ1 Z h39 q (nI n) b37 fun h40 => ldQ Z h40 1 q (nI n) fun b41 => pV h40 2 1 b41 (.int (nI s)) fun h42 => ldQ Z h42 1 q (nI n) fun b43 => rc3 h42 t ∧ w_X3_free Z t (nI s) (fun v45 h44 => pV h44 2 2 b43 (.int v45) fun h46 => pV h46 3 3 t (.ref q) fun h47 => K h47) h42) h38 := by
  intro p hp
  generalize hHA : had h p (.inr (2, [.int 0, .int 0, .int 0, .int 0, .int 0, .int 0, .int 0])) = hA1
  have EA : EXT h0 hA1 := by rw [← hHA]; exact EXT_ad E hp
  have ap : at_ hA1 p (.inr (2, [.int 0, .int 0, .int 0, .int 0, .int 0, .int 0, .int 0])) := by rw [← hHA]; exact at_adS
  have aq1 : at_ hA1 q (.inl (Z 1, vQ (n + 1) f)) := by rw [← hHA]; exact at_ad aq hp
  have np : p ∉ h0.1 := fun z => hp (E p z).1
  unfold w_X2_init
  refine ⟨_, ap.1, ap.2, by decide, ?_⟩
  generalize hHB : hup hA1 p (.inr (2, [Value.int 0, .int 0, .int 0, .int 0, .int 0, .int 0, .int 0].set 0 (.int (-1)))) = hB
  have EB : EXT h0 hB := by rw [← hHB]; exact EXT_up EA np
  have bp : at_ hB p (.inr (2, [.int (-1), .int 0, .int 0, .int 0, .int 0, .int 0, .int 0])) := by rw [← hHB]; exact at_upS ap
  have bq : at_ hB q (.inl (Z 1, vQ (n + 1) f)) := by rw [← hHB]; exact at_up aq1 (at_ne aq1 ap in_neq)
  refine ⟨_, bp.1, bp.2, by show 3 < 7; omega, ?_⟩
  generalize hHC : hup hB p (.inr (2, [Value.int (-1), .int 0, .int 0, .int 0, .int 0, .int 0, .int 0].set 3 (.int (-1)))) = hC
  have EC : EXT h0 hC := by rw [← hHC]; exact EXT_up EB np
  have cp : at_ hC p (.inr (2, [.int (-1), .int 0, .int 0, .int (-1), .int 0, .int 0, .int 0])) := by rw [← hHC]; exact at_upS bp
  have cq : at_ hC q (.inl (Z 1, vQ (n + 1) f)) := by rw [← hHC]; exact at_up bq (at_ne bq bp in_neq)
  refine ⟨_, f, cq.1, cq.2, in_lt (by omega) (by omega), ⟨_, cp.1, cp.2⟩, ?_⟩
  rw [nI_clamp (by omega)]
  generalize hHD : hup hC q (.inl (Z 1, vQ (n + 1) (va_up f n (some p)))) = hD
  have ED : EXT h0 hD := by rw [← hHD]; exact EXT_up EC nq
  have dq : at_ hD q (.inl (Z 1, vQ (n + 1) (va_up f n (some p)))) := by rw [← hHD]; exact at_upS cq
  have dp : at_ hD p (.inr (2, [.int (-1), .int 0, .int 0, .int (-1), .int 0, .int 0, .int 0])) := by rw [← hHD]; exact at_up cp (at_ne cp cq (Ne.symm in_neq))
  refine ⟨_, _, p, dq.1, dq.2, in_lt (by omega) (by omega), by rw [nI_clamp (by omega), va_up_self], ?_⟩
  refine ⟨_, dp.1, dp.2, by show 1 < 7; omega, ?_⟩
  generalize hHE : hup hD p (.inr (2, [Value.int (-1), .int 0, .int 0, .int (-1), .int 0, .int 0, .int 0].set 1 (.int (nI s)))) = hE
  have EE : EXT h0 hE := by rw [← hHE]; exact EXT_up ED np
  have ep : at_ hE p (.inr (2, [.int (-1), .int (nI s), .int 0, .int (-1), .int 0, .int 0, .int 0])) := by rw [← hHE]; exact at_upS dp
  have eq : at_ hE q (.inl (Z 1, vQ (n + 1) (va_up f n (some p)))) := by rw [← hHE]; exact at_up dq (at_ne dq dp in_neq)
  refine ⟨_, _, p, eq.1, eq.2, in_lt (by omega) (by omega), by rw [nI_clamp (by omega), va_up_self], ?_⟩
  have HE := HR_ext EE H0
  refine ⟨rc3_of HE, S_free hA HE S hs ?_⟩
  rw [hb, oI_some]
  refine ⟨_, ep.1, ep.2, by show 2 < 7; omega, ?_⟩
  generalize hHF : hup hE p (.inr (2, [Value.int (-1), .int (nI s), .int 0, .int (-1), .int 0, .int 0, .int 0].set 2 (.int (nI b)))) = hF
  have EF : EXT h0 hF := by rw [← hHF]; exact EXT_up EE np
  have fp : at_ hF p (.inr (2, [.int (-1), .int (nI s), .int (nI b), .int (-1), .int 0, .int 0, .int 0])) := by rw [← hHF]; exact at_upS ep
  have fq : at_ hF q (.inl (Z 1, vQ (n + 1) (va_up f n (some p)))) := by rw [← hHF]; exact at_up eq (at_ne eq ep in_neq)
  obtain ⟨e1, e2, e4, ⟨k5, e5, g5⟩, ⟨k6, e6, g6⟩, e7, e8, e9, e10, e11, e12, e13, e14⟩ := H0
  have ft := EXT_at EF e1
  refine ⟨_, ft.1, ft.2, by show 3 < 8; omega, ?_⟩
  have x3 : ∀ {a : Nat} {e : va_E}, at_ hF a e → (∀ vs, e ≠ .inr (3, vs)) → at_ (hup hF t (.inr (3, (simF σ).set 3 (.ref q)))) a e := fun k hne => at_up k (at_ne k ft (hne _))
  have xi : ∀ {a : ClassId × vp_A} {vs : List Value}, (Sum.inl a : va_E) ≠ .inr (3, vs) := fun z => by cases z
  have xo : ∀ {a : Nat} {e : va_E}, at_ h0 a e → (∀ vs, e ≠ .inr (3, vs)) → at_ (hup hF t (.inr (3, (simF σ).set 3 (.ref q)))) a e := fun k hne => x3 (EXT_at EF k) hne
  have inh : ∀ {a : Nat} {e : va_E}, at_ h0 a e → ∀ b, b ∉ h0.1 → a ≠ b := fun k b hb z => hb (z ▸ k.1)
  have v1 : sV (gD σ n q p (nI s) (nI b)) 1 = sV σ 1 := funext fun j => by rw [gD_V, if_neg (fun z => absurd z.1 (by decide))]
  have v2 : sV (gD σ n q p (nI s) (nI b)) 2 = sV σ 2 := funext fun j => by rw [gD_V, if_neg (fun z => absurd z.1 (by decide))]
  have v0 : ∀ j, sV (gD σ n q p (nI s) (nI b)) 0 j = sV σ 0 j := fun j => by rw [gD_V, if_neg (fun z => absurd z.1 (by decide))]
  have b1 : ∀ j, sB (gD σ n q p (nI s) (nI b)) 1 j = sB σ 1 j := fun j => by rw [gD_B, if_neg (fun z => absurd z.1 (by decide))]
  have b0 : ∀ j, sB (gD σ n q p (nI s) (nI b)) 0 j = if j = n then p else sB σ 0 j := fun j => by
    show (if 0 = 0 ∧ j = n then p else sB σ 0 j) = _
    by_cases c : j = n
    · rw [if_pos ⟨rfl, c⟩, if_pos c]
    · rw [if_neg (fun z => c z.2), if_neg c]
  have pn : podF (gD σ n q p (nI s) (nI b)) n = [.int (-1), .int (nI s), .int (nI b), .int (-1), .int 0, .int 0, .int 0] := by
    have vv : ∀ k, 3 ≤ k → sV (gD σ n q p (nI s) (nI b)) k n = (if k = 3 then -1 else if k = 4 then nI s else if k = 5 then nI b else if k = 6 then -1 else 0) := fun k hk => by rw [gD_V, if_pos ⟨hk, rfl⟩]
    unfold podF
    rw [vv 3 (by omega), vv 4 (by omega), vv 5 (by omega), vv 6 (by omega), vv 7 (by omega), vv 8 (by omega), vv 9 (by omega)]
    rfl
  have po : ∀ j, j ≠ n → podF (gD σ n q p (nI s) (nI b)) j = podF σ j := fun j hj => by
    have vv : ∀ k, sV (gD σ n q p (nI s) (nI b)) k j = sV σ k j := fun k => by rw [gD_V, if_neg (fun z => hj z.2)]
    unfold podF
    rw [vv, vv, vv, vv, vv, vv, vv]
  have sf : simF (gD σ n q p (nI s) (nI b)) = (simF σ).set 3 (.ref q) := by
    unfold simF
    rw [v0, v0, v0, v0]
    rfl
  refine hK p _ ⟨?_, ?_, ?_, ⟨k5, xo e5 (fun _ => xi), fun k hk => ?_⟩, ⟨_, x3 fq (fun _ => xi), fun j hj => ?_⟩, fun k hk => ?_, fun k hk i e hi => xo (e8 k hk i e hi) (fun _ => xi), fun j hj => ?_, fun j r hj hr hh => ?_, e11, ⟨e12.1, ?_, fun k hk => ?_⟩, e13, e14.1, ?_, e14.2.2.1, fun a ha => ⟨xo (e14.2.2.2 a ha).1 (fun _ => xi), (e14.2.2.2 a ha).2⟩⟩
  · rw [sf]; exact at_upS ft
  · rw [v1]; exact xo e2 (fun _ => xi)
  · rw [v2]; exact xo e4 (fun _ => xi)
  · rw [b1]; exact g5 k hk
  · have hj : j < n + 1 := hj
    rw [b0]
    by_cases c : j = n
    · rw [if_pos c, c, va_up_self]
    · rw [if_neg c, va_up_ne _ _ c]; exact gq j (by omega)
  · rw [b1]
    obtain ⟨g, y1, y2⟩ := e7 k hk
    exact ⟨g, xo y1 (fun _ => xi), y2⟩
  · have hj : j < n + 1 := hj
    rw [b0]
    by_cases c : j = n
    · rw [if_pos c, c, pn]; exact x3 fp (fun vs z => by cases z)
    · rw [if_neg c, po j c]; exact xo (e9 j (by omega)) (fun vs z => by cases z)
  · have hj : j < n + 1 := hj
    have hr : r < n + 1 := hr
    rw [b0, b0] at hh
    by_cases c : j = n <;> by_cases d : r = n
    · omega
    · rw [if_pos c, if_neg d] at hh
      exact absurd hh.symm (inh (e9 r (by omega)) p np)
    · rw [if_neg c, if_pos d] at hh
      exact absurd hh (inh (e9 j (by omega)) p np)
    · rw [if_neg c, if_neg d] at hh
      exact e10 j r (by omega) (by omega) hh
  · exact inh e5 q nq
  · rw [b1]; exact e12.2.2 k hk
  · show n + 1 ≤ 12; omega
theorem SD_loop {s b q N : Nat} {p2 : Int32} {C S T} (hA : AI α) (H0 : HR Φ Z h0 t σ) (Sr : SR α σ) (hN : sN σ 1 = N) (hn12 : N < 12) (hs : s < 6) (hb : fb α s 0 = some b) (nq : q ∉ h0.1)
    (hK : ∀ b37 h1, HR Φ Z h1 t (gD σ N q b37 (nI s) (nI b)) → okP3 (f_X1_pod S T (nI s)) fun v49 S50 T51 => if v49 = nI N then C 1 (S50, T51, h1) else C 0 (S50, T51, h1)) :
    ∀ k i n (h : PH) (f : Nat → Option Nat), i + k = N → k < n → EXT h0 h → at_ h q (.inl (Z 1, vQ (N + 1) f)) → (∀ k, k < i → f k = some (sB σ 0 k)) → w_L_act_L209 Z t p2 C n (nI N) (nI s) q (nI i) S T h := by
  intro k
  induction k with
  | zero =>
    intro i n h f h1 h2 E aq gq
    obtain ⟨n, rfl⟩ : ∃ m, n = m + 1 := ⟨n - 1, by omega⟩
    have hi : i = N := by omega
    subst hi
    rw [w_L_act_L209, if_pos (nI_le (Nat.le_refl _) (by omega))]
    exact SD_fin hA H0 Sr E hN hn12 hs hb aq nq gq hK
  | succ k ih =>
    intro i n h f h1 h2 E aq gq
    obtain ⟨n, rfl⟩ : ∃ m, n = m + 1 := ⟨n - 1, by omega⟩
    have hi : i < sN σ 1 := by omega
    rw [w_L_act_L209, if_neg (nI_ge (by omega) (by omega))]
    have H := HR_ext E H0
    refine H_pods H (H_p H hi ?_)
    have hp := H_pod H hi
    refine ⟨_, f, aq.1, aq.2, in_lt (by omega) (by omega), ⟨_, hp.1, hp.2⟩, ?_⟩
    rw [nI_clamp (by omega), nI_1]
    refine ih (i + 1) n _ (va_up f i (some (sB σ 0 i))) (by omega) (by omega) (EXT_up E nq) (at_upS aq) (fun k hk => ?_)
    by_cases c : k = i
    · rw [c, va_up_self]
    · rw [va_up_ne _ _ c]; exact gq k (by omega)
theorem SR_pod {s b q b37 : Nat} (hA : AI α) (S : SR α σ) (hs : s < 6) (hb : b < 3) (hc : oo α 1 (3 * s + b) = none) : SR (aN (aO α 1 (3 * s + b) (some (nn α 1))) 1 (nn α 1 + 1)) (gD σ (nn α 1) q b37 (nI s) (nI b)) := by
  have h12 := A_np hA
  obtain ⟨r0, r1, r2, r3, r4, r5, r6, r7, r8, r9, r10, r11, r12, r13⟩ := S
  have vl : ∀ k j, k < 3 → sV (gD σ (nn α 1) q b37 (nI s) (nI b)) k j = sV σ k j := fun k j hk => by rw [gD_V, if_neg (fun z => by omega)]
  have vo : ∀ k j, j ≠ nn α 1 → sV (gD σ (nn α 1) q b37 (nI s) (nI b)) k j = sV σ k j := fun k j hj => by rw [gD_V, if_neg (fun z => hj z.2)]
  have vn : ∀ k, 3 ≤ k → sV (gD σ (nn α 1) q b37 (nI s) (nI b)) k (nn α 1) = (if k = 3 then -1 else if k = 4 then nI s else if k = 5 then nI b else if k = 6 then -1 else 0) := fun k hk => by rw [gD_V, if_pos ⟨hk, rfl⟩]
  have ep : ∀ k, nn (aN (aO α 1 (3 * s + b) (some (nn α 1))) 1 (nn α 1 + 1)) (10 + k) = nn α (10 + k) := fun k => by rw [nn_aN, if_neg (by omega)]; rfl
  refine ⟨r0, rfl, (vl 0 0 (by decide)).trans r2, (vl 0 1 (by decide)).trans r3, (vl 0 2 (by decide)).trans r4, fun k hk => (vl 1 k (by decide)).trans ((r5 k hk).trans (congrArg nI (ep k).symm)), fun k hk => (vl 2 k (by decide)).trans (r6 k hk), r7, r8, fun p hp => ?_, fun p hp => ?_, fun p hp => ?_, fun p hp => ?_, fun p hp => ?_⟩
  · have hp : p < nn α 1 + 1 := hp
    by_cases c : p = nn α 1
    · rw [c, vn 6 (by decide)]
      cases e : oo α 2 (nn α 1) with
      | some g => have := (A_2 hA e).2; omega
      | none =>
        have : oo (aN (aO α 1 (3 * s + b) (some (nn α 1))) 1 (nn α 1 + 1)) 2 (nn α 1) = none := e
        rw [this]; rfl
    · rw [vo 6 p c]; exact r9 p (by omega)
  · have hp : p < nn α 1 + 1 := hp
    by_cases c : p = nn α 1
    · rw [c, vn 7 (by decide)]
      cases e : oo α 3 (nn α 1) with
      | some g => have := (A_3 hA e).2; omega
      | none =>
        have : oo (aN (aO α 1 (3 * s + b) (some (nn α 1))) 1 (nn α 1 + 1)) 3 (nn α 1) = none := e
        rw [this]; rfl
    · rw [vo 7 p c]; exact r10 p (by omega)
  · have hp : p < nn α 1 + 1 := hp
    by_cases c : p = nn α 1
    · rw [c, vn 8 (by decide)]
      exact (A_z hA (Nat.le_refl _)).1.symm
    · rw [vo 8 p c]; exact r11 p (by omega)
  · have hp : p < nn α 1 + 1 := hp
    by_cases c : p = nn α 1
    · rw [c, vn 9 (by decide)]
      exact (A_z hA (Nat.le_refl _)).2.symm
    · rw [vo 9 p c]; exact r12 p (by omega)
  · have hp : p < nn α 1 + 1 := hp
    by_cases c : p = nn α 1
    · subst c
      refine Or.inr ⟨s, b, hs, hb, ?_, vn 3 (by decide), vn 4 (by decide), vn 5 (by decide)⟩
      rw [oo_aN, oo_aO, if_pos ⟨rfl, rfl⟩]
    · rcases r13 p (by omega) with ⟨y, a1, a2, a3⟩ | ⟨s2, b2, a1, a2, a3, a4, a5, a6⟩
      · refine Or.inl ⟨y, a1, a2, (vo 3 p c).trans a3⟩
      · refine Or.inr ⟨s2, b2, a1, a2, ?_, (vo 3 p c).trans a4, (vo 4 p c).trans a5, (vo 5 p c).trans a6⟩
        rw [oo_aN, oo_aO]
        by_cases d : 3 * s2 + b2 = 3 * s + b
        · rw [d, hc] at a3; cases a3
        · rw [if_neg (fun z => d z.2)]; exact a3
end SPDN
