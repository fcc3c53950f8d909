-- building a station
def Z0 (α : AS) : Prop := ∀ s, nn α 0 ≤ s → ii α 0 s = 0
section SBLD
variable {Φ : FR} {Z : Nat → ClassId} {h0 h : PH} {t : Nat} {σ : SG} {α : AS} {K : PH → Prop} {x1 x2 : Int32}
def gB (σ : SG) (n b3 b5 b7 b11 : Nat) (f3 f5 : Nat → Int32) : SG := (fun k => if k = 0 then n + 1 else if k = 2 then b3 else if k = 3 then b7 else if k = 4 then b5 else sN σ k, fun k j => if k = 1 ∧ j = n then b11 else sB σ k j, fun k j => if k = 1 then f3 j else if k = 2 then f5 j else sV σ k j, fun s => if s = n then [] else sL σ s)
theorem SB_fin {n : Nat} {p1 : Int32} {b3 b5 b7 : Nat} {f3 f5 : Nat → Int32} {f7 : Nat → Option Nat} (H0 : HR Φ Z h0 t σ) (E : EXT h0 h) (hn : sN σ 0 = n) (hn6 : n < 6)
    (h3 : at_ h b3 (.inl (Z 0, n + 1, .inl f3))) (h5 : at_ h b5 (.inl (Z 0, n + 1, .inl f5))) (h7 : at_ h b7 (.inl (Z 3, vQ (n + 1) f7))) (n3 : b3 ∉ h0.1) (n5 : b5 ∉ h0.1) (n7 : b7 ∉ h0.1) (ne : b3 ≠ b5)
    (g7 : ∀ k, k < n → f7 k = some (sB σ 1 k)) (hK : ∀ b11 h1, HR Φ Z h1 t (gB σ n b3 b5 b7 b11 (upd f3 n p1) f5) → K h1) :
    sA Z h b3 (nI n) p1 fun h10 => nQ Z h10 2 0 0 fun b11 h12 => sQ3 Z h12 b7 (nI n) b11 fun h13 => pV h13 3 0 t (.ref b3) fun h14 => pV h14 3 2 t (.ref b5) fun h15 => pV h15 3 1 t (.ref b7) fun h16 => K h16 := by
  refine ⟨_, f3, h3.1, h3.2, in_lt (by omega) (by omega), ?_⟩
  rw [nI_clamp (by omega)]
  refine ⟨by decide, by decide, fun q hq => ?_⟩
  have z0 : (0 : Int32).toNatClampNeg = 0 := by decide
  rw [z0]
  generalize hHA : hup h b3 (.inl (Z 0, n + 1, .inl (upd f3 n p1))) = hA at hq ⊢
  have EA : EXT h0 hA := by rw [← hHA]; exact EXT_up E n3
  have a3 : at_ hA b3 (.inl (Z 0, n + 1, .inl (upd f3 n p1))) := by rw [← hHA]; exact at_upS h3
  have a5 : at_ hA b5 (.inl (Z 0, n + 1, .inl f5)) := by rw [← hHA]; exact at_up h5 (Ne.symm ne)
  have a7 : at_ hA b7 (.inl (Z 3, vQ (n + 1) f7)) := by rw [← hHA]; exact at_up h7 (at_ne h7 h3 ri_ne)
  generalize hHB : had hA q (.inl (Z 2, vQ 0 (fun _ => none))) = hB
  have EB : EXT h0 hB := by rw [← hHB]; exact EXT_ad EA hq
  have c3 : at_ hB b3 (.inl (Z 0, n + 1, .inl (upd f3 n p1))) := by rw [← hHB]; exact at_ad a3 hq
  have c5 : at_ hB b5 (.inl (Z 0, n + 1, .inl f5)) := by rw [← hHB]; exact at_ad a5 hq
  have c7 : at_ hB b7 (.inl (Z 3, vQ (n + 1) f7)) := by rw [← hHB]; exact at_ad a7 hq
  have cq : at_ hB q (.inl (Z 2, vQ 0 (fun _ => none))) := by rw [← hHB]; exact at_adS
  have q7 : q ≠ b7 := Ne.symm (at_fr a7 hq)
  have q0 : q ∉ h0.1 := fun z => hq (EA q z).1
  refine ⟨_, f7, c7.1, c7.2, in_lt (by omega) (by omega), ⟨_, _, cq.1, cq.2⟩, ?_⟩
  rw [nI_clamp (by omega)]
  generalize hHC : hup hB b7 (.inl (Z 3, vQ (n + 1) (va_up f7 n (some q)))) = hC
  have EC : EXT h0 hC := by rw [← hHC]; exact EXT_up EB n7
  have d3 : at_ hC b3 (.inl (Z 0, n + 1, .inl (upd f3 n p1))) := by rw [← hHC]; exact at_up c3 (at_ne c3 c7 (Ne.symm ri_ne))
  have d5 : at_ hC b5 (.inl (Z 0, n + 1, .inl f5)) := by rw [← hHC]; exact at_up c5 (at_ne c5 c7 (Ne.symm ri_ne))
  have d7 : at_ hC b7 (.inl (Z 3, vQ (n + 1) (va_up f7 n (some q)))) := by rw [← hHC]; exact at_upS c7
  have dq : at_ hC q (.inl (Z 2, vQ 0 (fun _ => none))) := by rw [← hHC]; exact at_up cq q7
  obtain ⟨e1, e2, e4, ⟨k5, e5, g5⟩, ⟨k6, e6, g6⟩, e7, e8, e9, e10, e11, e12, e13, e14⟩ := H0
  have dt := EXT_at EC e1
  refine ⟨_, dt.1, dt.2, by show 0 < 8; omega, ?_⟩
  generalize hHD : hup hC t (.inr (3, (simF σ).set 0 (.ref b3))) = hD
  have dD : at_ hD t (.inr (3, (simF σ).set 0 (.ref b3))) := by rw [← hHD]; exact at_upS dt
  refine ⟨_, dD.1, dD.2, by show 2 < 8; omega, ?_⟩
  generalize hHE : hup hD t (.inr (3, ((simF σ).set 0 (.ref b3)).set 2 (.ref b5))) = hE
  have dE : at_ hE t (.inr (3, ((simF σ).set 0 (.ref b3)).set 2 (.ref b5))) := by rw [← hHE]; exact at_upS dD
  refine ⟨_, dE.1, dE.2, by show 1 < 8; omega, ?_⟩
  have dF : at_ (hup hE t (.inr (3, (((simF σ).set 0 (.ref b3)).set 2 (.ref b5)).set 1 (.ref b7)))) t (.inr (3, (((simF σ).set 0 (.ref b3)).set 2 (.ref b5)).set 1 (.ref b7))) := at_upS dE
  have x3 : ∀ {a : Nat} {e : va_E}, at_ hC a e → (∀ vs, e ≠ .inr (3, vs)) → at_ (hup hE t (.inr (3, (((simF σ).set 0 (.ref b3)).set 2 (.ref b5)).set 1 (.ref b7)))) a e := fun k hne => by
    have hn := at_ne k dt (hne _)
    rw [← hHE, ← hHD]
    exact at_up (at_up (at_up k hn) hn) hn
  have xi : ∀ {a : ClassId × vp_A} {vs : List Value}, (Sum.inl a : va_E) ≠ .inr (3, vs) := fun z => by cases z
  have inh : ∀ {a : Nat} {e : va_E}, at_ h0 a e → ∀ b, b ∉ h0.1 → a ≠ b := fun k b hb z => hb (z ▸ k.1)
  refine hK q _ ⟨?_, x3 d3 (fun _ => xi), x3 d5 (fun _ => xi), ⟨_, x3 d7 (fun _ => xi), fun k hk => ?_⟩, ⟨k6, x3 (EXT_at EC e6) (fun _ => xi), fun j hj => ?_⟩, fun k hk => ?_, fun k hk i e hi => ?_, fun p hp => ?_, fun p r hp hr hh => ?_, fun k i e k2 i2 e2 hk hk2 q1 q2 q3 => ?_, ⟨ne, ?_, fun k hk => ?_⟩, fun k i e hk hi => ?_, ?_, ?_, fun k => ?_, fun a ha => ⟨x3 (EXT_at EC (e14.2.2.2 a ha).1) (fun _ => xi), inh (e14.2.2.2 a ha).1 b3 n3, inh (e14.2.2.2 a ha).1 b5 n5, fun k i e hk hi => ?_⟩⟩
  · exact dF
  · have hk : k < n + 1 := hk
    show va_up f7 n (some q) k = some (if 1 = 1 ∧ k = n then q else sB σ 1 k)
    by_cases c : k = n
    · rw [if_pos ⟨rfl, c⟩, c, va_up_self]
    · rw [if_neg (fun z => c z.2), va_up_ne _ _ c]; exact g7 k (by omega)
  · show k6 j = some (if 0 = 1 ∧ j = n then q else sB σ 0 j)
    rw [if_neg (fun z => absurd z.1 (by decide))]
    exact g6 j hj
  · have hk : k < n + 1 := hk
    show ∃ f, at_ _ (if 1 = 1 ∧ k = n then q else sB σ 1 k) (.inl (Z 2, vQ (if k = n then [] else sL σ k).length f)) ∧ ∀ (i : Nat) (e : RwT), (if k = n then [] else sL σ k)[i]? = some e → f i = some e.1
    by_cases c : k = n
    · rw [if_pos ⟨rfl, c⟩, if_pos c]
      exact ⟨_, x3 dq (fun _ => xi), fun i e z => by cases z⟩
    · rw [if_neg (fun z => c z.2), if_neg c]
      obtain ⟨f, b1, b2⟩ := e7 k (by omega)
      exact ⟨f, x3 (EXT_at EC b1) (fun _ => xi), b2⟩
  · have hk : k < n + 1 := hk
    have hi : (if k = n then [] else sL σ k)[i]? = some e := hi
    by_cases c : k = n
    · rw [if_pos c] at hi; cases hi
    · rw [if_neg c] at hi
      exact x3 (EXT_at EC (e8 k (by omega) i e hi)) (fun _ => xi)
  · show at_ _ (if 0 = 1 ∧ p = n then q else sB σ 0 p) (.inr (2, podF σ p))
    rw [if_neg (fun z => absurd z.1 (by decide))]
    exact x3 (EXT_at EC (e9 p hp)) (fun vs z => by cases z)
  · have hh : (if 0 = 1 ∧ p = n then q else sB σ 0 p) = (if 0 = 1 ∧ r = n then q else sB σ 0 r) := hh
    rw [if_neg (fun z => absurd z.1 (by decide)), if_neg (fun z => absurd z.1 (by decide))] at hh
    exact e10 p r hp hr hh
  · have hk : k < n + 1 := hk
    have hk2 : k2 < n + 1 := hk2
    have q1 : (if k = n then [] else sL σ k)[i]? = some e := q1
    have q2 : (if k2 = n then [] else sL σ k2)[i2]? = some e2 := q2
    by_cases c : k = n
    · rw [if_pos c] at q1; cases q1
    · by_cases d : k2 = n
      · rw [if_pos d] at q2; cases q2
      · rw [if_neg c] at q1
        rw [if_neg d] at q2
        exact e11 k i e k2 i2 e2 (by omega) (by omega) q1 q2 q3
  · exact Ne.symm (inh e6 b7 n7)
  · have hk : k < n + 1 := hk
    show (if 1 = 1 ∧ k = n then q else sB σ 1 k) ≠ b7
    by_cases c : k = n
    · rw [if_pos ⟨rfl, c⟩]; exact q7
    · rw [if_neg (fun z => c z.2)]
      obtain ⟨f, b1, _⟩ := e7 k (by omega)
      exact inh b1 b7 n7
  · have hk : k < n + 1 := hk
    have hi : (if k = n then [] else sL σ k)[i]? = some e := hi
    by_cases c : k = n
    · rw [if_pos c] at hi; cases hi
    · rw [if_neg c] at hi
      have := e8 k (by omega) i e hi
      exact ⟨inh this b3 n3, inh this b5 n5⟩
  · show n + 1 ≤ 6; omega
  · exact e14.2.1
  · show (if k = n then [] else sL σ k).length ≤ 9
    by_cases c : k = n
    · rw [if_pos c]; exact Nat.zero_le _
    · rw [if_neg c]; exact e14.2.2.1 k
  · have hk : k < n + 1 := hk
    have hi : (if k = n then [] else sL σ k)[i]? = some e := hi
    by_cases c : k = n
    · rw [if_pos c] at hi; cases hi
    · rw [if_neg c] at hi
      exact (e14.2.2.2 a ha).2.2.2 k i e (by omega) hi
theorem SB_loop {p1 : Int32} {b3 b5 b7 N : Nat} (H0 : HR Φ Z h0 t σ) (hN : sN σ 0 = N) (hn6 : N < 6) (n3 : b3 ∉ h0.1) (n5 : b5 ∉ h0.1) (n7 : b7 ∉ h0.1) (ne : b3 ≠ b5)
    (hK : ∀ b11 f3 f5 h1, (∀ k, k < N → f3 k = sV σ 1 k) → (∀ k, k < N → f5 k = sV σ 2 k) → f5 N = 0 → HR Φ Z h1 t (gB σ N b3 b5 b7 b11 (upd f3 N p1) f5) → K h1) :
    ∀ k i n (h : PH) (f3 f5 : Nat → Int32) (f7 : Nat → Option Nat), i + k = N → k < n → EXT h0 h → at_ h b3 (.inl (Z 0, N + 1, .inl f3)) → at_ h b5 (.inl (Z 0, N + 1, .inl f5)) → at_ h b7 (.inl (Z 3, vQ (N + 1) f7)) → (∀ k, k < i → f3 k = sV σ 1 k) → (∀ k, k < i → f5 k = sV σ 2 k) → f5 N = 0 → (∀ k, k < i → f7 k = some (sB σ 1 k)) → w_X3_build_L30 Z t p1 K n (nI N) b3 b5 b7 (nI i) h := by
  intro k
  induction k with
  | zero =>
    intro i n h f3 f5 f7 h1 h2 E a3 a5 a7 g3 g5 gz g7
    obtain ⟨n, rfl⟩ : ∃ m, n = m + 1 := ⟨n - 1, by omega⟩
    have hi : i = N := by omega
    subst hi
    rw [w_X3_build_L30, if_pos (nI_le (Nat.le_refl _) (by omega))]
    exact SB_fin H0 E hN hn6 a3 a5 a7 n3 n5 n7 ne g7 (fun b11 h1 H1 => hK b11 f3 f5 h1 g3 g5 gz H1)
  | succ k ih =>
    intro i n h f3 f5 f7 h1 h2 E a3 a5 a7 g3 g5 gz g7
    obtain ⟨n, rfl⟩ : ∃ m, n = m + 1 := ⟨n - 1, by omega⟩
    have hi : i < sN σ 0 := by omega
    rw [w_X3_build_L30, if_neg (nI_ge (by omega) (by omega))]
    have H := HR_ext E H0
    refine H_place H (H_pl H hi ?_)
    refine ⟨_, f3, a3.1, a3.2, in_lt (by omega) (by omega), ?_⟩
    rw [nI_clamp (by omega)]
    generalize hHA : hup h b3 (.inl (Z 0, N + 1, .inl (upd f3 i (sV σ 1 i)))) = hA
    have EA : EXT h0 hA := by rw [← hHA]; exact EXT_up E n3
    have c3 : at_ hA b3 (.inl (Z 0, N + 1, .inl (upd f3 i (sV σ 1 i)))) := by rw [← hHA]; exact at_upS a3
    have c5 : at_ hA b5 (.inl (Z 0, N + 1, .inl f5)) := by rw [← hHA]; exact at_up a5 (Ne.symm ne)
    have c7 : at_ hA b7 (.inl (Z 3, vQ (N + 1) f7)) := by rw [← hHA]; exact at_up a7 (at_ne a7 a3 ri_ne)
    have HA := HR_ext EA H0
    refine H_arr HA (H_ar HA hi ?_)
    refine ⟨_, f5, c5.1, c5.2, in_lt (by omega) (by omega), ?_⟩
    rw [nI_clamp (by omega)]
    generalize hHB : hup hA b5 (.inl (Z 0, N + 1, .inl (upd f5 i (sV σ 2 i)))) = hB
    have EB : EXT h0 hB := by rw [← hHB]; exact EXT_up EA n5
    have d3 : at_ hB b3 (.inl (Z 0, N + 1, .inl (upd f3 i (sV σ 1 i)))) := by rw [← hHB]; exact at_up c3 ne
    have d5 : at_ hB b5 (.inl (Z 0, N + 1, .inl (upd f5 i (sV σ 2 i)))) := by rw [← hHB]; exact at_upS c5
    have d7 : at_ hB b7 (.inl (Z 3, vQ (N + 1) f7)) := by rw [← hHB]; exact at_up c7 (at_ne c7 c5 ri_ne)
    have HB := HR_ext EB H0
    refine H_waits HB (H_w HB hi ?_)
    obtain ⟨fw, w1, _⟩ := HB.2.2.2.2.2.1 i hi
    refine ⟨_, f7, d7.1, d7.2, in_lt (by omega) (by omega), ⟨_, _, w1.1, w1.2⟩, ?_⟩
    rw [nI_clamp (by omega), nI_1]
    refine ih (i + 1) n _ (upd f3 i (sV σ 1 i)) (upd f5 i (sV σ 2 i)) (va_up f7 i (some (sB σ 1 i))) (by omega) (by omega) (EXT_up EB n7) (at_up d3 (at_ne d3 d7 (Ne.symm ri_ne))) (at_up d5 (at_ne d5 d7 (Ne.symm ri_ne))) (at_upS d7) (fun k hk => ?_) (fun k hk => ?_) ?_ (fun k hk => ?_)
    · show (if k = i then sV σ 1 i else f3 k) = _
      by_cases c : k = i
      · rw [if_pos c, c]
      · rw [if_neg c]; exact g3 k (by omega)
    · show (if k = i then sV σ 2 i else f5 k) = _
      by_cases c : k = i
      · rw [if_pos c, c]
      · rw [if_neg c]; exact g5 k (by omega)
    · show (if N = i then sV σ 2 i else f5 N) = _
      rw [if_neg (by omega)]; exact gz
    · by_cases c : k = i
      · rw [c, va_up_self]
      · rw [va_up_ne _ _ c]; exact g7 k (by omega)
theorem S_build {j : Nat} (hA : AI α) (hz : Z0 α) (H : HR Φ Z h t σ) (S : SR α σ) (hn6 : nn α 0 < 6) (hj : j < 24) (hK : ∀ h1 σ1, HR Φ Z h1 t σ1 → SR (aN (aN α (10 + nn α 0) j) 0 (nn α 0 + 1)) σ1 → K h1) : w_X3_build Z t (nI j) K h := by
  have hn := S_n S
  unfold w_X3_build
  refine H_place H (H_nP H ?_)
  rw [hn, nI_1]
  refine ⟨nI_pos (by omega), by rw [nI_clamp (by omega)]; omega, fun b3 q3 => ?_⟩
  rw [nI_clamp (by omega)]
  refine ⟨nI_pos (by omega), by rw [nI_clamp (by omega)]; omega, fun b5 q5 => ?_⟩
  rw [nI_clamp (by omega)]
  refine ⟨nI_pos (by omega), by rw [nI_clamp (by omega)]; omega, fun b7 q7 => ?_⟩
  rw [nI_clamp (by omega)]
  have E1 : EXT h (had h b3 (.inl (Z 0, nn α 0 + 1, .inl (fun _ => 0)))) := EXT_ad EXT_rf q3
  have a3 : at_ (had h b3 (.inl (Z 0, nn α 0 + 1, .inl (fun _ => 0)))) b3 (.inl (Z 0, nn α 0 + 1, .inl (fun _ => 0))) := at_adS
  have E2 := EXT_ad (e := (.inl (Z 0, nn α 0 + 1, .inl (fun _ => 0)))) E1 q5
  have c3 := at_ad (e1 := (.inl (Z 0, nn α 0 + 1, .inl (fun _ => 0)))) a3 q5
  have c5 : at_ (had (had h b3 (.inl (Z 0, nn α 0 + 1, .inl (fun _ => 0)))) b5 (.inl (Z 0, nn α 0 + 1, .inl (fun _ => 0)))) b5 (.inl (Z 0, nn α 0 + 1, .inl (fun _ => 0))) := at_adS
  have m5 : b5 ∉ h.1 := fun z => q5 (E1 b5 z).1
  have m7 : b7 ∉ h.1 := fun z => q7 (E2 b7 z).1
  refine SB_loop (N := nn α 0) H hn hn6 q3 m5 m7 (at_fr a3 q5) (fun b11 f3 f5 h1 g3 g5 gz H1 => ?_) (nn α 0) 0 FU _ _ _ _ (Nat.zero_add _) (by unfold FU; omega) (EXT_ad E2 q7) (at_ad c3 q7) (at_ad c5 q7) at_adS (fun k hk => absurd hk (Nat.not_lt_zero k)) (fun k hk => absurd hk (Nat.not_lt_zero k)) rfl (fun k hk => absurd hk (Nat.not_lt_zero k))
  refine hK h1 _ H1 ?_
  obtain ⟨r0, r1, r2, r3, r4, r5, r6, r7, r8, r9, r10, r11, r12, r13⟩ := S
  have en : ∀ k, k ≠ 0 → k ≠ 10 + nn α 0 → nn (aN (aN α (10 + nn α 0) j) 0 (nn α 0 + 1)) k = nn α k := fun k h1 h2 => by rw [nn_aN, if_neg h1, nn_aN, if_neg h2]
  have e2 := en 2 (by decide) (by omega)
  refine ⟨rfl, r1.trans (en 1 (by decide) (by omega)).symm, ?_, r3, r4, fun s hs => ?_, fun s hs => ?_, fun s hs => ?_, fun s i e e3 hs z1 z2 => ?_, fun p hp => ?_, fun p hp => ?_, fun p hp => ?_, fun p hp => ?_, fun p hp => ?_⟩
  · rw [e2]; exact r2
  · have hs : s < nn α 0 + 1 := hs
    have ep : nn (aN (aN α (10 + nn α 0) j) 0 (nn α 0 + 1)) (10 + s) = if 10 + s = 10 + nn α 0 then j else nn α (10 + s) := by
      rw [nn_aN, if_neg (show ¬ 10 + s = 0 by omega), nn_aN]
    show (if s = nn α 0 then nI j else f3 s) = nI (nn (aN (aN α (10 + nn α 0) j) 0 (nn α 0 + 1)) (10 + s))
    rw [ep]
    by_cases c : s = nn α 0
    · rw [if_pos c, if_pos (by omega)]
    · rw [if_neg c, if_neg (by omega), g3 s (by omega)]
      exact r5 s (by omega)
  · have hs : s < nn α 0 + 1 := hs
    show f5 s = ii α 0 s
    by_cases c : s = nn α 0
    · rw [c, gz, hz (nn α 0) (Nat.le_refl _)]
    · rw [g5 s (by omega)]; exact r6 s (by omega)
  · have hs : s < nn α 0 + 1 := hs
    show (if s = nn α 0 then [] else sL σ s).length = (qq α s).length
    by_cases c : s = nn α 0
    · rw [if_pos c]
      cases e : qq α s with
      | nil => rfl
      | cons a l =>
        have := (A_q hA (s := s) (e := a) (by rw [e]; exact List.mem_cons_self)).2.2.2
        omega
    · rw [if_neg c]; exact r7 s (by omega)
  · have hs : s < nn α 0 + 1 := hs
    have z1 : (if s = nn α 0 then [] else sL σ s)[i]? = some e := z1
    by_cases c : s = nn α 0
    · rw [if_pos c] at z1; cases z1
    · rw [if_neg c] at z1
      rw [e2]
      exact r8 s i e e3 (by omega) z1 z2
  · rw [en 1 (by decide) (by omega)] at hp; exact r9 p hp
  · rw [en 1 (by decide) (by omega)] at hp; exact r10 p hp
  · rw [en 1 (by decide) (by omega)] at hp; exact r11 p hp
  · rw [en 1 (by decide) (by omega)] at hp; exact r12 p hp
  · rw [en 1 (by decide) (by omega)] at hp; exact r13 p hp
end SBLD
