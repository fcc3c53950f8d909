-- a rider, a pod sent, and the acts together
section SRID
variable {Φ : FR} {Z : Nat → ClassId} {h0 h : PH} {t : Nat} {σ : SG} {α : AS} {x1 x2 : Int32}
theorem SM_loop {K : Option Nat → PH → Prop} {s r q L : Nat} {fr : Nat → Int32} (H0 : HR Φ Z h0 t σ) (hs : s < sN σ 0) (hlen : (sL σ s).length = L) (hL : L < 9) (nq : q ∉ h0.1) (nr : r ∉ h0.1)
    (hK : ∀ h1 f, EXT h0 h1 → at_ h1 r (.inl (Z 0, 3, .inl fr)) → at_ h1 q (.inl (Z 2, vQ (L + 1) f)) → (∀ (j : Nat) (e : RwT), (sL σ s)[j]? = some e → f j = some e.1) → f L = some r → K (some q) h1) :
    ∀ k i n (h : PH) (f : Nat → Option Nat), i + k = L → k < n → EXT h0 h → at_ h r (.inl (Z 0, 3, .inl fr)) → at_ h q (.inl (Z 2, vQ (L + 1) f)) → (∀ (j : Nat) (e : RwT), j < i → (sL σ s)[j]? = some e → f j = some e.1) → w_X3_more_L10 Z (sB σ 1 s) r K n q (nI i) h := by
  intro k
  induction k with
  | zero =>
    intro i n h f h1 h2 E ar aq gq
    obtain ⟨n, rfl⟩ : ∃ m, n = m + 1 := ⟨n - 1, by omega⟩
    have hi : i = L := by omega
    subst hi
    have H := HR_ext E H0
    rw [w_X3_more_L10]
    refine H_nw H hs ?_
    rw [hlen, if_pos (nI_le (Nat.le_refl _) (by omega))]
    refine H_nw H hs ?_
    rw [hlen]
    refine ⟨_, f, aq.1, aq.2, in_lt (by omega) (by omega), ⟨_, _, ar.1, ar.2⟩, ?_⟩
    rw [nI_clamp (by omega)]
    refine hK _ (va_up f i (some r)) (EXT_up E nq) (at_up ar (at_ne ar aq (Ne.symm ri_ne))) (at_upS aq) (fun j e he => ?_) (va_up_self _ _ _)
    have := (List.getElem?_eq_some_iff.mp he).1
    rw [va_up_ne _ _ (show j ≠ i by omega)]
    exact gq j e (by omega) he
  | succ k ih =>
    intro i n h f h1 h2 E ar aq gq
    obtain ⟨n, rfl⟩ : ∃ m, n = m + 1 := ⟨n - 1, by omega⟩
    have H := HR_ext E H0
    obtain ⟨e, he⟩ : ∃ e, (sL σ s)[i]? = some e := ⟨_, List.getElem?_eq_getElem (by omega)⟩
    rw [w_X3_more_L10]
    refine H_nw H hs ?_
    rw [hlen, if_neg (nI_ge (by omega) (by omega))]
    refine H_row H hs he ?_
    have hc := H.2.2.2.2.2.2.1 s hs i e he
    refine ⟨_, f, aq.1, aq.2, in_lt (by omega) (by omega), ⟨_, _, hc.1, hc.2⟩, ?_⟩
    rw [nI_clamp (by omega), nI_1]
    refine ih (i + 1) n _ (va_up f i (some e.1)) (by omega) (by omega) (EXT_up E nq) (at_up ar (at_ne ar aq (Ne.symm ri_ne))) (at_upS aq) (fun j e2 hj he2 => ?_)
    by_cases c : j = i
    · subst c
      rw [he] at he2; cases he2
      exact va_up_self _ _ _
    · rw [va_up_ne _ _ c]; exact gq j e2 (by omega) he2
theorem SR_aN3 {v : Nat} (S : SR α σ) : SR (aN α 3 v) σ := by
  obtain ⟨r0, r1, r2, r3, r4, r5, r6, r7, r8, r9, r10, r11, r12, r13⟩ := S
  have ep : ∀ k, nn (aN α 3 v) (10 + k) = nn α (10 + k) := fun k => by rw [nn_aN, if_neg (by omega)]
  exact ⟨r0, r1, r2, r3, r4, fun k hk => (r5 k hk).trans (congrArg nI (ep k).symm), r6, r7, r8, r9, r10, r11, r12, r13⟩
theorem S_ride {K : PH → Prop} {s g : Nat} (hA : AI α) (H : HR Φ Z h t σ) (S : SR α σ) (hs : s < nn α 0) (hl : (qq α s).length < 9) (hK : ∀ h1 σ1, HR Φ Z h1 t σ1 → SR (aPush s g α) σ1 → K h1) :
    gR h 3 1 t fun b88 => gR h 3 1 t fun b89 => ldQ Z h 3 b89 (nI s) fun b90 => nA Z h 3 3 fun b91 h92 => sA Z h92 b91 0 (nI g) fun h93 => sA Z h93 b91 1 0 fun h94 => sA Z h94 b91 2 0 fun h95 => w_X3_more Z b90 b91 (fun r97 h96 => opm r97 False (fun b98 => sQ3 Z h96 b88 (nI s) b98 fun h99 => K h99)) h95 := by
  have h6 := A_ns hA
  have hn := S_n S
  have hlen := S_len S hs
  have hs' : s < sN σ 0 := by omega
  refine H_waits H (H_waits H (H_w H hs' ?_))
  refine ⟨by decide, by decide, fun r hr => ?_⟩
  rw [show (3 : Int32).toNatClampNeg = 3 from by decide]
  generalize hHA : had h r (.inl (Z 0, 3, .inl (fun _ => 0))) = hA1
  have EA : EXT h hA1 := by rw [← hHA]; exact EXT_ad EXT_rf hr
  have a1 : at_ hA1 r (.inl (Z 0, 3, .inl (fun _ => 0))) := by rw [← hHA]; exact at_adS
  refine ⟨_, _, a1.1, a1.2, show vp_in (nI 0) 3 from in_lt (by omega) (by omega), ?_⟩
  rw [show (0 : Int32).toNatClampNeg = 0 from by decide]
  generalize hHB : hup hA1 r (.inl (Z 0, 3, .inl (upd (fun _ => 0) 0 (nI g)))) = hB
  have EB : EXT h hB := by rw [← hHB]; exact EXT_up EA hr
  have b1 : at_ hB r (.inl (Z 0, 3, .inl (upd (fun _ => 0) 0 (nI g)))) := by rw [← hHB]; exact at_upS a1
  refine ⟨_, _, b1.1, b1.2, show vp_in (nI 1) 3 from in_lt (by omega) (by omega), ?_⟩
  rw [show (1 : Int32).toNatClampNeg = 1 from by decide]
  generalize hHC : hup hB r (.inl (Z 0, 3, .inl (upd (upd (fun _ => 0) 0 (nI g)) 1 0))) = hC
  have EC : EXT h hC := by rw [← hHC]; exact EXT_up EB hr
  have c1 : at_ hC r (.inl (Z 0, 3, .inl (upd (upd (fun _ => 0) 0 (nI g)) 1 0))) := by rw [← hHC]; exact at_upS b1
  refine ⟨_, _, c1.1, c1.2, show vp_in (nI 2) 3 from in_lt (by omega) (by omega), ?_⟩
  rw [show (2 : Int32).toNatClampNeg = 2 from by decide]
  generalize hHD : hup hC r (.inl (Z 0, 3, .inl (upd (upd (upd (fun _ => 0) 0 (nI g)) 1 0) 2 0))) = hD
  have ED : EXT h hD := by rw [← hHD]; exact EXT_up EC hr
  have d1 : at_ hD r (.inl (Z 0, 3, .inl (upd (upd (upd (fun _ => 0) 0 (nI g)) 1 0) 2 0))) := by rw [← hHD]; exact at_upS c1
  have HD := HR_ext ED H
  unfold w_X3_more
  refine H_nw HD hs' ?_
  rw [hlen, nI_1]
  refine ⟨nI_pos (by omega), by rw [nI_clamp (by omega)]; omega, fun q hq => ?_⟩
  rw [nI_clamp (by omega)]
  have nq : q ∉ h.1 := fun z => hq (ED q z).1
  refine SM_loop (L := (qq α s).length) (fr := upd (upd (upd (fun _ => 0) 0 (nI g)) 1 0) 2 0) H hs' hlen hl nq hr (fun h1 f E1 ar aq g1 g2 => ?_) (qq α s).length 0 FU _ (fun _ => none) (Nat.zero_add _) (by unfold FU; omega) (EXT_ad ED hq) (at_ad d1 hq) at_adS (fun j e hj => absurd hj (Nat.not_lt_zero j))
  show sQ3 Z h1 (sN σ 3) (nI s) q K
  have H1 := HR_ext E1 H
  have inh : ∀ {a : Nat} {e : va_E}, at_ h a e → ∀ b, b ∉ h.1 → a ≠ b := fun k b hb z => hb (z ▸ k.1)
  have hll : (sL σ s ++ [((r, upd (upd (upd (fun _ => 0) 0 (nI g)) 1 0) 2 0) : RwT)]).length = (qq α s).length + 1 := by rw [List.length_append, hlen]; rfl
  have gl : ∀ (i : Nat) (e : RwT), (sL σ s ++ [((r, upd (upd (upd (fun _ => 0) 0 (nI g)) 1 0) 2 0) : RwT)])[i]? = some e → (i < (qq α s).length ∧ (sL σ s)[i]? = some e) ∨ (i = (qq α s).length ∧ e = (r, upd (upd (upd (fun _ => 0) 0 (nI g)) 1 0) 2 0)) := fun i e z => by
    have hi := (List.getElem?_eq_some_iff.mp z).1
    rw [hll] at hi
    by_cases c : i < (qq α s).length
    · rw [List.getElem?_append_left (by omega)] at z
      exact Or.inl ⟨c, z⟩
    · rw [List.getElem?_append_right (by omega), show i - (sL σ s).length = 0 from by omega] at z
      exact Or.inr ⟨by omega, (Option.some.inj z).symm⟩
  obtain ⟨e1, e2, e4, ⟨k5, e5, g5⟩, ⟨k6, e6, g6⟩, e7, e8, e9, e10, e11, e12, e13, e14⟩ := id H
  refine HU_w (l := sL σ s ++ [((r, upd (upd (upd (fun _ => 0) 0 (nI g)) 1 0) 2 0) : RwT)]) (f := f) H1 hs' (by rw [hll]; exact aq) (fun i e z => ?_) (Ne.symm (inh e5 q nq)) (fun i e z => ?_) (fun i j e e3 z1 z2 z3 => ?_) (fun i k j e e3 z1 hk hks z2 z3 => ?_) (by rw [hll]; omega) (fun a ha i e z => ?_) (fun h2 H2 => ?_)
  · rcases gl i e z with ⟨b1, b2⟩ | ⟨b1, b2⟩
    · exact g1 i e b2
    · rw [b1, b2]; exact g2
  · rcases gl i e z with ⟨b1, b2⟩ | ⟨b1, b2⟩
    · exact ⟨EXT_at E1 (e8 s hs' i e b2), e13 s i e hs' b2⟩
    · rw [b2]
      exact ⟨ar, Ne.symm (inh e2 r hr), Ne.symm (inh e4 r hr)⟩
  · rcases gl i e z1 with ⟨b1, b2⟩ | ⟨b1, b2⟩ <;> rcases gl j e3 z2 with ⟨b3, b4⟩ | ⟨b3, b4⟩
    · exact (e11 s i e s j e3 hs' hs' b2 b4 z3).2
    · rw [b4] at z3; exact absurd z3 (inh (e8 s hs' i e b2) r hr)
    · rw [b2] at z3; exact absurd z3.symm (inh (e8 s hs' j e3 b4) r hr)
    · omega
  · rcases gl i e z1 with ⟨b1, b2⟩ | ⟨b1, b2⟩
    · exact hks (e11 s i e k j e3 hs' hk b2 z2 z3).1.symm
    · rw [b2] at z3; exact absurd z3.symm (inh (e8 k hk j e3 z2) r hr)
  · rcases gl i e z with ⟨b1, b2⟩ | ⟨b1, b2⟩
    · exact (e14.2.2.2 a ha).2.2.2 s i e hs' b2
    · rw [b2]; exact inh (e14.2.2.2 a ha).1 r hr
  · refine hK h2 _ H2 ?_
    unfold aPush
    refine SR_aN3 (SR_queue S (by rw [hll, List.length_append]; rfl) (fun i e e3 z1 z2 => ?_))
    rcases gl i e z1 with ⟨b1, b2⟩ | ⟨b1, b2⟩
    · rw [List.getElem?_append_left b1] at z2
      exact S_q S hs b2 z2
    · rw [List.getElem?_append_right (by omega), show i - (qq α s).length = 0 from by omega] at z2
      have z2 := Option.some.inj z2
      rw [b2, ← z2]
      exact ⟨rfl, (Int32.sub_self _).symm, rfl⟩
end SRID
-- what stays so
def LI (Φ : FR) (Z : Nat → ClassId) (B t : Nat) (α : AS) (σ : SG) (S : RS) (h : PH) : Prop := AI α ∧ DP α ∧ Z0 α ∧ RC α S ∧ HR Φ Z h t σ ∧ SR α σ ∧ nn α 2 ≤ B ∧ nn α 3 ≤ B ∧ ∃ c, c ≤ 6 * B ∧ ii α 2 0 = nI c
def Inv (Φ : FR) (Z : Nat → ClassId) (B t : Nat) (S : RS) (h : PH) : Prop := ∃ α σ, LI Φ Z B t α σ S h
theorem Inv_up {Φ : FR} {Z : Nat → ClassId} {B t : Nat} {S : RS} {h : PH} (I : Inv Φ Z B t S h) : Inv Φ Z (B + 1) t S h := by
  obtain ⟨α, σ, a1, a2, a3, a4, a5, a6, a7, a8, c, c1, c2⟩ := I
  exact ⟨α, σ, a1, a2, a3, a4, a5, a6, by omega, by omega, c, by omega, c2⟩
section SACT
variable {Φ : FR} {Z : Nat → ClassId} {h : PH} {t B : Nat} {σ : SG} {α : AS} {S T : RS} {C : Int32 → WX → Prop} {x : Int32}
theorem A_build {j : Nat} (L : LI Φ Z B t α σ S h) (hj : j < 24) (hK : ∀ S' T' h', Inv Φ Z (B + 1) t S' h' → C 1 (S', T', h')) : w_L_act_L120 Z t x C FU (nI (nn α 0)) (nI j) (sN σ 2) (nI (nn α 0)) (nI 0) S T h := by
  have hI : Inv Φ Z B t S h := ⟨α, σ, L⟩
  obtain ⟨hA, hd, hz, hC, H, Sr, b1, b2, c, c1, c2⟩ := L
  have h6 := A_ns hA
  have hn := S_n Sr
  refine gsP (fun n i => w_L_act_L120 Z t x C n (nI (nn α 0)) (nI j) (sN σ 2) (nI (nn α 0)) i S T h) (fun s => decide (pl α s = j)) (fun o => o = none → ∀ s, s < nn α 0 → pl α s ≠ j) (nn α 0) (fun n i hi hc => ?_) (fun n hc => ?_) (nn α 0) 0 FU (Nat.zero_add _) (by unfold FU; omega) (fun e s hs => ?_)
  · show w_L_act_L120 Z t x C (n + 1) (nI (nn α 0)) (nI j) (sN σ 2) (nI (nn α 0)) (nI i) S T h
    rw [w_L_act_L120, if_neg (nI_ge hi (by omega))]
    refine H_pl H (by omega) ?_
    have hpi := A_pl hA hi
    rw [S_pl Sr hi]
    by_cases d : pl α i = j
    · rw [if_pos (by rw [d])]
      exact hK S T h (Inv_up hI)
    · rw [if_neg (fun z => d (nI_inj (by omega) (by omega) z)), nI_1]
      rw [if_neg (by simpa using d)] at hc
      exact hc
  · show w_L_act_L120 Z t x C (n + 1) (nI (nn α 0)) (nI j) (sN σ 2) (nI (nn α 0)) (nI (nn α 0)) S T h
    have hno := hc rfl
    rw [w_L_act_L120, if_pos (nI_le (Nat.le_refl _) (by omega))]
    by_cases d : nn α 0 = 6
    · rw [if_pos (by rw [d]; decide)]
      exact hK S T h (Inv_up hI)
    · rw [if_neg (show ¬ nI (nn α 0) = 6 from fun z => d (nI_inj (b := 6) (by omega) (by decide) z))]
      refine ⟨rc3_of H, S_build hA hz H Sr (by omega) hj (fun h1 σ1 H1 S1 => ?_)⟩
      obtain ⟨S', q1, q2⟩ := q_build (T := T) hA hC hj (by omega) hno
      refine ⟨_, _, _, q1, ?_⟩
      dsimp only
      rw [if_pos rfl]
      have en : ∀ k, k ≠ 0 → k ≠ 10 + nn α 0 → nn (aN (aN α (10 + nn α 0) j) 0 (nn α 0 + 1)) k = nn α k := fun k h1 h2 => by rw [nn_aN, if_neg h1, nn_aN, if_neg h2]
      have ep : ∀ s, pl (aN (aN α (10 + nn α 0) j) 0 (nn α 0 + 1)) s = if s = nn α 0 then j else pl α s := fun s => by
        show nn (aN (aN α (10 + nn α 0) j) 0 (nn α 0 + 1)) (10 + s) = _
        rw [nn_aN, if_neg (show ¬ 10 + s = 0 by omega), nn_aN]
        by_cases e : s = nn α 0
        · rw [if_pos e, if_pos (by omega)]
        · rw [if_neg e, if_neg (by omega)]; rfl
      refine hK S' T h1 ⟨_, σ1, AI_build hA (by omega) hj, fun i k hi hk he => ?_, fun s hs => hz s (by have hs : nn α 0 + 1 ≤ s := hs; omega), q2, H1, S1, ?_, ?_, c, by omega, c2⟩
      · have hi : i < nn α 0 + 1 := hi
        have hk : k < nn α 0 + 1 := hk
        rw [ep, ep] at he
        by_cases u : i = nn α 0 <;> by_cases v : k = nn α 0
        · omega
        · rw [if_pos u, if_neg v] at he
          exact absurd he.symm (hno k (by omega))
        · rw [if_neg u, if_pos v] at he
          exact absurd he (hno i (by omega))
        · rw [if_neg u, if_neg v] at he
          exact hd i k (by omega) (by omega) he
      · rw [en 2 (by decide) (by omega)]; omega
      · rw [en 3 (by decide) (by omega)]; omega
  · have := ffind_none e s (Nat.zero_le _) (by omega)
    exact of_decide_eq_false this
theorem A_pod {s : Nat} (L : LI Φ Z B t α σ S h) (hs : s < nn α 0) (hK : ∀ S' T' h', Inv Φ Z (B + 1) t S' h' → C 1 (S', T', h')) : w_L_act_L179 Z t x C (nI (nn α 1)) (nI s) S T h := by
  have hI : Inv Φ Z B t S h := ⟨α, σ, L⟩
  obtain ⟨hA, hd, hz, hC, H, Sr, b1, b2, c, c1, c2⟩ := L
  have h6 := A_ns hA
  have h12 := A_np hA
  have hm := S_m Sr
  unfold w_L_act_L179
  by_cases d : nn α 1 = 12
  · rw [if_pos (by rw [d]; decide)]
    exact hK S T h (Inv_up hI)
  · rw [if_neg (show ¬ nI (nn α 1) = 12 from fun z => d (nI_inj (b := 12) (by omega) (by decide) z))]
    refine ⟨rc3_of H, S_free hA H Sr (by omega) ?_⟩
    cases e : fb α s 0 with
    | none =>
      rw [oI_none, if_neg (by decide)]
      exact hK S T h (Inv_up hI)
    | some b =>
      obtain ⟨hb3, hk, _⟩ := fb_some e
      rw [oI_some, if_pos (nI_pos' (by omega)), nI_1]
      refine ⟨nI_pos (by omega), by rw [nI_clamp (by omega)]; omega, fun q hq => ?_⟩
      rw [nI_clamp (by omega)]
      refine SD_loop (b := b) hA H Sr hm (by omega) (by omega) e hq (fun b37 h1 H1 => ?_) (nn α 1) 0 FU _ (fun _ => none) (Nat.zero_add _) (by unfold FU; omega) (EXT_ad EXT_rf hq) at_adS (fun k hk => absurd hk (Nat.not_lt_zero k))
      obtain ⟨S', q1, q2⟩ := q_pod (T := T) hA hC hs (by omega) e
      refine ⟨_, _, _, q1, ?_⟩
      dsimp only
      rw [if_pos rfl]
      have en : ∀ k, k ≠ 1 → nn (aN (aO α 1 (3 * s + b) (some (nn α 1))) 1 (nn α 1 + 1)) k = nn α k := fun k h1 => by rw [nn_aN, if_neg h1]; rfl
      refine hK S' T h1 ⟨_, _, AI_pod hA (by omega) (kd_e0 hk) (by omega) (by omega), fun i k hi hk2 he => ?_, fun s hs => hz s hs, q2, H1, SR_pod hA Sr (by omega) hb3 (kd_e0 hk), ?_, ?_, c, by omega, c2⟩
      · have ep : ∀ s2, pl (aN (aO α 1 (3 * s + b) (some (nn α 1))) 1 (nn α 1 + 1)) s2 = pl α s2 := fun s2 => en (10 + s2) (by omega)
        rw [ep, ep] at he
        exact hd i k hi hk2 he
      · rw [en 2 (by decide)]; omega
      · rw [en 3 (by decide)]; omega
end SACT
