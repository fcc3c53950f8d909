-- the class and the law's simulation say the same
section SSAM
variable {Φ : FR} {Z : Nat → ClassId} {h h0 : PH} {t B : Nat} {σ : SG} {α : AS} {S T : RS} {C : Int32 → WX → Prop} {x2 x3 : Int32}
/-- an array of numbers that is being filled -/
def AW (Z : Nat → ClassId) (h0 h : PH) (b n : Nat) (f : Nat → Int32) : Prop := EXT h0 h ∧ at_ h b (.inl (Z 0, n, .inl f))
theorem AW_set {K : PH → Prop} {b n i : Nat} {f : Nat → Int32} {v : Int32} (nb : b ∉ h0.1) (hi : i < n) (hn : n < 100) (A : AW Z h0 h b n f) (hK : ∀ h1, AW Z h0 h1 b n (upd f i v) → K h1) : sA Z h b (nI i) v K :=
  ⟨_, f, A.2.1, A.2.2, in_lt hi (by omega), by rw [nI_clamp (by omega)]; exact hK _ ⟨EXT_up A.1 nb, at_upS A.2⟩⟩
theorem AW_get {K : Int32 → Prop} {b n i : Nat} {f : Nat → Int32} (hi : i < n) (hn : n < 100) (A : AW Z h0 h b n f) (hK : K (f i)) : ldI Z h b (nI i) K :=
  ⟨_, f, A.2.1, A.2.2, in_lt hi (by omega), by rw [nI_clamp (by omega)]; exact hK⟩
theorem AW_new {K : Nat → PH → Prop} {n cap : Nat} (E : EXT h0 h) (hn : n ≤ cap) (hc : cap < 100) (hK : ∀ b h1, b ∉ h0.1 → AW Z h0 h1 b n (fun _ => 0) → K b h1) : nA Z h (nI n) cap K :=
  ⟨nI_pos (by omega), by rw [nI_clamp (by omega)]; exact hn, fun q hq => by
    rw [nI_clamp (by omega)]
    exact hK q _ (fun z => hq (E q z).1) ⟨EXT_ad E hq, at_adS⟩⟩
-- what the simulation counts of a station's pods
def k1 (σ : SG) (s p : Nat) : Int32 := if sV σ 3 p < 0 ∧ sV σ 4 p = nI s then 1 else 0
def k2 (σ : SG) (s p : Nat) : Int32 := if sV σ 3 p < 0 ∧ sV σ 4 p = nI s ∧ ¬ 0 ≤ sV σ 6 p then 1 else 0
theorem fl1 {p s : Nat} (hs : s < 6) : fl (gM α σ) p 1 = nI s ↔ sV σ 3 p < 0 ∧ sV σ 4 p = nI s := by
  rw [gM_fl (by decide)]
  show (if sV σ 3 p < 0 then sV σ 4 p else -1) = nI s ↔ _
  by_cases c : sV σ 3 p < 0
  · rw [if_pos c]; exact ⟨fun e => ⟨c, e⟩, fun e => e.2⟩
  · rw [if_neg c]; exact ⟨fun e => absurd e.symm (nI_ne_m1 (by omega)), fun e => absurd e.1 c⟩
theorem k1_sum (hA : AI α) (Sr : SR α σ) {s : Nat} (hs : s < nn α 0) : isum (k1 σ s) 0 (nn α 1) = vS α s 1 := by
  have h12 := A_np hA
  have h6 := A_ns hA
  have hm := gM_ok hA Sr
  have e := m_cnt hA hm (s := s) (by omega)
  have := g_sum (F := fun n acc x => f_X2_stationTold_L50 (gM α σ) n (nI s) acc x) (g := k1 σ s) (fin := fun a => a) (N := nn α 1) (fun n acc i hi => by
    show f_X2_stationTold_L50 (gM α σ) (n + 1) (nI s) acc (nI i) = f_X2_stationTold_L50 (gM α σ) n (nI s) _ _
    rw [f_X2_stationTold_L50, M_np hm, if_neg (nI_ge hi (by omega)), m_po1 (by omega), ob_v]
    unfold k1
    by_cases c : fl (gM α σ) i 1 = nI s
    · rw [if_pos c, if_pos ((fl1 (by omega)).mp c), nI_1]
    · rw [if_neg c, if_neg (fun z => c ((fl1 (by omega)).mpr z)), nI_1])
    (fun n acc => by
      show f_X2_stationTold_L50 (gM α σ) (n + 1) (nI s) acc (nI (nn α 1)) = _
      rw [f_X2_stationTold_L50, M_np hm, if_pos (nI_le (Nat.le_refl _) (by omega))]) (nn α 1) 0 FU 0 (by omega) (by unfold FU; omega)
  rw [nI_0] at this
  have this : f_X2_stationTold_L50 (gM α σ) FU (nI s) 0 0 = _ := this
  rw [this, Int32.zero_add] at e
  exact Option.some.inj e
theorem k2_sum (hA : AI α) (Sr : SR α σ) {s : Nat} (hs : s < nn α 0) : isum (k2 σ s) 0 (nn α 1) = vS α s 2 := by
  have h12 := A_np hA
  have h6 := A_ns hA
  have hm := gM_ok hA Sr
  have e := m_cnt1 hA hm (s := s) (by omega)
  have g3 : ∀ p, p < nn α 1 → (fl (gM α σ) p 3 = -1 ↔ ¬ 0 ≤ sV σ 6 p) := fun p hp => by
    rw [M_f3 hm hp, S_go Sr hp]
    cases f : oo α 2 p with
    | none => rw [oI_none]; exact ⟨fun _ => by decide, fun _ => rfl⟩
    | some g =>
      have := (A_2 hA f).1
      rw [oI_some]
      exact ⟨fun z => absurd z (nI_ne_m1 (by omega)), fun z => absurd (nI_pos' (by omega)) z⟩
  have := g_sum (F := fun n acc x => f_X2_stationTold_L89 (gM α σ) n (nI s) acc x) (g := k2 σ s) (fin := fun a => a) (N := nn α 1) (fun n acc i hi => by
    show f_X2_stationTold_L89 (gM α σ) (n + 1) (nI s) acc (nI i) = f_X2_stationTold_L89 (gM α σ) n (nI s) _ _
    rw [f_X2_stationTold_L89, M_np hm, if_neg (nI_ge hi (by omega)), m_po1 (by omega), ob_v]
    unfold k2
    by_cases c : fl (gM α σ) i 1 = nI s
    · have c2 := (fl1 (by omega)).mp c
      rw [if_pos c, m_po3 (by omega), ob_v]
      by_cases d : fl (gM α σ) i 3 = -1
      · rw [if_pos d, if_pos ⟨c2.1, c2.2, (g3 i hi).mp d⟩, nI_1]
      · rw [if_neg d, if_neg (fun z => d ((g3 i hi).mpr z.2.2)), nI_1]
    · rw [if_neg c, if_neg (fun z => c ((fl1 (by omega)).mpr ⟨z.1, z.2.1⟩)), nI_1])
    (fun n acc => by
      show f_X2_stationTold_L89 (gM α σ) (n + 1) (nI s) acc (nI (nn α 1)) = _
      rw [f_X2_stationTold_L89, M_np hm, if_pos (nI_le (Nat.le_refl _) (by omega))]) (nn α 1) 0 FU 0 (by omega) (by unfold FU; omega)
  rw [nI_0] at this
  have this : f_X2_stationTold_L89 (gM α σ) FU (nI s) 0 0 = _ := this
  rw [this, Int32.zero_add] at e
  exact Option.some.inj e
-- stations
theorem Q_254 {κ4 : Int32 → Int32 → RS → RS → PH → Prop} {s b : Nat} {x6 : Int32} {f : Nat → Int32} (hA : AI α) (hd : DP α) (hC : RC α S) (H0 : HR Φ Z h0 t σ) (Sr : SR α σ) (hs : s < nn α 0) (A : AW Z h0 h b 7 f) (hf : ∀ w, w < 7 → f w = vS α s w) (hK : κ4 (x2 + x6) (nI s + 1) S T h) : ∀ k i n, i + k = 7 → k < n → w_X3_isSame_L254 Z t κ4 C n x2 (nI s) x6 b (nI i) S T h := by
  have hm := gM_ok hA Sr
  have H := HR_ext A.1 H0
  intro k
  induction k with
  | zero =>
    intro i n h1 h2
    obtain ⟨n, rfl⟩ : ∃ m, n = m + 1 := ⟨n - 1, by omega⟩
    rw [w_X3_isSame_L254, if_pos (show (7 : Int32) ≤ nI i from nI_le (a := 7) (by omega) (by omega))]
    refine ⟨_, q_ans hA hC hs, rc3_of H, S_answer hA hd H Sr hs ?_⟩
    rw [if_pos rfl]
    exact hK
  | succ k ih =>
    intro i n h1 h2
    obtain ⟨n, rfl⟩ : ∃ m, n = m + 1 := ⟨n - 1, by omega⟩
    rw [w_X3_isSame_L254, if_neg (show ¬ (7 : Int32) ≤ nI i from nI_ge (b := 7) (by omega) (by omega))]
    refine ⟨_, q_st hA hC hm hs (w := i) (by omega), AW_get (by omega) (by omega) A ?_⟩
    rw [hf i (by omega), if_pos rfl, nI_1]
    exact ih (i + 1) n (by omega) (by omega)
theorem upd_e {f : Nat → Int32} {k : Nat} {v : Int32} : upd f k v k = v := if_pos rfl
theorem Q_121 {κ4 : Int32 → Int32 → RS → RS → PH → Prop} {s : Nat} (hA : AI α) (hd : DP α) (hC : RC α S) (H0 : HR Φ Z h0 t σ) (Sr : SR α σ) (hs : s < nn α 0) (E : EXT h0 h) (hK : ∀ h1, EXT h0 h1 → κ4 (x2 + isum (wv α s) 0 (qq α s).length) (nI s + 1) S T h1) : ∀ k i n acc, i + k = (qq α s).length → k < n → acc + isum (wv α s) i k = isum (wv α s) 0 (qq α s).length → w_X3_isSame_L121 Z t κ4 C n x2 (nI s) (vS α s 1) (vS α s 2) acc (nI i) S T h := by
  have hm := gM_ok hA Sr
  have H := HR_ext E H0
  have h6 := A_ns hA
  have hn := S_n Sr
  have hs' : s < sN σ 0 := by omega
  have h9 := A_len hA s
  have hlen := S_len Sr hs
  intro k
  induction k with
  | zero =>
    intro i n acc h1 h2 h3
    obtain ⟨n, rfl⟩ : ∃ m, n = m + 1 := ⟨n - 1, by omega⟩
    rw [isum, i32_az] at h3
    rw [w_X3_isSame_L121]
    refine H_waits H (H_w H hs' (H_nw H hs' ?_))
    rw [hlen, if_pos (nI_le (by omega) (by omega))]
    refine AW_new (n := 7) E (Nat.le_refl _) (by omega) (fun b g1 nb A1 => ?_)
    have H1 := HR_ext A1.1 H0
    refine H_place H1 (H_pl H1 hs' ?_)
    refine AW_set (i := 0) nb (by omega) (by omega) A1 (fun g2 A2 => ?_)
    refine AW_set (i := 1) nb (by omega) (by omega) A2 (fun g3 A3 => ?_)
    refine AW_set (i := 2) nb (by omega) (by omega) A3 (fun g4 A4 => ?_)
    have H4 := HR_ext A4.1 H0
    refine H_waits H4 (H_w H4 hs' (H_nw H4 hs' ?_))
    refine AW_set (i := 3) nb (by omega) (by omega) A4 (fun g5 A5 => ?_)
    have H5 := HR_ext A5.1 H0
    refine ⟨rc3_of H5, S_com hA H5 Sr hs ?_⟩
    refine AW_set (i := 4) nb (by omega) (by omega) A5 (fun g6 A6 => ?_)
    refine AW_set (i := 5) nb (by omega) (by omega) A6 (fun g7 A7 => ?_)
    have H7 := HR_ext A7.1 H0
    refine H_arr H7 (H_ar H7 hs' ?_)
    refine AW_set (i := 6) nb (by omega) (by omega) A7 (fun g8 A8 => ?_)
    refine Q_254 hA hd hC H0 Sr hs A8 (fun w hw => ?_) (by rw [h3]; exact hK g8 A8.1) 7 0 FU rfl (by decide)
    match w, hw with
    | 0, _ => exact S_pl Sr hs
    | 1, _ => rfl
    | 2, _ => rfl
    | 3, _ => exact congrArg nI hlen
    | 4, _ => rfl
    | 5, _ => exact h3
    | 6, _ => exact S_ar Sr hs
  | succ k ih =>
    intro i n acc h1 h2 h3
    obtain ⟨n, rfl⟩ : ∃ m, n = m + 1 := ⟨n - 1, by omega⟩
    rw [isum, ← Int32.add_assoc] at h3
    obtain ⟨e, he⟩ : ∃ e, (qq α s)[i]? = some e := ⟨_, List.getElem?_eq_getElem (by omega)⟩
    obtain ⟨r, hr⟩ : ∃ r, (sL σ s)[i]? = some r := ⟨_, List.getElem?_eq_getElem (by omega)⟩
    obtain ⟨r0, r1, r2⟩ := S_q Sr hs hr he
    have ew : wv α s i = nI (nn α 2) - nI e.2.1 := by unfold wv; rw [he]
    rw [w_X3_isSame_L121]
    refine H_waits H (H_w H hs' (H_nw H hs' ?_))
    rw [hlen, if_neg (nI_ge (by omega) (by omega))]
    refine H_waits H (H_w H hs' (H_row H hs' hr (H_cell (j := 1) H hs' hr (by omega) ?_)))
    refine ⟨_, q_wts hA hC hm hs he, ?_⟩
    refine H_waits H (H_w H hs' (H_row H hs' hr (H_cell (j := 1) H hs' hr (by omega) ?_)))
    refine H_waits H (H_w H hs' (H_row H hs' hr (H_cell (j := 0) H hs' hr (by omega) ?_)))
    rw [r0, r1, if_pos rfl, nI_1, ← ew]
    exact ih (i + 1) n _ (by omega) (by omega) h3
theorem Q_36 {κ4 : Int32 → Int32 → RS → RS → PH → Prop} {s : Nat} (hA : AI α) (hd : DP α) (hC : RC α S) (H0 : HR Φ Z h0 t σ) (Sr : SR α σ) (hs : s < nn α 0) (E : EXT h0 h) (hK : ∀ h1, EXT h0 h1 → κ4 (x2 + isum (wv α s) 0 (qq α s).length) (nI s + 1) S T h1) : ∀ k i n a1 a2, i + k = nn α 1 → k < n → a1 + isum (k1 σ s) i k = vS α s 1 → a2 + isum (k2 σ s) i k = vS α s 2 → w_X3_isSame_L36 Z t κ4 C n x2 (nI s) a1 a2 0 (sN σ 5) (nI (nn α 1)) (nI i) S T h := by
  have H := HR_ext E H0
  have h12 := A_np hA
  have hmm := S_m Sr
  intro k
  induction k with
  | zero =>
    intro i n a1 a2 h1 h2 h3 h4
    obtain ⟨n, rfl⟩ : ∃ m, n = m + 1 := ⟨n - 1, by omega⟩
    rw [isum, i32_az] at h3 h4
    rw [w_X3_isSame_L36, if_pos (nI_le (by omega) (by omega)), h3, h4]
    exact Q_121 hA hd hC H0 Sr hs E hK (qq α s).length 0 FU 0 (Nat.zero_add _) (by have := A_len hA s; unfold FU; omega) (Int32.zero_add _)
  | succ k ih =>
    intro i n a1 a2 h1 h2 h3 h4
    obtain ⟨n, rfl⟩ : ∃ m, n = m + 1 := ⟨n - 1, by omega⟩
    have hi : i < sN σ 1 := by omega
    rw [isum, ← Int32.add_assoc] at h3 h4
    have nxt : w_X3_isSame_L36 Z t κ4 C n x2 (nI s) (a1 + k1 σ s i) (a2 + k2 σ s i) 0 (sN σ 5) (nI (nn α 1)) (nI i + 1) S T h := by
      rw [nI_1]
      exact ih (i + 1) n _ _ (by omega) (by omega) h3 h4
    unfold k1 k2 at nxt
    rw [w_X3_isSame_L36, if_neg (nI_ge (by omega) (by omega))]
    refine H_p H hi (H_f0 H hi ?_)
    by_cases c : 0 ≤ sV σ 3 i
    · have c' : ¬ sV σ 3 i < 0 := Int32.not_lt.mpr c
      rw [if_neg (fun z => c' z.1), if_neg (fun z => c' z.1)] at nxt
      rw [if_pos c]
      unfold w_X3_isSame_L73 w_X3_isSame_L74
      refine H_f0 H hi ?_
      rw [if_pos c]
      exact nxt
    · have c' : sV σ 3 i < 0 := Int32.not_le.mp c
      rw [if_neg c]
      refine H_f1 H hi ?_
      by_cases d : sV σ 4 i = nI s
      · rw [if_pos d]
        unfold w_X3_isSame_L74
        refine H_f0 H hi ?_
        rw [if_neg c]
        refine H_f1 H hi ?_
        rw [if_pos d]
        refine H_f3 H hi ?_
        rw [if_pos ⟨c', d⟩] at nxt
        by_cases g : 0 ≤ sV σ 6 i
        · rw [if_pos g]
          rw [if_neg (fun z => z.2.2 g)] at nxt
          exact nxt
        · rw [if_neg g]
          rw [if_pos ⟨c', d, g⟩] at nxt
          exact nxt
      · rw [if_neg d]
        unfold w_X3_isSame_L73 w_X3_isSame_L74
        refine H_f0 H hi ?_
        rw [if_neg c]
        refine H_f1 H hi ?_
        rw [if_neg d]
        rw [if_neg (fun z => d z.2), if_neg (fun z => d z.2.1)] at nxt
        exact nxt
theorem Q_4 (hA : AI α) (hd : DP α) (hC : RC α S) (H0 : HR Φ Z h0 t σ) (Sr : SR α σ) (hK : ∀ h1, EXT h0 h1 → w_X3_isSame_L312 Z t C 14 (WS α) 0 S T h1) : ∀ k i n acc h, i + k = nn α 0 → k < n → EXT h0 h → acc + isum (fun s => isum (wv α s) 0 (qq α s).length) i k = WS α → w_X3_isSame_L4 Z t C n acc (nI i) S T h := by
  have h6 := A_ns hA
  have h12 := A_np hA
  have hn := S_n Sr
  have hmm := S_m Sr
  intro k
  induction k with
  | zero =>
    intro i n acc h h1 h2 E h3
    obtain ⟨n, rfl⟩ : ∃ m, n = m + 1 := ⟨n - 1, by omega⟩
    have H := HR_ext E H0
    rw [isum, i32_az] at h3
    rw [w_X3_isSame_L4]
    refine H_place H (H_nP H ?_)
    rw [hn, if_pos (nI_le (by omega) (by omega)), h3]
    exact hK h E
  | succ k ih =>
    intro i n acc h h1 h2 E h3
    obtain ⟨n, rfl⟩ : ∃ m, n = m + 1 := ⟨n - 1, by omega⟩
    have H := HR_ext E H0
    rw [isum, ← Int32.add_assoc] at h3
    rw [w_X3_isSame_L4]
    refine H_place H (H_nP H ?_)
    rw [hn, if_neg (nI_ge (by omega) (by omega))]
    refine H_pods H (H_nD H ?_)
    rw [hmm]
    refine Q_36 (s := i) hA hd hC H0 Sr (by omega) E (fun h1 E1 => ?_) (nn α 1) 0 FU 0 0 (Nat.zero_add _) (by unfold FU; omega) (by rw [Int32.zero_add]; exact k1_sum hA Sr (by omega)) (by rw [Int32.zero_add]; exact k2_sum hA Sr (by omega))
    rw [nI_1]
    exact ih (i + 1) n _ h1 (by omega) (by omega) E1 h3
end SSAM
