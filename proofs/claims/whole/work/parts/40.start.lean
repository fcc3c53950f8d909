-- the law's entry
def stNm : List Cond := xNm.map (fun q => Cond.methodLinkNest RX1 q.1 q.2 RX1)
def stNf : List Cond := xNf.map (fun q => Cond.fieldLinkNest RX1 q.1 RX0 q.2.1 q.2.2 RX1)
def stSr : List Cond := xSt.map (fun q => Cond.stringRef RX1 q.1 q.2)
def stCs : List Cond := xCs.map (fun E => Cond.castable E E)
def stDc : List Cond := xDc.map (fun Y => Cond.declares (Bundle.initS Y))
theorem in_stNm : ∀ w ∈ stNm, w ∈ lw_tbl := by decide +kernel
theorem in_stNf : ∀ w ∈ stNf, w ∈ lw_tbl := by decide +kernel
theorem in_stSr : ∀ w ∈ stSr, w ∈ lw_tbl := by decide +kernel
theorem in_stCs : ∀ w ∈ stCs, w ∈ lw_tbl := by decide +kernel
theorem in_stDc : ∀ w ∈ stDc, w ∈ lw_tbl := by decide +kernel
theorem in_stZ : ∀ w ∈ [Cond.laysStatic Bundle.tN "UNASSIGNED_STACK" Bundle.steD, .laysStatic Bundle.tN "SUPPRESSED_SENTINEL" Bundle.listD, .initialized Bundle.tN, .castable "[I" "java/lang/Cloneable", .arrayOver (.array .int), .arrayClass .int, .arrayClass .long, .classLink RL 8 RX1, .instantiable RX1 2, .initialized RX1, .classLink RL 60 RX2, .instantiable RX2 7, .initialized RX2, .instantiable RX0 17, .methodLink RL 59 yX1_init, .instanceMethod yX1_init, .methodLink RL 62 yX2_init, .instanceMethod yX2_init], w ∈ lw_tbl := by decide +kernel
set_option maxHeartbeats 4000000 in
set_option maxRecDepth 100000 in
theorem st_E {s : State} {b : Addr} (hts0 : ∀ w ∈ lw_tbl, w.before #[Value.ref b] s = true) (hgv : (Jvm.Cond.and given_1 narrow_1).before #[Value.ref b] s = true) : yE (fun q : Nat => s.heap.size ≤ q) s ∧ mE (fun q : Nat => s.heap.size ≤ q) s := by
  have hgn := flat_of_before _ hgv
  have hA0 : ∀ a : Nat, a < s.heap.size → ¬ (fun q : Nat => s.heap.size ≤ q) a := fun a h => Nat.not_le.mpr h
  have hz := fun w h => hts0 w (in_stZ w h)
  refine ⟨⟨⟨vx_Zqof (hz (.laysStatic Bundle.tN "UNASSIGNED_STACK" Bundle.steD) (List.mem_of_getElem? (i := 0) rfl)) (hz (.initialized Bundle.tN) (List.mem_of_getElem? (i := 2) rfl)) (hgn (.isRef (.static Bundle.tN "UNASSIGNED_STACK" Bundle.steD)) (by decide +kernel)) hA0, vx_Zqof (hz (.laysStatic Bundle.tN "SUPPRESSED_SENTINEL" Bundle.listD) (List.mem_of_getElem? (i := 1) rfl)) (hz (.initialized Bundle.tN) (List.mem_of_getElem? (i := 2) rfl)) (hgn (.isRef (.static Bundle.tN "SUPPRESSED_SENTINEL" Bundle.listD)) (by decide +kernel)) hA0, fun q hq => ?_, fun q hq => ?_, fun q hq => ?_, fun E hE => ?_, fun Y hY => ?_⟩, fun q hq => ?_⟩, ?_, ?_⟩
  · have h1 := hts0 (.stringRef RX1 q.1 q.2) (in_stSr _ (List.mem_map.mpr ⟨q, hq, rfl⟩))
    have h2 : (Cond.exactly (.string RX1 q.1) "java/lang/String").before #[Value.ref b] s = true := hgn _ ((show ∀ q ∈ xSt, Cond.exactly (.string RX1 q.1) "java/lang/String" ∈ _ from by decide +kernel) q hq)
    obtain ⟨a, _, _, _, ha, -⟩ := Cond.exactly_spec h2
    exact ⟨a, vk_R.of h1 ha⟩
  · exact va_Nw.of rfl (hts0 _ (in_stNm _ (List.mem_map.mpr ⟨q, hq, rfl⟩)))
  · exact va_Nw.of rfl (hts0 _ (in_stNf _ (List.mem_map.mpr ⟨q, hq, rfl⟩)))
  · exact va_Nw.of rfl (hts0 _ (in_stCs _ (List.mem_map.mpr ⟨E, hE, rfl⟩)))
  · exact va_Nw.of rfl (hts0 _ (in_stDc _ (List.mem_map.mpr ⟨Y, hY, rfl⟩)))
  · exact va_Nc.of (hgn _ ((show ∀ q ∈ xNc, Cond.not (.castable q.1 q.2) ∈ _ from by decide +kernel) q hq))
  · exact va_Nw.of rfl (hz (.castable "[I" "java/lang/Cloneable") (List.mem_of_getElem? (i := 3) rfl))
  · exact hz (.arrayOver (.array .int)) (List.mem_of_getElem? (i := 4) rfl)
theorem st_K {s : State} {b : Addr} (hts0 : ∀ w ∈ lw_tbl, w.before #[Value.ref b] s = true) : ∃ (D : va_G) (Z : Nat → ClassId), zK D Z s := by
  have hz := fun w h => hts0 w (in_stZ w h)
  obtain ⟨c0, i0, k0⟩ := u_known (T := TX0) (N := 17) hts0 inX0 (hz (.instantiable RX0 17) (List.mem_of_getElem? (i := 13) rfl))
  obtain ⟨c1, i1, k1⟩ := u_known (T := TX1) (N := 2) hts0 inX1 (hz (.instantiable RX1 2) (List.mem_of_getElem? (i := 8) rfl))
  obtain ⟨c2, i2, k2⟩ := u_known (T := TX2) (N := 7) hts0 inX2 (hz (.instantiable RX2 7) (List.mem_of_getElem? (i := 11) rfl))
  obtain ⟨z0, kA0, p0, f1, f2, f3⟩ := Cond.arrayClass_spec (hz (.arrayClass .int) (List.mem_of_getElem? (i := 5) rfl))
  obtain ⟨z1, kA1, p1, g1, g2, g3⟩ := Cond.arrayClass_spec (hz (.arrayClass .long) (List.mem_of_getElem? (i := 6) rfl))
  obtain ⟨p2, z2, kA2, h1, h2, h3, h4, h5⟩ := arrayOverA_spec (hz (.arrayOver (.array .int)) (List.mem_of_getElem? (i := 4) rfl))
  refine ⟨(fun c => match c with | 0 => c0 | 1 => c1 | _ => c2, fun c => match c with | 0 => i0 | 1 => i1 | _ => i2), fun k => match k with | 0 => z0 | 1 => z1 | _ => z2, fun c q hc => ?_, fun k q hk => ?_⟩
  · match c, hc with
    | 0, hc => cases hc; exact k0
    | 1, hc => cases hc; exact k1
    | 2, hc => cases hc; exact k2
  · match k, hk with
    | 0, hk => cases hk; exact ⟨fun n z => ⟨fun k h => (by cases h), kA0, f2, p0, f3⟩, f1⟩
    | 1, hk => cases hk; exact ⟨fun n z => ⟨fun k h => (by cases h), kA1, g2, p1, g3⟩, g1⟩
    | 2, hk => cases hk; exact ⟨fun n z => ⟨fun k h => (by cases h), kA2, h3, p2, h4⟩, h5⟩
set_option maxHeartbeats 8000000 in
set_option maxRecDepth 100000 in
theorem whole_start {p : Program} {e : Env} {s : State} {m : MethodId} {below : List Frame} {meth : Method} {c : Code} (l : Launch) (hflags : l.flags = flags0) {b L : Nat} {xs : Nat → Int32} (hL : L ≤ 1536) (C0 : lw_At p s m meth c b L xs) : W p l e room_1 s m #[Value.ref b] below meth c s.heap [] 0 0 (lw_Z below #[Value.ref b] s) (entryFrame m ([Value.ref b] : List Value).toArray 9) := by
  have htr : l.stackTraces = false := by unfold Launch.stackTraces; rw [hflags]; decide
  have C1 := C0
  obtain ⟨hx, hb, hr, hml, hown, hts0, hX, hbl, hlocks, hgv⟩ := C0
  have hown : s.vm.findClass RL = some m.cls := hown
  have hts : ∀ w ∈ wsL_law, w.before #[Value.ref b] s = true := fun w h => hts0 w (wsL_law_in w h)
  have hz := fun w h => hts0 w (in_stZ w h)
  obtain ⟨hyE, hmE⟩ := st_E hts0 hgv
  obtain ⟨D, Z, hK⟩ := st_K hts0
  have hA : ∀ q : Nat, s.heap.size ≤ q → (fun q : Nat => s.heap.size ≤ q) q := fun _ h => h
  have hl := lv_entry [Value.ref b] (n := 9) (Nat.le_of_ble_eq_true rfl)
  rw [lg_entry_eq]
  generalize (lg_sl [Value.ref b] ++ List.replicate (9 - (lg_sl [Value.ref b]).length) Slot.unset).toArray = ls at hl ⊢
  have hl : lv_has ls 9 [(0, .ref b)] := hl
  have hP : va_P D vwCl [] s.heap := fun k q h => by cases h
  have hD : va_D (fun q : Nat => s.heap.size ≤ q) [] := ⟨(fun i j p q h => by cases h), (fun k q h => by cases h)⟩
  have hS : va_S (fun q : Nat => s.heap.size ≤ q) s.heap s.heap [] := va_S.rf
  show W p l e room_1 s m #[Value.ref b] below meth c s.heap [] 0 0 (lw_Z below #[Value.ref b] s) (F0 m 0 ls [])
  refine va_new (ci := 1) (fs := [.null, .null]) (C := RX1) (T := TX1) (N := 2) hx hb hts0 inX1 tyX1 tyX1_ok hown (hz (.classLink RL 8 RX1) (List.mem_of_getElem? (i := 7) rfl)) (hz (.instantiable RX1 2) (List.mem_of_getElem? (i := 8) rfl)) (hz (.initialized RX1) (List.mem_of_getElem? (i := 9) rfl)) hK hP hD hS hA rfl (fun j hj => co_dec (N := 2) (P := fun j => defaultValue (tyX1 j) = vp_V [.null, .null] j) (by decide) hj) (Nat.le_of_ble_eq_true rfl) (Nat.le_of_ble_eq_true rfl) dL_law_0 (fun o H hP hD hS => ?_)
  have hP : va_P D vwCl [(o, .inr (1, [.null, .null]))] H := hP
  have hD : va_D (fun q : Nat => s.heap.size ≤ q) [(o, .inr (1, [.null, .null]))] := hD
  refine lv_dup hx hb dL_law_3 rfl ?_
  have hFc := va_free (wc := [(o, .inr (1, [.null, .null]))]) hD hS hA [0] rfl
  refine va_callv (va_runI (As := []) (rest := [.ref o]) ⟨hx, hb, hml, hown, hts⟩ (m_X1_init l D Z o H.size) (cwI 0 hts gL_law_X1_init rfl rfl rfl (hz (.initialized RX1) (List.mem_of_getElem? (i := 9) rfl)) (hz (.methodLink RL 59 yX1_init) (List.mem_of_getElem? (i := 14) rfl)) (hz (.instanceMethod yX1_init) (List.mem_of_getElem? (i := 15) rfl)) rfl (by decide +kernel) ⟨Nat.le_of_ble_eq_true rfl, Nat.le_of_ble_eq_true rfl⟩) ⟨g_blind xE_ok, g_pre xE_ok hyE.1 hS (z_hF hD hS hA) hK hP hD⟩ rfl rfl hl.1 rfl (lv_room (Nat.le_of_ble_eq_true rfl)) dL_law_4 ⟨Nat.le_of_ble_eq_true rfl, Nat.le_of_ble_eq_true rfl⟩) hS (fun q _ h => hFc q h) hFc (fun u t H1 locs ht _ _ hB _ hk1 hS => ?_)
  obtain ⟨hP1, hD1⟩ := hB
  rw [ht] at hP1
  obtain ⟨hP, hD⟩ := va_join (wr := []) (w1 := owl Z o u.1 u.2 rI0 rI0) hP hD [0] [] rfl rfl (by decide) (by decide) hk1 hFc hP1 hD1
  have hP : va_P D vwCl (owl Z o u.1 u.2 rI0 rI0) H1 := hP
  have hD : va_D (fun q : Nat => s.heap.size ≤ q) (owl Z o u.1 u.2 rI0 rI0) := hD
  refine lv_astore_n (lv' := [(1, .ref o), (0, .ref b)]) hx hb dL_law_7 rfl hl (by decide) rfl (fun ls hl => ?_)
  refine va_new (ci := 2) (fs := [.int 0, .int 0, .int 0, .null, .null, .null, .null]) (C := RX2) (T := TX2) (N := 7) hx hb hts0 inX2 tyX2 tyX2_ok hown (hz (.classLink RL 60 RX2) (List.mem_of_getElem? (i := 10) rfl)) (hz (.instantiable RX2 7) (List.mem_of_getElem? (i := 11) rfl)) (hz (.initialized RX2) (List.mem_of_getElem? (i := 12) rfl)) hK hP hD hS hA rfl (fun j hj => co_dec (N := 7) (P := fun j => defaultValue (tyX2 j) = vp_V [.int 0, .int 0, .int 0, .null, .null, .null, .null] j) (by decide) hj) (Nat.le_of_ble_eq_true rfl) (Nat.le_of_ble_eq_true rfl) dL_law_8 (fun h0 H hP hD hS => ?_)
  have hP : va_P D vwCl (owl Z o u.1 u.2 rI0 rI0 ++ [(h0, .inr (2, [.int 0, .int 0, .int 0, .null, .null, .null, .null]))]) H := hP
  have hD : va_D (fun q : Nat => s.heap.size ≤ q) (owl Z o u.1 u.2 rI0 rI0 ++ [(h0, .inr (2, [.int 0, .int 0, .int 0, .null, .null, .null, .null]))]) := hD
  refine lv_dup hx hb dL_law_11 rfl ?_
  have hPc := hP.sub (ws' := [(h0, .inr (2, [.int 0, .int 0, .int 0, .null, .null, .null, .null]))]) [25] rfl
  have hDc := hD.sub (ws' := [(h0, .inr (2, [.int 0, .int 0, .int 0, .null, .null, .null, .null]))]) [25] (by decide) rfl
  have hFc := va_free (wc := [(h0, .inr (2, [.int 0, .int 0, .int 0, .null, .null, .null, .null]))]) hD hS hA [25] rfl
  refine va_callv (va_runI (As := []) (rest := [.ref h0]) ⟨hx, hb, hml, hown, hts⟩ (m_X2_init l D Z h0 H.size) (cwI 0 hts gL_law_X2_init rfl rfl rfl (hz (.initialized RX2) (List.mem_of_getElem? (i := 12) rfl)) (hz (.methodLink RL 62 yX2_init) (List.mem_of_getElem? (i := 16) rfl)) (hz (.instanceMethod yX2_init) (List.mem_of_getElem? (i := 17) rfl)) rfl (by decide +kernel) ⟨Nat.le_of_ble_eq_true rfl, Nat.le_of_ble_eq_true rfl⟩) ⟨z_blind, z_pre hK hPc hDc⟩ rfl rfl hl.1 rfl (lv_room (Nat.le_of_ble_eq_true rfl)) dL_law_12 ⟨Nat.le_of_ble_eq_true rfl, Nat.le_of_ble_eq_true rfl⟩) hS (fun q _ h => hFc q h) hFc (fun g t H1 locs ht _ hg0 hB _ hk1 hS => ?_)
  obtain ⟨hP1, hD1⟩ := hB
  rw [ht] at hP1
  obtain ⟨hP, hD⟩ := va_join (wr := owl Z o u.1 u.2 rI0 rI0) (w1 := mwl Z g mI0) hP hD [25] [0, 1, 2, 3, 4, 5, 6, 7, 8, 9, 10, 11, 12, 13, 14, 15, 16, 17, 18, 19, 20, 21, 22, 23, 24] rfl rfl (by decide) (by decide) hk1 hFc hP1 hD1
  have hP : va_P D vwCl (owl Z o u.1 u.2 rI0 rI0 ++ mwl Z g mI0) H1 := hP
  have hD : va_D (fun q : Nat => s.heap.size ≤ q) (owl Z o u.1 u.2 rI0 rI0 ++ mwl Z g mI0) := hD
  have hg0 : g 0 = h0 := hg0
  rw [← hg0]
  refine lv_astore_n (lv' := [(2, .ref (g 0)), (1, .ref o), (0, .ref b)]) hx hb dL_law_15 rfl hl (by decide) rfl (fun ls hl => ?_)
  refine lv_iconst (v := 1) hx hb dL_law_16 (by decide) ?_
  refine va_newa (atype := .long) (ty := .long) (N' := 1) (a0 := (1, .inr (.inl (fun _ => 0)))) hx hb (hz (.arrayClass .long) (List.mem_of_getElem? (i := 6) rfl)) rfl hK hP hD hS hA (fun _ => rfl) (by decide) (by decide) (by decide) (Nat.le_of_ble_eq_true rfl) (Nat.le_of_ble_eq_true rfl) dL_law_17 (fun q cA H hK1 hP hD hS => ?_)
  have e1 : s.vm.findClass ("[" ++ FieldType.long.toString) = some cA := (hK1.2 3 (cA, .long) rfl).2
  have e2 : s.vm.findClass ("[" ++ FieldType.long.toString) = some (Z 1) := (hK.2 1 (Z 1, .long) rfl).2
  have e3 : cA = Z 1 := Option.some.inj (e1.symm.trans e2)
  subst e3
  have hP : va_P D vwCl (lwl Z o u.1 u.2 rI0 rI0 g mI0 q (fun _ => 0)) H := by
    unfold lwl
    rw [← List.append_assoc]
    exact hP
  have hD : va_D (fun q : Nat => s.heap.size ≤ q) (lwl Z o u.1 u.2 rI0 rI0 g mI0 q (fun _ => 0)) := by
    unfold lwl
    rw [← List.append_assoc]
    exact hD
  refine lv_astore_n (lv' := [(3, .ref q), (2, .ref (g 0)), (1, .ref o), (0, .ref b)]) hx hb dL_law_19 rfl hl (by decide) rfl (fun ls hl => ?_)
  refine lv_iconst (v := 0) hx hb dL_law_20 (by decide) ?_
  refine lv_istore (lv' := [(4, .int 0), (3, .ref q), (2, .ref (g 0)), (1, .ref o), (0, .ref b)]) hx hb dL_law_21 hl (by decide) rfl (fun ls hl => ?_)
  refine W.base ?_
  refine W.widen (k := 40 + 8 * 0) (n := 2000 + 300 * 0) (Nat.le_of_ble_eq_true rfl) (Nat.le_of_ble_eq_true rfl) ?_
  exact law_loop sim_all htr hL C1 hK hyE hmE o q u.1 u.2 g 514 0 0 rfl rfl rI0 rI0 mI0 (fun _ => 0) sim_start H _ hP hD hS s.drawn (Drawn.sameBut.refl s.drawn lw_cs) ls (lv_sub hl [4, 3, 2, 1, 0] rfl)
