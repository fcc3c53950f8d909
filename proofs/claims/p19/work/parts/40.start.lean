-- the law's entry
def stNm : List Cond := xNm.map (fun q => Cond.methodLinkNest RX1 q.1 q.2 RX1)
def stNf : List Cond := xNf.map (fun q => Cond.fieldLinkNest RX1 q.1 RX0 q.2.1 q.2.2 RX1)
def stSr : List Cond := xSt.map (fun q => Cond.stringRef RX1 q.1 q.2)
def stCs : List Cond := xCs.map (fun E => Cond.castable E E)
def stDc : List Cond := xDc.map (fun Y => Cond.declares (Bundle.initS Y))
theorem in_stNm : ∀ w ∈ stNm, w ∈ lw_tbl := by decide +kernel
theorem in_stNf : ∀ w ∈ stNf, w ∈ lw_tbl := by decide +kernel
theorem in_stSr : ∀ w ∈ stSr, w ∈ lw_tbl := by decide +kernel
theorem in_stCs : ∀ w ∈ stCs, w ∈ lw_tbl := by decide +kernel
theorem in_stDc : ∀ w ∈ stDc, w ∈ lw_tbl := by decide +kernel
def stZl : List Cond := [Cond.laysStatic Bundle.tN "UNASSIGNED_STACK" Bundle.steD, .laysStatic Bundle.tN "SUPPRESSED_SENTINEL" Bundle.listD, .initialized Bundle.tN, .arrayOver (.array .int), .arrayOver (.array (.array .int)), .arrayOver (.object RX2), .arrayClass .int, .classLink RL 30 RX1, .instantiable RX1 2, .initialized RX1, .instantiable RX0 17, .instantiable RX2 7, .instantiable RX3 8, .methodLink RL 85 yX1_init, .instanceMethod yX1_init, .methodLinkNest RL 39 yX2_init RL, .methodLinkNest RL 70 yX3_init RL]
theorem in_stZ : ∀ w ∈ stZl, w ∈ lw_tbl := by decide +kernel
set_option maxHeartbeats 4000000 in
set_option maxRecDepth 100000 in
theorem st_E {s : State} {b : Addr} (hts0 : ∀ w ∈ lw_tbl, w.before #[Value.ref b] s = true) (hgv : (Jvm.Cond.and given_1 narrow_1).before #[Value.ref b] s = true) : pE (fun q : Nat => s.heap.size ≤ q) s := by
  have hgn := flat_of_before _ hgv
  have hA0 : ∀ a : Nat, a < s.heap.size → ¬ (fun q : Nat => s.heap.size ≤ q) a := fun a h => Nat.not_le.mpr h
  have hz := fun w h => hts0 w (in_stZ w h)
  refine ⟨⟨vx_Zqof (hz (.laysStatic Bundle.tN "UNASSIGNED_STACK" Bundle.steD) (List.mem_of_getElem? (i := 0) rfl)) (hz (.initialized Bundle.tN) (List.mem_of_getElem? (i := 2) rfl)) (hgn (.isRef (.static Bundle.tN "UNASSIGNED_STACK" Bundle.steD)) (by decide +kernel)) hA0, vx_Zqof (hz (.laysStatic Bundle.tN "SUPPRESSED_SENTINEL" Bundle.listD) (List.mem_of_getElem? (i := 1) rfl)) (hz (.initialized Bundle.tN) (List.mem_of_getElem? (i := 2) rfl)) (hgn (.isRef (.static Bundle.tN "SUPPRESSED_SENTINEL" Bundle.listD)) (by decide +kernel)) hA0, fun q hq => ?_, fun q hq => ?_, fun q hq => ?_, fun E hE => ?_, fun Y hY => ?_⟩, ?_, ?_, ?_, ?_, ?_⟩
  · have h1 := hts0 (.stringRef RX1 q.1 q.2) (in_stSr _ (List.mem_map.mpr ⟨q, hq, rfl⟩))
    have h2 : (Cond.exactly (.string RX1 q.1) "java/lang/String").before #[Value.ref b] s = true := hgn _ ((show ∀ q ∈ xSt, Cond.exactly (.string RX1 q.1) "java/lang/String" ∈ _ from by decide +kernel) q hq)
    obtain ⟨a, _, _, _, ha, -⟩ := Cond.exactly_spec h2
    exact ⟨a, vk_R.of h1 ha⟩
  · exact va_Nw.of rfl (hts0 _ (in_stNm _ (List.mem_map.mpr ⟨q, hq, rfl⟩)))
  · exact va_Nw.of rfl (hts0 _ (in_stNf _ (List.mem_map.mpr ⟨q, hq, rfl⟩)))
  · exact va_Nw.of rfl (hts0 _ (in_stCs _ (List.mem_map.mpr ⟨E, hE, rfl⟩)))
  · exact va_Nw.of rfl (hts0 _ (in_stDc _ (List.mem_map.mpr ⟨Y, hY, rfl⟩)))
  · exact hz (.arrayOver (.array .int)) (List.mem_of_getElem? (i := 3) rfl)
  · exact hz (.arrayOver (.array (.array .int))) (List.mem_of_getElem? (i := 4) rfl)
  · exact va_AO.of (hz (.arrayOver (.object RX2)) (List.mem_of_getElem? (i := 5) rfl))
  · exact va_Nw.of rfl (hz (.methodLinkNest RL 39 yX2_init RL) (List.mem_of_getElem? (i := 15) rfl))
  · exact va_Nw.of rfl (hz (.methodLinkNest RL 70 yX3_init RL) (List.mem_of_getElem? (i := 16) rfl))
theorem st_K {s : State} {b : Addr} (hts0 : ∀ w ∈ lw_tbl, w.before #[Value.ref b] s = true) : ∃ (D : va_G) (Z : Nat → ClassId), zK D Z s := by
  have hz := fun w h => hts0 w (in_stZ w h)
  obtain ⟨c0, i0, k0⟩ := u_known (T := TX0) (N := 17) hts0 inX0 (hz (.instantiable RX0 17) (List.mem_of_getElem? (i := 10) rfl))
  obtain ⟨c1, i1, k1⟩ := u_known (T := TX1) (N := 2) hts0 inX1 (hz (.instantiable RX1 2) (List.mem_of_getElem? (i := 8) rfl))
  obtain ⟨c2, i2, k2⟩ := u_known (T := TX2) (N := 7) hts0 inX2 (hz (.instantiable RX2 7) (List.mem_of_getElem? (i := 11) rfl))
  obtain ⟨c3, i3, k3⟩ := u_known (T := TX3) (N := 8) hts0 inX3 (hz (.instantiable RX3 8) (List.mem_of_getElem? (i := 12) rfl))
  obtain ⟨z0, kA0, p0, f1, f2, f3⟩ := Cond.arrayClass_spec (hz (.arrayClass .int) (List.mem_of_getElem? (i := 6) rfl))
  obtain ⟨p1, z1, kA1, g1, g2, g3, g4, g5⟩ := Cond.arrayOver_spec (hz (.arrayOver (.object RX2)) (List.mem_of_getElem? (i := 5) rfl))
  obtain ⟨p2, z2, kA2, h1, h2, h3, h4, h5⟩ := arrayOverA_spec (hz (.arrayOver (.array .int)) (List.mem_of_getElem? (i := 3) rfl))
  obtain ⟨p3, z3, kA3, e1, e2, e3, e4, e5⟩ := arrayOverA_spec (hz (.arrayOver (.array (.array .int))) (List.mem_of_getElem? (i := 4) rfl))
  refine ⟨(fun c => match c with | 0 => c0 | 1 => c1 | 2 => c2 | _ => c3, fun c => match c with | 0 => i0 | 1 => i1 | 2 => i2 | _ => i3), fun k => match k with | 0 => z0 | 1 => z1 | 2 => z2 | _ => z3, fun c q hc => ?_, fun k q hk => ?_⟩
  · match c, hc with
    | 0, hc => cases hc; exact k0
    | 1, hc => cases hc; exact k1
    | 2, hc => cases hc; exact k2
    | 3, hc => cases hc; exact k3
  · match k, hk with
    | 0, hk => cases hk; exact ⟨fun n z => ⟨fun k h => (by cases h), kA0, f2, p0, f3⟩, f1⟩
    | 1, hk => cases hk; exact ⟨fun n z => ⟨fun k h => (by cases h), kA1, g3, p1, g4⟩, kA1, p1, g3, g4, g1, g5⟩
    | 2, hk => cases hk; exact ⟨fun n z => ⟨fun k h => (by cases h), kA2, h3, p2, h4⟩, h5⟩
    | 3, hk => cases hk; exact ⟨fun n z => ⟨fun k h => (by cases h), kA3, e3, p3, e4⟩, e5⟩
set_option maxHeartbeats 8000000 in
set_option maxRecDepth 100000 in
theorem start_of {p : Program} {e : Env} {s : State} {m : MethodId} {below : List Frame} {meth : Method} {c : Code} (l : Launch) {b L : Nat} {xs : Nat → Int32} (hpure : ∀ Z : Nat → ClassId, wf_L_law Z L xs (lawEnd Z) rI0 rI0 h00) (C0 : lw_At p s m meth c b L xs) : W p l e room_1 s m #[Value.ref b] below meth c s.heap [] 0 0 (lw_Z below #[Value.ref b] s) (entryFrame m ([Value.ref b] : List Value).toArray 22) := by
  obtain ⟨hx, hb, hr, hml, hown, hts0, hX, hbl, hlocks, hgv⟩ := C0
  have hown : s.vm.findClass RL = some m.cls := hown
  have hts : ∀ w ∈ wsL_law, w.before #[Value.ref b] s = true := fun w h => hts0 w (wsL_law_in w h)
  have hz := fun w h => hts0 w (in_stZ w h)
  have hpE := st_E hts0 hgv
  obtain ⟨D, Z, hK⟩ := st_K hts0
  have hA : ∀ q : Nat, s.heap.size ≤ q → (fun q : Nat => s.heap.size ≤ q) q := fun _ h => h
  have hl := lv_entry [Value.ref b] (n := 22) (Nat.le_of_ble_eq_true rfl)
  rw [lg_entry_eq]
  generalize (lg_sl [Value.ref b] ++ List.replicate (22 - (lg_sl [Value.ref b]).length) Slot.unset).toArray = ls at hl ⊢
  have hl : lv_has ls 22 [(0, .ref b)] := hl
  have hP : va_P D vwCl [] s.heap := fun k q h => by cases h
  have hD : va_D (fun q : Nat => s.heap.size ≤ q) [] := ⟨(fun i j p q h => by cases h), (fun k q h => by cases h)⟩
  have hS : va_S (fun q : Nat => s.heap.size ≤ q) s.heap s.heap [] := va_S.rf
  show W p l e room_1 s m #[Value.ref b] below meth c s.heap [] 0 0 (lw_Z below #[Value.ref b] s) (F0 m 0 ls [])
  refine va_new (ci := 1) (fs := [.null, .null]) (C := RX1) (T := TX1) (N := 2) hx hb hts0 inX1 tyX1 tyX1_ok hown (hz (.classLink RL 30 RX1) (List.mem_of_getElem? (i := 7) rfl)) (hz (.instantiable RX1 2) (List.mem_of_getElem? (i := 8) rfl)) (hz (.initialized RX1) (List.mem_of_getElem? (i := 9) rfl)) hK hP hD hS hA rfl (fun j hj => co_dec (N := 2) (P := fun j => defaultValue (tyX1 j) = vp_V [.null, .null] j) (by decide) hj) (Nat.le_of_ble_eq_true rfl) (Nat.le_of_ble_eq_true rfl) dL_law_0 (fun o H hP hD hS => ?_)
  have hP : va_P D vwCl [(o, .inr (1, [.null, .null]))] H := hP
  have hD : va_D (fun q : Nat => s.heap.size ≤ q) [(o, .inr (1, [.null, .null]))] := hD
  refine lv_dup hx hb dL_law_3 rfl ?_
  have hFc := va_free (wc := [(o, .inr (1, [.null, .null]))]) hD hS hA [0] rfl
  refine va_callv (va_runI (As := []) (rest := [.ref o]) ⟨hx, hb, hml, hown, hts⟩ (m_X1_init l D Z o H.size) (cwI 0 hts gL_law_X1_init rfl rfl rfl (hz (.initialized RX1) (List.mem_of_getElem? (i := 9) rfl)) (hz (.methodLink RL 85 yX1_init) (List.mem_of_getElem? (i := 13) rfl)) (hz (.instanceMethod yX1_init) (List.mem_of_getElem? (i := 14) rfl)) rfl (by decide +kernel) ⟨Nat.le_of_ble_eq_true rfl, Nat.le_of_ble_eq_true rfl⟩) ⟨g_blind xE_ok, g_pre xE_ok hpE.1 hS (z_hF hD hS hA) hK hP hD⟩ rfl rfl hl.1 rfl (lv_room (Nat.le_of_ble_eq_true rfl)) dL_law_4 ⟨Nat.le_of_ble_eq_true rfl, Nat.le_of_ble_eq_true rfl⟩) hS (fun q _ h => hFc q h) hFc (fun u t H1 locs ht _ _ hB _ hk1 hS => ?_)
  obtain ⟨hP1, hD1⟩ := hB
  rw [ht] at hP1
  obtain ⟨hP, hD⟩ := va_join (wr := []) (w1 := owl Z o u.1 u.2 rI0 rI0) hP hD [0] [] rfl rfl (by decide) (by decide) hk1 hFc hP1 hD1
  have hP : va_P D vwCl (hw (owl Z o u.1 u.2 rI0 rI0) h00) H1 := by
    unfold hw
    show va_P D vwCl (owl Z o u.1 u.2 rI0 rI0 ++ []) H1
    rw [List.append_nil]
    exact hP
  have hD : va_D (fun q : Nat => s.heap.size ≤ q) (hw (owl Z o u.1 u.2 rI0 rI0) h00) := by
    unfold hw
    show va_D _ (owl Z o u.1 u.2 rI0 rI0 ++ [])
    rw [List.append_nil]
    exact hD
  refine lv_astore_n (lv' := [(1, .ref o), (0, .ref b)]) hx hb dL_law_7 rfl hl (by decide) rfl (fun ls hl => ?_)
  have hsE : sE b L xs (fun q : Nat => s.heap.size ≤ q) s := ⟨hpE, hX, hbl, Nat.not_le.mpr hbl⟩
  refine x_L_law D Z o u.1 u.2 b L xs (lawEnd Z) rI0 rI0 h00 _ _ (Nat.le_of_ble_eq_true rfl) (Nat.le_of_ble_eq_true rfl) H1 locs (hpure Z) ⟨hx, hb, hr, hml, hown, hts, hlocks, rfl⟩ hsE hA hP hK hD hS ?_ ls (lv_sub hl [1, 0] rfl)
  clear hl hP hD hS hk1 hP1 hD1 ht
  intro x2 u1 cc sc H locs ls hf hcc hsc hP hD hS hl
  obtain ⟨⟨hrc1, fs, hrc2⟩, hf⟩ := hf
  obtain ⟨j, hj⟩ := hw_get (X := owl Z o u.1 u.2 u1.1 u1.2.1) hrc1
  rw [hrc2] at hj
  refine lv_aload_n hx hb dL_law_708 rfl (lv_at hl 2 rfl) ?_
  refine lv_aload_n hx hb dL_law_709 rfl (lv_at hl 1 rfl) ?_
  have hF := hw_F0 hD hS hA
  refine W.base ?_
  refine va_calliD (Drawn.sameBut.refl s.drawn lw_cs) (va_runV_D (As := [.ref o]) (rest := []) ⟨hx, hb, hml, hown, dr_words hts s.drawn⟩ (m_X3_isSame l D Z o u.1 u.2 x2 (fun _ => True) u1 hf H.size) (cwV 1 (dr_words hts s.drawn) gL_law_X3_isSame rfl rfl rfl hdv_X3_isSame ⟨Nat.le_of_ble_eq_true rfl, Nat.le_of_ble_eq_true rfl⟩) ⟨g_blind pE_ok, va_recv hK hP (ci := 3) (q0 := j) rfl hj, g_pre pE_ok hpE hS (hw_F0 hD hS hA) hK hP hD⟩ rfl rfl hl.1 rfl (lv_room (Nat.le_of_ble_eq_true rfl)) dL_law_710 ⟨by show cc + 23 ≤ 1200172; omega, by show sc + 149 ≤ 5500668; omega⟩) hS (fun q _ h => hF q h) hF (fun r u9 t9 H1 locs ht _ hq hB _ hk hS d1 hd1 => ?_)
  obtain ⟨rfl, -⟩ := hq
  refine va_forget (fun q hq => hS.2.2 q hq) ?_
  refine W.widen (k := 1200172) (n := 5500668) (by omega) (by omega) ?_
  exact lw_ret hd1 hx hb hr hlocks dL_law_713
theorem whole_start {p : Program} {e : Env} {s : State} {m : MethodId} {below : List Frame} {meth : Method} {c : Code} (l : Launch) (hflags : l.flags = flags0) {b L : Nat} {xs : Nat → Int32} (hL : L ≤ 260) (C0 : lw_At p s m meth c b L xs) : W p l e room_1 s m #[Value.ref b] below meth c s.heap [] 0 0 (lw_Z below #[Value.ref b] s) (entryFrame m ([Value.ref b] : List Value).toArray 22) := start_of l (fun Z => law_pure Z L xs hL) C0
