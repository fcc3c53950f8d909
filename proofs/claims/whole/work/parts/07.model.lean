def f_X2_thrown  (S : RS)  : Option (Int32) :=
  some (S.1 0)
abbrev rm_X2_thrown : Room := { frames := 0, cells := 0, slots := 0, locals := 0 }
theorem hdv_X2_thrown : yX2_thrown.cls = RX2 ∧ yX2_thrown.cls ≠ "java/lang/invoke/MethodHandle" ∧ yX2_thrown.cls ≠ "java/lang/invoke/VarHandle" ∧ (parseMethodDescriptor yX2_thrown.desc).map (fun d => d.parameters.length) = some 0 := by decide +kernel
set_option maxHeartbeats 4000000 in
set_option maxRecDepth 100000 in
theorem m_X2_thrown (l : Launch) (D : va_G) (Z : Nat → ClassId) (a : Nat → Nat) (S : RS)  (r : Int32) (hf : f_X2_thrown S = some r) : ROi l yX2_thrown wsX2_thrown rm_X2_thrown D Z [.ref (a 0)] (mwl Z a S) r := by
  refine ROi.of (cc := cX2_thrown) (nL := 1) (ret := (some .int)) (by decide +kernel) rfl (Nat.le_of_ble_eq_true rfl) ?_
  intro p e s m below meth c hC hA hP hK hD hS ls hl
  obtain ⟨hx, hb, hr, hml, hown, hts, hlk, -⟩ := hC
  have hown : s.vm.findClass RX2 = some m.cls := hown
  have hin : ∀ w ∈ wsX20, w ∈ wsX2_thrown := fun w h => List.mem_cons_of_mem _ (List.mem_append_right _ h)
  have hl : lv_has ls 1 [(0, .ref (a 0))] := hl
  unfold f_X2_thrown at hf
  refine lv_aload_n hx hb dX2_thrown_0 rfl (lv_at hl 0 rfl) ?_
  refine va_get (D := D) (ci := 2) (v := .int (S.1 0)) (C := RX2) (T := TX2) (N := 7) hx hb hts hin hown hK hP 0 rfl rfl 0 (by decide) (hts (.fieldLink RX2 22 "PodGuidewayModel" "thrown" "I") (List.mem_of_getElem? (i := 1) rfl)) (fun _ h9 => h9) rfl dX2_thrown_1 ?_
  exact zr_i hx hb hr hlk hS (Option.some.inj hf) dX2_thrown_4
def f_X2_fail  (S : RS) (p1 : Int32) : Option (Int32 × RS) :=
  lt (sI S 0 p1) fun (S1 : RS) =>
  some (0, S1)
abbrev rm_X2_fail : Room := { frames := 0, cells := 0, slots := 0, locals := 0 }
theorem hdv_X2_fail : yX2_fail.cls = RX2 ∧ yX2_fail.cls ≠ "java/lang/invoke/MethodHandle" ∧ yX2_fail.cls ≠ "java/lang/invoke/VarHandle" ∧ (parseMethodDescriptor yX2_fail.desc).map (fun d => d.parameters.length) = some 1 := by decide +kernel
set_option maxHeartbeats 4000000 in
set_option maxRecDepth 100000 in
theorem m_X2_fail (l : Launch) (D : va_G) (Z : Nat → ClassId) (a : Nat → Nat) (S : RS) (p1 : Int32) (S' : RS) (r : Int32) (hf : f_X2_fail S p1 = some (r, S')) : RWi l yX2_fail wsX2_fail rm_X2_fail D Z [.ref (a 0), .int p1] (mwl Z a S) (mwl Z a S') r 0 0 := by
  refine RWi.of (cc := cX2_fail) (nL := 2) (ret := (some .int)) (by decide +kernel) rfl (Nat.le_of_ble_eq_true rfl) ?_
  intro p e s m below meth c A hC hA hP hK hD hS ls hl
  obtain ⟨hx, hb, hr, hml, hown, hts, hlk, -⟩ := hC
  have hown : s.vm.findClass RX2 = some m.cls := hown
  have hin : ∀ w ∈ wsX20, w ∈ wsX2_fail := fun w h => List.mem_cons_of_mem _ (List.mem_append_right _ h)
  have hl : lv_has ls 2 [(0, .ref (a 0)), (1, .int p1)] := hl
  unfold f_X2_fail at hf
  refine lv_aload_n hx hb dX2_fail_0 rfl (lv_at hl 0 rfl) ?_
  refine lv_iload_n hx hb dX2_fail_1 rfl (lv_at hl 1 rfl) ?_
  refine va_put (D := D) (ci := 2) (v := .int p1) (ty := .int) (C := RX2) (T := TX2) (N := 7) hx hb hts hin tyX2 tyX2_ok nmX2 hown hK hP hD hS 0 rfl rfl 0 (by decide) (hts (.fieldLink RX2 22 "PodGuidewayModel" "thrown" "I") (List.mem_of_getElem? (i := 1) rfl)) (fun _ h9 => h9) rfl (by decide +kernel) rfl rfl (Nat.le_of_ble_eq_true rfl) dX2_fail_2 (fun H locs hP hD hS => ?_)
  obtain ⟨S1, eS1, hf⟩ := lt_ex hf
  have hP : va_P D vwCl (mwl Z a S1) H := by rw [eS1]; exact hP
  have hD : va_D A (mwl Z a S1) := by rw [eS1]; exact hD
  refine lv_iconst (v := 0) hx hb dX2_fail_5 (by decide) ?_
  exact zw_i hx hb hr hlk hP hD hS (congrArg (fun z => ((mwl Z a z) : va_W)) (pr2 hf)) (pr1 hf) (Nat.le_of_ble_eq_true rfl) (Nat.le_of_ble_eq_true rfl) dX2_fail_6
def f_X2_isIn   (p0 : Int32) (p1 : Int32) (p2 : Int32) : Option (Int32) :=
  if p0 < p1 then
    some 0
  else
    if p2 < p0 then
      some 0
    else
      some 1
abbrev rm_X2_isIn : Room := { frames := 0, cells := 0, slots := 0, locals := 0 }
theorem hds_X2_isIn : yX2_isIn.cls ≠ "java/lang/invoke/MethodHandle" ∧ yX2_isIn.cls ≠ "java/lang/invoke/VarHandle" ∧ (parseMethodDescriptor yX2_isIn.desc).map (fun d => d.parameters.length) = some 3 := by decide +kernel
set_option maxHeartbeats 4000000 in
set_option maxRecDepth 100000 in
theorem m_X2_isIn (l : Launch) (D : va_G) (Z : Nat → ClassId)   (p0 : Int32) (p1 : Int32) (p2 : Int32) (r : Int32) (hf : f_X2_isIn p0 p1 p2 = some r) : ROz l yX2_isIn wsX2_isIn rm_X2_isIn D Z [.int p0, .int p1, .int p2] ([] : va_W) r := by
  refine ROz.of (cc := cX2_isIn) (nL := 3) (ret := (some .boolean)) (by decide +kernel) rfl (Nat.le_of_ble_eq_true rfl) ?_
  intro p e s m below meth c hC hA hP hK hD hS ls hl
  obtain ⟨hx, hb, hr, hml, hown, hts, hlk, -⟩ := hC
  have hown : s.vm.findClass RX2 = some m.cls := hown
  have hl : lv_has ls 3 [(0, .int p0), (1, .int p1), (2, .int p2)] := hl
  unfold f_X2_isIn at hf
  refine lv_iload_n hx hb dX2_isIn_0 rfl (lv_at hl 0 rfl) ?_
  refine lv_iload_n hx hb dX2_isIn_1 rfl (lv_at hl 1 rfl) ?_
  refine lv_icmp_lt (tgt := 14) hx hb dX2_isIn_2 (by decide) (fun c1 => ?_) (fun c1 => ?_)
  · have hf := if_t hf c1
    refine lv_iconst (v := 0) hx hb dX2_isIn_14 (by decide) ?_
    exact zr_z hx hb hr hlk hS (Option.some.inj hf) rfl dX2_isIn_15
  · have hf := if_f hf c1
    refine lv_iload_n hx hb dX2_isIn_5 rfl (lv_at hl 0 rfl) ?_
    refine lv_iload_n hx hb dX2_isIn_6 rfl (lv_at hl 2 rfl) ?_
    refine lv_icmp_gt (tgt := 14) hx hb dX2_isIn_7 (by decide) (fun c2 => ?_) (fun c2 => ?_)
    · have hf := if_t hf c2
      refine lv_iconst (v := 0) hx hb dX2_isIn_14 (by decide) ?_
      exact zr_z hx hb hr hlk hS (Option.some.inj hf) rfl dX2_isIn_15
    · have hf := if_f hf c2
      refine lv_iconst (v := 1) hx hb dX2_isIn_10 (by decide) ?_
      refine lv_goto (tgt := 15) hx hb dX2_isIn_11 (by decide) ?_
      exact zr_z hx hb hr hlk hS (Option.some.inj hf) rfl dX2_isIn_15
def f_X2_isStation  (S : RS) (p1 : Int32) : Option (Int32) :=
  ob (f_X2_isIn p1 0 ((S.1 1) - 1)) fun v2 =>
  some v2
abbrev rm_X2_isStation : Room := { frames := 1, cells := 0, slots := 0, locals := 22 }
theorem hdv_X2_isStation : yX2_isStation.cls = RX2 ∧ yX2_isStation.cls ≠ "java/lang/invoke/MethodHandle" ∧ yX2_isStation.cls ≠ "java/lang/invoke/VarHandle" ∧ (parseMethodDescriptor yX2_isStation.desc).map (fun d => d.parameters.length) = some 1 := by decide +kernel
set_option maxHeartbeats 4000000 in
set_option maxRecDepth 100000 in
theorem m_X2_isStation (l : Launch) (D : va_G) (Z : Nat → ClassId) (a : Nat → Nat) (S : RS) (p1 : Int32) (r : Int32) (hf : f_X2_isStation S p1 = some r) : ROz l yX2_isStation wsX2_isStation rm_X2_isStation D Z [.ref (a 0), .int p1] (mwl Z a S) r := by
  refine ROz.of (cc := cX2_isStation) (nL := 2) (ret := (some .boolean)) (by decide +kernel) rfl (Nat.le_of_ble_eq_true rfl) ?_
  intro p e s m below meth c hC hA hP hK hD hS ls hl
  obtain ⟨hx, hb, hr, hml, hown, hts, hlk, -⟩ := hC
  have hown : s.vm.findClass RX2 = some m.cls := hown
  have hin : ∀ w ∈ wsX20, w ∈ wsX2_isStation := fun w h => List.mem_cons_of_mem _ (List.mem_append_right _ h)
  have hl : lv_has ls 2 [(0, .ref (a 0)), (1, .int p1)] := hl
  unfold f_X2_isStation at hf
  refine lv_iload_n hx hb dX2_isStation_0 rfl (lv_at hl 1 rfl) ?_
  refine lv_iconst (v := 0) hx hb dX2_isStation_1 (by decide) ?_
  refine lv_aload_n hx hb dX2_isStation_2 rfl (lv_at hl 0 rfl) ?_
  refine va_get (D := D) (ci := 2) (v := .int (S.1 1)) (C := RX2) (T := TX2) (N := 7) hx hb hts hin hown hK hP 0 rfl rfl 1 (by decide) (hts (.fieldLink RX2 26 "PodGuidewayModel" "stations" "I") (List.mem_of_getElem? (i := 1) rfl)) (fun _ h9 => h9) rfl dX2_isStation_3 ?_
  refine lv_iconst (v := 1) hx hb dX2_isStation_6 (by decide) ?_
  refine lv_isub hx hb dX2_isStation_7 ?_
  obtain ⟨v2, hv1, hf⟩ := ob_some hf
  refine zc_z (z_SD (As := [.int p1, .int 0, .int ((S.1 1) - 1)]) (rest := []) ⟨hx, hb, hml, hown, hts⟩ (m_X2_isIn l D Z p1 0 ((S.1 1) - 1) v2 hv1) gX2_isStation_X2_isIn rfl rfl rfl hds_X2_isIn ⟨Nat.le_of_ble_eq_true rfl, Nat.le_of_ble_eq_true rfl⟩ hK (hP.sub (ws' := []) [] rfl) (hD.sub (ws' := []) [] (by decide) rfl) rfl hl.1 rfl (Nat.le_of_ble_eq_true rfl) dX2_isStation_8 ⟨Nat.le_of_ble_eq_true rfl, Nat.le_of_ble_eq_true rfl⟩) hP hS hA (fun H locs hn3 hP hS => ?_)
  exact zr_z hx hb hr hlk hS (Option.some.inj hf) hn3 dX2_isStation_11
def f_X2_isPod  (S : RS) (p1 : Int32) : Option (Int32) :=
  ob (f_X2_isIn p1 0 ((S.1 2) - 1)) fun v2 =>
  some v2
abbrev rm_X2_isPod : Room := { frames := 1, cells := 0, slots := 0, locals := 22 }
theorem hdv_X2_isPod : yX2_isPod.cls = RX2 ∧ yX2_isPod.cls ≠ "java/lang/invoke/MethodHandle" ∧ yX2_isPod.cls ≠ "java/lang/invoke/VarHandle" ∧ (parseMethodDescriptor yX2_isPod.desc).map (fun d => d.parameters.length) = some 1 := by decide +kernel
set_option maxHeartbeats 4000000 in
set_option maxRecDepth 100000 in
theorem m_X2_isPod (l : Launch) (D : va_G) (Z : Nat → ClassId) (a : Nat → Nat) (S : RS) (p1 : Int32) (r : Int32) (hf : f_X2_isPod S p1 = some r) : ROz l yX2_isPod wsX2_isPod rm_X2_isPod D Z [.ref (a 0), .int p1] (mwl Z a S) r := by
  refine ROz.of (cc := cX2_isPod) (nL := 2) (ret := (some .boolean)) (by decide +kernel) rfl (Nat.le_of_ble_eq_true rfl) ?_
  intro p e s m below meth c hC hA hP hK hD hS ls hl
  obtain ⟨hx, hb, hr, hml, hown, hts, hlk, -⟩ := hC
  have hown : s.vm.findClass RX2 = some m.cls := hown
  have hin : ∀ w ∈ wsX20, w ∈ wsX2_isPod := fun w h => List.mem_cons_of_mem _ (List.mem_append_right _ h)
  have hl : lv_has ls 2 [(0, .ref (a 0)), (1, .int p1)] := hl
  unfold f_X2_isPod at hf
  refine lv_iload_n hx hb dX2_isPod_0 rfl (lv_at hl 1 rfl) ?_
  refine lv_iconst (v := 0) hx hb dX2_isPod_1 (by decide) ?_
  refine lv_aload_n hx hb dX2_isPod_2 rfl (lv_at hl 0 rfl) ?_
  refine va_get (D := D) (ci := 2) (v := .int (S.1 2)) (C := RX2) (T := TX2) (N := 7) hx hb hts hin hown hK hP 0 rfl rfl 2 (by decide) (hts (.fieldLink RX2 33 "PodGuidewayModel" "pods" "I") (List.mem_of_getElem? (i := 1) rfl)) (fun _ h9 => h9) rfl dX2_isPod_3 ?_
  refine lv_iconst (v := 1) hx hb dX2_isPod_6 (by decide) ?_
  refine lv_isub hx hb dX2_isPod_7 ?_
  obtain ⟨v2, hv1, hf⟩ := ob_some hf
  refine zc_z (z_SD (As := [.int p1, .int 0, .int ((S.1 2) - 1)]) (rest := []) ⟨hx, hb, hml, hown, hts⟩ (m_X2_isIn l D Z p1 0 ((S.1 2) - 1) v2 hv1) gX2_isPod_X2_isIn rfl rfl rfl hds_X2_isIn ⟨Nat.le_of_ble_eq_true rfl, Nat.le_of_ble_eq_true rfl⟩ hK (hP.sub (ws' := []) [] rfl) (hD.sub (ws' := []) [] (by decide) rfl) rfl hl.1 rfl (Nat.le_of_ble_eq_true rfl) dX2_isPod_8 ⟨Nat.le_of_ble_eq_true rfl, Nat.le_of_ble_eq_true rfl⟩) hP hS hA (fun H locs hn3 hP hS => ?_)
  exact zr_z hx hb hr hlk hS (Option.some.inj hf) hn3 dX2_isPod_11
def f_X2_po  (S : RS) (p1 : Int32) (p2 : Int32) : Option (Int32) :=
  if ((7 * p1) + p2) < 0 ∨ 84 ≤ ((7 * p1) + p2).toNatClampNeg then none else
  some (S.2 0 ((7 * p1) + p2).toNatClampNeg)
abbrev rm_X2_po : Room := { frames := 0, cells := 0, slots := 0, locals := 0 }
theorem hdv_X2_po : yX2_po.cls = RX2 ∧ yX2_po.cls ≠ "java/lang/invoke/MethodHandle" ∧ yX2_po.cls ≠ "java/lang/invoke/VarHandle" ∧ (parseMethodDescriptor yX2_po.desc).map (fun d => d.parameters.length) = some 2 := by decide +kernel
set_option maxHeartbeats 4000000 in
set_option maxRecDepth 100000 in
theorem m_X2_po (l : Launch) (D : va_G) (Z : Nat → ClassId) (a : Nat → Nat) (S : RS) (p1 : Int32) (p2 : Int32) (r : Int32) (hf : f_X2_po S p1 p2 = some r) : ROi l yX2_po wsX2_po rm_X2_po D Z [.ref (a 0), .int p1, .int p2] (mwl Z a S) r := by
  refine ROi.of (cc := cX2_po) (nL := 3) (ret := (some .int)) (by decide +kernel) rfl (Nat.le_of_ble_eq_true rfl) ?_
  intro p e s m below meth c hC hA hP hK hD hS ls hl
  obtain ⟨hx, hb, hr, hml, hown, hts, hlk, -⟩ := hC
  have hown : s.vm.findClass RX2 = some m.cls := hown
  have hin : ∀ w ∈ wsX20, w ∈ wsX2_po := fun w h => List.mem_cons_of_mem _ (List.mem_append_right _ h)
  have hl : lv_has ls 3 [(0, .ref (a 0)), (1, .int p1), (2, .int p2)] := hl
  unfold f_X2_po at hf
  refine lv_aload_n hx hb dX2_po_0 rfl (lv_at hl 0 rfl) ?_
  refine va_get (D := D) (ci := 2) (v := .ref (a 1)) (C := RX2) (T := TX2) (N := 7) hx hb hts hin hown hK hP 0 rfl rfl 3 (by decide) (hts (.fieldLink RX2 9 "PodGuidewayModel" "fleet" "[I") (List.mem_of_getElem? (i := 1) rfl)) (fun _ h9 => h9) rfl dX2_po_1 ?_
  refine lv_bipush (v := 7) hx hb dX2_po_4 (by decide) ?_
  refine lv_iload_n hx hb dX2_po_6 rfl (lv_at hl 1 rfl) ?_
  refine lv_imul hx hb dX2_po_7 ?_
  refine lv_iload_n hx hb dX2_po_8 rfl (lv_at hl 2 rfl) ?_
  refine lv_iadd hx hb dX2_po_9 ?_
  obtain ⟨hg1, hf⟩ := if_g hf
  refine va_iald hx hb hK hP 1 0 rfl rfl hg1 dX2_po_10 ?_
  exact zr_i hx hb hr hlk hS (Option.some.inj hf) dX2_po_11
def f_X2_put  (S : RS) (p1 : Int32) (p2 : Int32) (p3 : Int32) : Option (RS) :=
  if ((7 * p1) + p2) < 0 ∨ 84 ≤ ((7 * p1) + p2).toNatClampNeg then none else
  lt (sR S 0 (upd (S.2 0) ((7 * p1) + p2).toNatClampNeg p3)) fun (S2 : RS) =>
  some S2
abbrev rm_X2_put : Room := { frames := 0, cells := 0, slots := 0, locals := 0 }
theorem hdv_X2_put : yX2_put.cls = RX2 ∧ yX2_put.cls ≠ "java/lang/invoke/MethodHandle" ∧ yX2_put.cls ≠ "java/lang/invoke/VarHandle" ∧ (parseMethodDescriptor yX2_put.desc).map (fun d => d.parameters.length) = some 3 := by decide +kernel
set_option maxHeartbeats 4000000 in
set_option maxRecDepth 100000 in
theorem m_X2_put (l : Launch) (D : va_G) (Z : Nat → ClassId) (a : Nat → Nat) (S : RS) (p1 : Int32) (p2 : Int32) (p3 : Int32) (S' : RS) (hf : f_X2_put S p1 p2 p3 = some S') : RWv l yX2_put wsX2_put rm_X2_put D Z [.ref (a 0), .int p1, .int p2, .int p3] (mwl Z a S) (mwl Z a S') 0 0 := by
  refine RWv.of (cc := cX2_put) (nL := 4) (ret := none) (by decide +kernel) rfl (Nat.le_of_ble_eq_true rfl) ?_
  intro p e s m below meth c A hC hA hP hK hD hS ls hl
  obtain ⟨hx, hb, hr, hml, hown, hts, hlk, -⟩ := hC
  have hown : s.vm.findClass RX2 = some m.cls := hown
  have hin : ∀ w ∈ wsX20, w ∈ wsX2_put := fun w h => List.mem_cons_of_mem _ (List.mem_append_right _ h)
  have hl : lv_has ls 4 [(0, .ref (a 0)), (1, .int p1), (2, .int p2), (3, .int p3)] := hl
  unfold f_X2_put at hf
  refine lv_aload_n hx hb dX2_put_0 rfl (lv_at hl 0 rfl) ?_
  refine va_get (D := D) (ci := 2) (v := .ref (a 1)) (C := RX2) (T := TX2) (N := 7) hx hb hts hin hown hK hP 0 rfl rfl 3 (by decide) (hts (.fieldLink RX2 9 "PodGuidewayModel" "fleet" "[I") (List.mem_of_getElem? (i := 1) rfl)) (fun _ h9 => h9) rfl dX2_put_1 ?_
  refine lv_bipush (v := 7) hx hb dX2_put_4 (by decide) ?_
  refine lv_iload_n hx hb dX2_put_6 rfl (lv_at hl 1 rfl) ?_
  refine lv_imul hx hb dX2_put_7 ?_
  refine lv_iload_n hx hb dX2_put_8 rfl (lv_at hl 2 rfl) ?_
  refine lv_iadd hx hb dX2_put_9 ?_
  refine lv_iload_n hx hb dX2_put_10 rfl (lv_at hl 3 rfl) ?_
  obtain ⟨hg1, hf⟩ := if_g hf
  refine va_iast hx hb hK hP hD hS 1 0 rfl rfl hg1 dX2_put_11 (fun H locs hP hD hS => ?_)
  obtain ⟨S2, eS2, hf⟩ := lt_ex hf
  have hP : va_P D vwCl (mwl Z a S2) H := by rw [eS2]; exact hP
  have hD : va_D A (mwl Z a S2) := by rw [eS2]; exact hD
  exact zw_v hx hb hr hlk hP hD hS (congrArg (fun z => ((mwl Z a z) : va_W)) (Option.some.inj hf)) (Nat.le_of_ble_eq_true rfl) (Nat.le_of_ble_eq_true rfl) dX2_put_12
def f_X2_st  (S : RS) (p1 : Int32) (p2 : Int32) : Option (Int32) :=
  if ((3 * p1) + p2) < 0 ∨ 18 ≤ ((3 * p1) + p2).toNatClampNeg then none else
  some (S.2 1 ((3 * p1) + p2).toNatClampNeg)
abbrev rm_X2_st : Room := { frames := 0, cells := 0, slots := 0, locals := 0 }
theorem hdv_X2_st : yX2_st.cls = RX2 ∧ yX2_st.cls ≠ "java/lang/invoke/MethodHandle" ∧ yX2_st.cls ≠ "java/lang/invoke/VarHandle" ∧ (parseMethodDescriptor yX2_st.desc).map (fun d => d.parameters.length) = some 2 := by decide +kernel
set_option maxHeartbeats 4000000 in
set_option maxRecDepth 100000 in
theorem m_X2_st (l : Launch) (D : va_G) (Z : Nat → ClassId) (a : Nat → Nat) (S : RS) (p1 : Int32) (p2 : Int32) (r : Int32) (hf : f_X2_st S p1 p2 = some r) : ROi l yX2_st wsX2_st rm_X2_st D Z [.ref (a 0), .int p1, .int p2] (mwl Z a S) r := by
  refine ROi.of (cc := cX2_st) (nL := 3) (ret := (some .int)) (by decide +kernel) rfl (Nat.le_of_ble_eq_true rfl) ?_
  intro p e s m below meth c hC hA hP hK hD hS ls hl
  obtain ⟨hx, hb, hr, hml, hown, hts, hlk, -⟩ := hC
  have hown : s.vm.findClass RX2 = some m.cls := hown
  have hin : ∀ w ∈ wsX20, w ∈ wsX2_st := fun w h => List.mem_cons_of_mem _ (List.mem_append_right _ h)
  have hl : lv_has ls 3 [(0, .ref (a 0)), (1, .int p1), (2, .int p2)] := hl
  unfold f_X2_st at hf
  refine lv_aload_n hx hb dX2_st_0 rfl (lv_at hl 0 rfl) ?_
  refine va_get (D := D) (ci := 2) (v := .ref (a 2)) (C := RX2) (T := TX2) (N := 7) hx hb hts hin hown hK hP 0 rfl rfl 4 (by decide) (hts (.fieldLink RX2 13 "PodGuidewayModel" "halts" "[I") (List.mem_of_getElem? (i := 1) rfl)) (fun _ h9 => h9) rfl dX2_st_1 ?_
  refine lv_iconst (v := 3) hx hb dX2_st_4 (by decide) ?_
  refine lv_iload_n hx hb dX2_st_5 rfl (lv_at hl 1 rfl) ?_
  refine lv_imul hx hb dX2_st_6 ?_
  refine lv_iload_n hx hb dX2_st_7 rfl (lv_at hl 2 rfl) ?_
  refine lv_iadd hx hb dX2_st_8 ?_
  obtain ⟨hg1, hf⟩ := if_g hf
  refine va_iald hx hb hK hP 2 0 rfl rfl hg1 dX2_st_9 ?_
  exact zr_i hx hb hr hlk hS (Option.some.inj hf) dX2_st_10
def f_X2_pe  (S : RS) (p1 : Int32) (p2 : Int32) (p3 : Int32) : Option (Int32) :=
  if ((3 * ((9 * p1) + p2)) + p3) < 0 ∨ 162 ≤ ((3 * ((9 * p1) + p2)) + p3).toNatClampNeg then none else
  some (S.2 2 ((3 * ((9 * p1) + p2)) + p3).toNatClampNeg)
abbrev rm_X2_pe : Room := { frames := 0, cells := 0, slots := 0, locals := 0 }
theorem hdv_X2_pe : yX2_pe.cls = RX2 ∧ yX2_pe.cls ≠ "java/lang/invoke/MethodHandle" ∧ yX2_pe.cls ≠ "java/lang/invoke/VarHandle" ∧ (parseMethodDescriptor yX2_pe.desc).map (fun d => d.parameters.length) = some 3 := by decide +kernel
set_option maxHeartbeats 4000000 in
set_option maxRecDepth 100000 in
theorem m_X2_pe (l : Launch) (D : va_G) (Z : Nat → ClassId) (a : Nat → Nat) (S : RS) (p1 : Int32) (p2 : Int32) (p3 : Int32) (r : Int32) (hf : f_X2_pe S p1 p2 p3 = some r) : ROi l yX2_pe wsX2_pe rm_X2_pe D Z [.ref (a 0), .int p1, .int p2, .int p3] (mwl Z a S) r := by
  refine ROi.of (cc := cX2_pe) (nL := 4) (ret := (some .int)) (by decide +kernel) rfl (Nat.le_of_ble_eq_true rfl) ?_
  intro p e s m below meth c hC hA hP hK hD hS ls hl
  obtain ⟨hx, hb, hr, hml, hown, hts, hlk, -⟩ := hC
  have hown : s.vm.findClass RX2 = some m.cls := hown
  have hin : ∀ w ∈ wsX20, w ∈ wsX2_pe := fun w h => List.mem_cons_of_mem _ (List.mem_append_right _ h)
  have hl : lv_has ls 4 [(0, .ref (a 0)), (1, .int p1), (2, .int p2), (3, .int p3)] := hl
  unfold f_X2_pe at hf
  refine lv_aload_n hx hb dX2_pe_0 rfl (lv_at hl 0 rfl) ?_
  refine va_get (D := D) (ci := 2) (v := .ref (a 3)) (C := RX2) (T := TX2) (N := 7) hx hb hts hin hown hK hP 0 rfl rfl 5 (by decide) (hts (.fieldLink RX2 16 "PodGuidewayModel" "people" "[I") (List.mem_of_getElem? (i := 1) rfl)) (fun _ h9 => h9) rfl dX2_pe_1 ?_
  refine lv_iconst (v := 3) hx hb dX2_pe_4 (by decide) ?_
  refine lv_bipush (v := 9) hx hb dX2_pe_5 (by decide) ?_
  refine lv_iload_n hx hb dX2_pe_7 rfl (lv_at hl 1 rfl) ?_
  refine lv_imul hx hb dX2_pe_8 ?_
  refine lv_iload_n hx hb dX2_pe_9 rfl (lv_at hl 2 rfl) ?_
  refine lv_iadd hx hb dX2_pe_10 ?_
  refine lv_imul hx hb dX2_pe_11 ?_
  refine lv_iload_n hx hb dX2_pe_12 rfl (lv_at hl 3 rfl) ?_
  refine lv_iadd hx hb dX2_pe_13 ?_
  obtain ⟨hg1, hf⟩ := if_g hf
  refine va_iald hx hb hK hP 3 0 rfl rfl hg1 dX2_pe_14 ?_
  exact zr_i hx hb hr hlk hS (Option.some.inj hf) dX2_pe_15
def f_X2_slotAt_L2  (S : RS) : Nat → Int32 → Int32 → Option (Int32)
  | 0, _, _ => none
  | n + 1, x1, x2 =>
    if (S.1 2) ≤ x2 then
      some (-1)
    else
      ob (f_X2_po S x2 0) fun v3 =>
      if v3 = x1 then
        some x2
      else
        f_X2_slotAt_L2 S n x1 (x2 + 1)
def f_X2_slotAt  (S : RS) (p1 : Int32) : Option (Int32) :=
  f_X2_slotAt_L2 S FU p1 0
abbrev rm_X2_slotAt : Room := { frames := 1, cells := 0, slots := 0, locals := 22 }
theorem hdv_X2_slotAt : yX2_slotAt.cls = RX2 ∧ yX2_slotAt.cls ≠ "java/lang/invoke/MethodHandle" ∧ yX2_slotAt.cls ≠ "java/lang/invoke/VarHandle" ∧ (parseMethodDescriptor yX2_slotAt.desc).map (fun d => d.parameters.length) = some 1 := by decide +kernel
set_option maxHeartbeats 4000000 in
set_option maxRecDepth 100000 in
theorem m_X2_slotAt (l : Launch) (D : va_G) (Z : Nat → ClassId) (a : Nat → Nat) (S : RS) (p1 : Int32) (r : Int32) (hf : f_X2_slotAt S p1 = some r) : ROi l yX2_slotAt wsX2_slotAt rm_X2_slotAt D Z [.ref (a 0), .int p1] (mwl Z a S) r := by
  refine ROi.of (cc := cX2_slotAt) (nL := 3) (ret := (some .int)) (by decide +kernel) rfl (Nat.le_of_ble_eq_true rfl) ?_
  intro p e s m below meth c hC hA hP hK hD hS ls hl
  obtain ⟨hx, hb, hr, hml, hown, hts, hlk, -⟩ := hC
  have hown : s.vm.findClass RX2 = some m.cls := hown
  have hin : ∀ w ∈ wsX20, w ∈ wsX2_slotAt := fun w h => List.mem_cons_of_mem _ (List.mem_append_right _ h)
  have hl : lv_has ls 3 [(0, .ref (a 0)), (1, .int p1)] := hl
  have L2 : ∀ (n : Nat) (x1 : Int32) (x2 : Int32) (H : Heap) (locs : List Loc), va_P D vwCl (mwl Z a S) H → va_S (fun q : Nat => s.heap.size ≤ q) s.heap H locs → ∀ ls : Array Slot, lv_has ls 3 [(0, .ref (a 0)), (1, .int x1), (2, .int x2)] → f_X2_slotAt_L2 S n x1 x2 = some r → W p l e rm_X2_slotAt s m ([.ref (a 0), .int p1] : List Value).toArray below meth c H locs 0 0 (MQ below (zQi r s.heap.size) ([.ref (a 0), .int p1] : List Value).toArray s 0 0 (fun q => s.heap.size ≤ q)) (F0 m 2 ls []) := by
    intro n
    induction n with
    | zero =>
      intro x1 x2 H locs hP hS ls hl hf
      exact no_r hf
    | succ n ih =>
      intro x1 x2 H locs hP hS ls hl hf
      rw [f_X2_slotAt_L2] at hf
      refine lv_iload_n hx hb dX2_slotAt_2 rfl (lv_at hl 2 rfl) ?_
      refine lv_aload_n hx hb dX2_slotAt_3 rfl (lv_at hl 0 rfl) ?_
      refine va_get (D := D) (ci := 2) (v := .int (S.1 2)) (C := RX2) (T := TX2) (N := 7) hx hb hts hin hown hK hP 0 rfl rfl 2 (by decide) (hts (.fieldLink RX2 33 "PodGuidewayModel" "pods" "I") (List.mem_of_getElem? (i := 1) rfl)) (fun _ h9 => h9) rfl dX2_slotAt_4 ?_
      refine lv_icmp_ge (tgt := 28) hx hb dX2_slotAt_7 (by decide) (fun c1 => ?_) (fun c1 => ?_)
      · have hf := if_t hf c1
        refine lv_iconst (v := (-1)) hx hb dX2_slotAt_28 (by decide) ?_
        exact zr_i hx hb hr hlk hS (Option.some.inj hf) dX2_slotAt_29
      · have hf := if_f hf c1
        refine lv_aload_n hx hb dX2_slotAt_10 rfl (lv_at hl 0 rfl) ?_
        refine lv_iload_n hx hb dX2_slotAt_11 rfl (lv_at hl 2 rfl) ?_
        refine lv_iconst (v := 0) hx hb dX2_slotAt_12 (by decide) ?_
        obtain ⟨v3, hv2, hf⟩ := ob_some hf
        refine zc_i (z_VD (As := [.int x2, .int 0]) (rest := []) (q0 := 0) (ci := 2) ⟨hx, hb, hml, hown, hts⟩ (m_X2_po l D Z a S x2 0 v3 hv2) gX2_slotAt_X2_po rfl rfl rfl hdv_X2_po ⟨Nat.le_of_ble_eq_true rfl, Nat.le_of_ble_eq_true rfl⟩ hK hP hD rfl rfl rfl rfl hl.1 rfl (Nat.le_of_ble_eq_true rfl) dX2_slotAt_13 ⟨Nat.le_of_ble_eq_true rfl, Nat.le_of_ble_eq_true rfl⟩) hP hS hA (fun H locs hP hS => ?_)
        refine lv_iload_n hx hb dX2_slotAt_16 rfl (lv_at hl 1 rfl) ?_
        refine lv_icmp_ne (tgt := 22) hx hb dX2_slotAt_17 (by decide) (fun c4 => ?_) (fun c4 => ?_)
        · have hf := if_f hf c4
          refine lv_iinc (v := (x2 + 1)) (lv' := [(2, .int (x2 + 1)), (0, .ref (a 0)), (1, .int x1)]) hx hb dX2_slotAt_22 hl (k := 2) rfl rfl (by decide) rfl (fun ls hl => ?_)
          refine lv_goto (tgt := 2) hx hb dX2_slotAt_25 (by decide) ?_
          exact ih x1 (x2 + 1) _ _ hP hS ls (lv_sub hl [1, 2, 0] rfl) hf
        · have hf := if_t hf c4
          refine lv_iload_n hx hb dX2_slotAt_20 rfl (lv_at hl 2 rfl) ?_
          exact zr_i hx hb hr hlk hS (Option.some.inj hf) dX2_slotAt_21
  unfold f_X2_slotAt at hf
  refine lv_iconst (v := 0) hx hb dX2_slotAt_0 (by decide) ?_
  refine lv_istore_n (lv' := [(2, .int 0), (0, .ref (a 0)), (1, .int p1)]) hx hb dX2_slotAt_1 rfl hl (by decide) rfl (fun ls hl => ?_)
  exact L2 FU p1 0 _ _ hP hS ls (lv_sub hl [1, 2, 0] rfl) hf
def f_X2_inBerth_L2  (S : RS) : Nat → Int32 → Int32 → Int32 → Option (Int32)
  | 0, _, _, _ => none
  | n + 1, x1, x2, x3 =>
    if (S.1 2) ≤ x3 then
      some (-1)
    else
      ob (f_X2_po S x3 1) fun v3 =>
      if v3 = x1 then
        ob (f_X2_po S x3 2) fun v6 =>
        if v6 = x2 then
          some x3
        else
          f_X2_inBerth_L2 S n x1 x2 (x3 + 1)
      else
        f_X2_inBerth_L2 S n x1 x2 (x3 + 1)
def f_X2_inBerth  (S : RS) (p1 : Int32) (p2 : Int32) : Option (Int32) :=
  f_X2_inBerth_L2 S FU p1 p2 0
abbrev rm_X2_inBerth : Room := { frames := 1, cells := 0, slots := 0, locals := 22 }
theorem hdv_X2_inBerth : yX2_inBerth.cls = RX2 ∧ yX2_inBerth.cls ≠ "java/lang/invoke/MethodHandle" ∧ yX2_inBerth.cls ≠ "java/lang/invoke/VarHandle" ∧ (parseMethodDescriptor yX2_inBerth.desc).map (fun d => d.parameters.length) = some 2 := by decide +kernel
set_option maxHeartbeats 4000000 in
set_option maxRecDepth 100000 in
theorem m_X2_inBerth (l : Launch) (D : va_G) (Z : Nat → ClassId) (a : Nat → Nat) (S : RS) (p1 : Int32) (p2 : Int32) (r : Int32) (hf : f_X2_inBerth S p1 p2 = some r) : ROi l yX2_inBerth wsX2_inBerth rm_X2_inBerth D Z [.ref (a 0), .int p1, .int p2] (mwl Z a S) r := by
  refine ROi.of (cc := cX2_inBerth) (nL := 4) (ret := (some .int)) (by decide +kernel) rfl (Nat.le_of_ble_eq_true rfl) ?_
  intro p e s m below meth c hC hA hP hK hD hS ls hl
  obtain ⟨hx, hb, hr, hml, hown, hts, hlk, -⟩ := hC
  have hown : s.vm.findClass RX2 = some m.cls := hown
  have hin : ∀ w ∈ wsX20, w ∈ wsX2_inBerth := fun w h => List.mem_cons_of_mem _ (List.mem_append_right _ h)
  have hl : lv_has ls 4 [(0, .ref (a 0)), (1, .int p1), (2, .int p2)] := hl
  have L2 : ∀ (n : Nat) (x1 : Int32) (x2 : Int32) (x3 : Int32) (H : Heap) (locs : List Loc), va_P D vwCl (mwl Z a S) H → va_S (fun q : Nat => s.heap.size ≤ q) s.heap H locs → ∀ ls : Array Slot, lv_has ls 4 [(0, .ref (a 0)), (1, .int x1), (2, .int x2), (3, .int x3)] → f_X2_inBerth_L2 S n x1 x2 x3 = some r → W p l e rm_X2_inBerth s m ([.ref (a 0), .int p1, .int p2] : List Value).toArray below meth c H locs 0 0 (MQ below (zQi r s.heap.size) ([.ref (a 0), .int p1, .int p2] : List Value).toArray s 0 0 (fun q => s.heap.size ≤ q)) (F0 m 2 ls []) := by
    intro n
    induction n with
    | zero =>
      intro x1 x2 x3 H locs hP hS ls hl hf
      exact no_r hf
    | succ n ih =>
      intro x1 x2 x3 H locs hP hS ls hl hf
      rw [f_X2_inBerth_L2] at hf
      refine lv_iload_n hx hb dX2_inBerth_2 rfl (lv_at hl 3 rfl) ?_
      refine lv_aload_n hx hb dX2_inBerth_3 rfl (lv_at hl 0 rfl) ?_
      refine va_get (D := D) (ci := 2) (v := .int (S.1 2)) (C := RX2) (T := TX2) (N := 7) hx hb hts hin hown hK hP 0 rfl rfl 2 (by decide) (hts (.fieldLink RX2 33 "PodGuidewayModel" "pods" "I") (List.mem_of_getElem? (i := 1) rfl)) (fun _ h9 => h9) rfl dX2_inBerth_4 ?_
      refine lv_icmp_ge (tgt := 38) hx hb dX2_inBerth_7 (by decide) (fun c1 => ?_) (fun c1 => ?_)
      · have hf := if_t hf c1
        refine lv_iconst (v := (-1)) hx hb dX2_inBerth_38 (by decide) ?_
        exact zr_i hx hb hr hlk hS (Option.some.inj hf) dX2_inBerth_39
      · have hf := if_f hf c1
        refine lv_aload_n hx hb dX2_inBerth_10 rfl (lv_at hl 0 rfl) ?_
        refine lv_iload_n hx hb dX2_inBerth_11 rfl (lv_at hl 3 rfl) ?_
        refine lv_iconst (v := 1) hx hb dX2_inBerth_12 (by decide) ?_
        obtain ⟨v3, hv2, hf⟩ := ob_some hf
        refine zc_i (z_VD (As := [.int x3, .int 1]) (rest := []) (q0 := 0) (ci := 2) ⟨hx, hb, hml, hown, hts⟩ (m_X2_po l D Z a S x3 1 v3 hv2) gX2_inBerth_X2_po rfl rfl rfl hdv_X2_po ⟨Nat.le_of_ble_eq_true rfl, Nat.le_of_ble_eq_true rfl⟩ hK hP hD rfl rfl rfl rfl hl.1 rfl (Nat.le_of_ble_eq_true rfl) dX2_inBerth_13 ⟨Nat.le_of_ble_eq_true rfl, Nat.le_of_ble_eq_true rfl⟩) hP hS hA (fun H locs hP hS => ?_)
        refine lv_iload_n hx hb dX2_inBerth_16 rfl (lv_at hl 1 rfl) ?_
        refine lv_icmp_ne (tgt := 32) hx hb dX2_inBerth_17 (by decide) (fun c4 => ?_) (fun c4 => ?_)
        · have hf := if_f hf c4
          refine lv_iinc (v := (x3 + 1)) (lv' := [(3, .int (x3 + 1)), (0, .ref (a 0)), (1, .int x1), (2, .int x2)]) hx hb dX2_inBerth_32 hl (k := 3) rfl rfl (by decide) rfl (fun ls hl => ?_)
          refine lv_goto (tgt := 2) hx hb dX2_inBerth_35 (by decide) ?_
          exact ih x1 x2 (x3 + 1) _ _ hP hS ls (lv_sub hl [1, 2, 3, 0] rfl) hf
        · have hf := if_t hf c4
          refine lv_aload_n hx hb dX2_inBerth_20 rfl (lv_at hl 0 rfl) ?_
          refine lv_iload_n hx hb dX2_inBerth_21 rfl (lv_at hl 3 rfl) ?_
          refine lv_iconst (v := 2) hx hb dX2_inBerth_22 (by decide) ?_
          obtain ⟨v6, hv5, hf⟩ := ob_some hf
          refine zc_i (z_VD (As := [.int x3, .int 2]) (rest := []) (q0 := 0) (ci := 2) ⟨hx, hb, hml, hown, hts⟩ (m_X2_po l D Z a S x3 2 v6 hv5) gX2_inBerth_X2_po rfl rfl rfl hdv_X2_po ⟨Nat.le_of_ble_eq_true rfl, Nat.le_of_ble_eq_true rfl⟩ hK hP hD rfl rfl rfl rfl hl.1 rfl (Nat.le_of_ble_eq_true rfl) dX2_inBerth_23 ⟨Nat.le_of_ble_eq_true rfl, Nat.le_of_ble_eq_true rfl⟩) hP hS hA (fun H locs hP hS => ?_)
          refine lv_iload_n hx hb dX2_inBerth_26 rfl (lv_at hl 2 rfl) ?_
          refine lv_icmp_ne (tgt := 32) hx hb dX2_inBerth_27 (by decide) (fun c7 => ?_) (fun c7 => ?_)
          · have hf := if_f hf c7
            refine lv_iinc (v := (x3 + 1)) (lv' := [(3, .int (x3 + 1)), (0, .ref (a 0)), (1, .int x1), (2, .int x2)]) hx hb dX2_inBerth_32 hl (k := 3) rfl rfl (by decide) rfl (fun ls hl => ?_)
            refine lv_goto (tgt := 2) hx hb dX2_inBerth_35 (by decide) ?_
            exact ih x1 x2 (x3 + 1) _ _ hP hS ls (lv_sub hl [1, 2, 3, 0] rfl) hf
          · have hf := if_t hf c7
            refine lv_iload_n hx hb dX2_inBerth_30 rfl (lv_at hl 3 rfl) ?_
            exact zr_i hx hb hr hlk hS (Option.some.inj hf) dX2_inBerth_31
  unfold f_X2_inBerth at hf
  refine lv_iconst (v := 0) hx hb dX2_inBerth_0 (by decide) ?_
  refine lv_istore_n (lv' := [(3, .int 0), (0, .ref (a 0)), (1, .int p1), (2, .int p2)]) hx hb dX2_inBerth_1 rfl hl (by decide) rfl (fun ls hl => ?_)
  exact L2 FU p1 p2 0 _ _ hP hS ls (lv_sub hl [1, 2, 3, 0] rfl) hf
def f_X2_free_L2  (S : RS) : Nat → Int32 → Int32 → Option (Int32)
  | 0, _, _ => none
  | n + 1, x1, x2 =>
    if 3 ≤ x2 then
      some (-1)
    else
      ob (f_X2_inBerth S x1 x2) fun v3 =>
      if v3 = (-1) then
        some x2
      else
        f_X2_free_L2 S n x1 (x2 + 1)
def f_X2_free  (S : RS) (p1 : Int32) : Option (Int32) :=
  f_X2_free_L2 S FU p1 0
abbrev rm_X2_free : Room := { frames := 2, cells := 0, slots := 0, locals := 45 }
theorem hdv_X2_free : yX2_free.cls = RX2 ∧ yX2_free.cls ≠ "java/lang/invoke/MethodHandle" ∧ yX2_free.cls ≠ "java/lang/invoke/VarHandle" ∧ (parseMethodDescriptor yX2_free.desc).map (fun d => d.parameters.length) = some 1 := by decide +kernel
set_option maxHeartbeats 4000000 in
set_option maxRecDepth 100000 in
theorem m_X2_free (l : Launch) (D : va_G) (Z : Nat → ClassId) (a : Nat → Nat) (S : RS) (p1 : Int32) (r : Int32) (hf : f_X2_free S p1 = some r) : ROi l yX2_free wsX2_free rm_X2_free D Z [.ref (a 0), .int p1] (mwl Z a S) r := by
  refine ROi.of (cc := cX2_free) (nL := 3) (ret := (some .int)) (by decide +kernel) rfl (Nat.le_of_ble_eq_true rfl) ?_
  intro p e s m below meth c hC hA hP hK hD hS ls hl
  obtain ⟨hx, hb, hr, hml, hown, hts, hlk, -⟩ := hC
  have hown : s.vm.findClass RX2 = some m.cls := hown
  have hl : lv_has ls 3 [(0, .ref (a 0)), (1, .int p1)] := hl
  have L2 : ∀ (n : Nat) (x1 : Int32) (x2 : Int32) (H : Heap) (locs : List Loc), va_P D vwCl (mwl Z a S) H → va_S (fun q : Nat => s.heap.size ≤ q) s.heap H locs → ∀ ls : Array Slot, lv_has ls 3 [(0, .ref (a 0)), (1, .int x1), (2, .int x2)] → f_X2_free_L2 S n x1 x2 = some r → W p l e rm_X2_free s m ([.ref (a 0), .int p1] : List Value).toArray below meth c H locs 0 0 (MQ below (zQi r s.heap.size) ([.ref (a 0), .int p1] : List Value).toArray s 0 0 (fun q => s.heap.size ≤ q)) (F0 m 2 ls []) := by
    intro n
    induction n with
    | zero =>
      intro x1 x2 H locs hP hS ls hl hf
      exact no_r hf
    | succ n ih =>
      intro x1 x2 H locs hP hS ls hl hf
      rw [f_X2_free_L2] at hf
      refine lv_iload_n hx hb dX2_free_2 rfl (lv_at hl 2 rfl) ?_
      refine lv_iconst (v := 3) hx hb dX2_free_3 (by decide) ?_
      refine lv_icmp_ge (tgt := 25) hx hb dX2_free_4 (by decide) (fun c1 => ?_) (fun c1 => ?_)
      · have hf := if_t hf c1
        refine lv_iconst (v := (-1)) hx hb dX2_free_25 (by decide) ?_
        exact zr_i hx hb hr hlk hS (Option.some.inj hf) dX2_free_26
      · have hf := if_f hf c1
        refine lv_aload_n hx hb dX2_free_7 rfl (lv_at hl 0 rfl) ?_
        refine lv_iload_n hx hb dX2_free_8 rfl (lv_at hl 1 rfl) ?_
        refine lv_iload_n hx hb dX2_free_9 rfl (lv_at hl 2 rfl) ?_
        obtain ⟨v3, hv2, hf⟩ := ob_some hf
        refine zc_i (z_VD (As := [.int x1, .int x2]) (rest := []) (q0 := 0) (ci := 2) ⟨hx, hb, hml, hown, hts⟩ (m_X2_inBerth l D Z a S x1 x2 v3 hv2) gX2_free_X2_inBerth rfl rfl rfl hdv_X2_inBerth ⟨Nat.le_of_ble_eq_true rfl, Nat.le_of_ble_eq_true rfl⟩ hK hP hD rfl rfl rfl rfl hl.1 rfl (Nat.le_of_ble_eq_true rfl) dX2_free_10 ⟨Nat.le_of_ble_eq_true rfl, Nat.le_of_ble_eq_true rfl⟩) hP hS hA (fun H locs hP hS => ?_)
        refine lv_iconst (v := (-1)) hx hb dX2_free_13 (by decide) ?_
        refine lv_icmp_ne (tgt := 19) hx hb dX2_free_14 (by decide) (fun c4 => ?_) (fun c4 => ?_)
        · have hf := if_f hf c4
          refine lv_iinc (v := (x2 + 1)) (lv' := [(2, .int (x2 + 1)), (0, .ref (a 0)), (1, .int x1)]) hx hb dX2_free_19 hl (k := 2) rfl rfl (by decide) rfl (fun ls hl => ?_)
          refine lv_goto (tgt := 2) hx hb dX2_free_22 (by decide) ?_
          exact ih x1 (x2 + 1) _ _ hP hS ls (lv_sub hl [1, 2, 0] rfl) hf
        · have hf := if_t hf c4
          refine lv_iload_n hx hb dX2_free_17 rfl (lv_at hl 2 rfl) ?_
          exact zr_i hx hb hr hlk hS (Option.some.inj hf) dX2_free_18
  unfold f_X2_free at hf
  refine lv_iconst (v := 0) hx hb dX2_free_0 (by decide) ?_
  refine lv_istore_n (lv' := [(2, .int 0), (0, .ref (a 0)), (1, .int p1)]) hx hb dX2_free_1 rfl hl (by decide) rfl (fun ls hl => ?_)
  exact L2 FU p1 0 _ _ hP hS ls (lv_sub hl [1, 2, 0] rfl) hf
def f_X2_first_L37 (κ2 : Int32 → Int32 → Int32 → Option (Int32)) (S : RS) (y0 : Int32) (x1 : Int32) (x2 : Int32) (x3 : Int32) : Option (Int32) :=
  if y0 = x2 then
    ob (f_X2_inBerth S x1 x3) fun v12 =>
    some v12
  else
    κ2 x1 x2 (x3 + 1)
def f_X2_first_L2  (S : RS) : Nat → Int32 → Int32 → Int32 → Option (Int32)
  | 0, _, _, _ => none
  | n + 1, x1, x2, x3 =>
    if 3 ≤ x3 then
      some (-1)
    else
      ob (f_X2_inBerth S x1 x3) fun v3 =>
      if v3 = (-1) then
        f_X2_first_L2 S n x1 x2 (x3 + 1)
      else
        ob (f_X2_inBerth S x1 x3) fun v6 =>
        ob (f_X2_po S v6 3) fun v8 =>
        if v8 = (-1) then
          f_X2_first_L37 (fun x1 x2 x3 => f_X2_first_L2 S n x1 x2 x3) S 1 x1 x2 x3
        else
          f_X2_first_L37 (fun x1 x2 x3 => f_X2_first_L2 S n x1 x2 x3) S 0 x1 x2 x3
def f_X2_first  (S : RS) (p1 : Int32) (p2 : Int32) : Option (Int32) :=
  f_X2_first_L2 S FU p1 p2 0
abbrev rm_X2_first : Room := { frames := 2, cells := 0, slots := 0, locals := 45 }
theorem hdv_X2_first : yX2_first.cls = RX2 ∧ yX2_first.cls ≠ "java/lang/invoke/MethodHandle" ∧ yX2_first.cls ≠ "java/lang/invoke/VarHandle" ∧ (parseMethodDescriptor yX2_first.desc).map (fun d => d.parameters.length) = some 2 := by decide +kernel
set_option maxHeartbeats 4000000 in
set_option maxRecDepth 100000 in
theorem m_X2_first (l : Launch) (D : va_G) (Z : Nat → ClassId) (a : Nat → Nat) (S : RS) (p1 : Int32) (p2 : Int32) (r : Int32) (hf : f_X2_first S p1 p2 = some r) : ROi l yX2_first wsX2_first rm_X2_first D Z [.ref (a 0), .int p1, .int p2] (mwl Z a S) r := by
  refine ROi.of (cc := cX2_first) (nL := 4) (ret := (some .int)) (by decide +kernel) rfl (Nat.le_of_ble_eq_true rfl) ?_
  intro p e s m below meth c hC hA hP hK hD hS ls hl
  obtain ⟨hx, hb, hr, hml, hown, hts, hlk, -⟩ := hC
  have hown : s.vm.findClass RX2 = some m.cls := hown
  have hl : lv_has ls 4 [(0, .ref (a 0)), (1, .int p1), (2, .int p2)] := hl
  have L37 : ∀ (κ2 : Int32 → Int32 → Int32 → Option (Int32)), (∀ (x1 : Int32) (x2 : Int32) (x3 : Int32) (H : Heap) (locs : List Loc), va_P D vwCl (mwl Z a S) H → va_S (fun q : Nat => s.heap.size ≤ q) s.heap H locs → ∀ ls : Array Slot, lv_has ls 4 [(0, .ref (a 0)), (1, .int x1), (2, .int x2), (3, .int x3)] → κ2 x1 x2 x3 = some r → W p l e rm_X2_first s m ([.ref (a 0), .int p1, .int p2] : List Value).toArray below meth c H locs 0 0 (MQ below (zQi r s.heap.size) ([.ref (a 0), .int p1, .int p2] : List Value).toArray s 0 0 (fun q => s.heap.size ≤ q)) (F0 m 2 ls [])) → ∀ (y0 : Int32) (x1 : Int32) (x2 : Int32) (x3 : Int32) (H : Heap) (locs : List Loc), va_P D vwCl (mwl Z a S) H → va_S (fun q : Nat => s.heap.size ≤ q) s.heap H locs → ∀ ls : Array Slot, lv_has ls 4 [(0, .ref (a 0)), (1, .int x1), (2, .int x2), (3, .int x3)] → f_X2_first_L37 κ2 S y0 x1 x2 x3 = some r → W p l e rm_X2_first s m ([.ref (a 0), .int p1, .int p2] : List Value).toArray below meth c H locs 0 0 (MQ below (zQi r s.heap.size) ([.ref (a 0), .int p1, .int p2] : List Value).toArray s 0 0 (fun q => s.heap.size ≤ q)) (F0 m 37 ls [.int y0]) := by
    intro κ2 hκ2 y0 x1 x2 x3 H locs hP hS ls hl hf
    unfold f_X2_first_L37 at hf
    refine lv_iload_n hx hb dX2_first_37 rfl (lv_at hl 2 rfl) ?_
    refine lv_icmp_ne (tgt := 48) hx hb dX2_first_38 (by decide) (fun c10 => ?_) (fun c10 => ?_)
    · have hf := if_f hf c10
      refine lv_iinc (v := (x3 + 1)) (lv' := [(3, .int (x3 + 1)), (0, .ref (a 0)), (1, .int x1), (2, .int x2)]) hx hb dX2_first_48 hl (k := 3) rfl rfl (by decide) rfl (fun ls hl => ?_)
      refine lv_goto (tgt := 2) hx hb dX2_first_51 (by decide) ?_
      exact hκ2 x1 x2 (x3 + 1) _ _ hP hS ls (lv_sub hl [1, 2, 3, 0] rfl) hf
    · have hf := if_t hf c10
      refine lv_aload_n hx hb dX2_first_41 rfl (lv_at hl 0 rfl) ?_
      refine lv_iload_n hx hb dX2_first_42 rfl (lv_at hl 1 rfl) ?_
      refine lv_iload_n hx hb dX2_first_43 rfl (lv_at hl 3 rfl) ?_
      obtain ⟨v12, hv11, hf⟩ := ob_some hf
      refine zc_i (z_VD (As := [.int x1, .int x3]) (rest := []) (q0 := 0) (ci := 2) ⟨hx, hb, hml, hown, hts⟩ (m_X2_inBerth l D Z a S x1 x3 v12 hv11) gX2_first_X2_inBerth rfl rfl rfl hdv_X2_inBerth ⟨Nat.le_of_ble_eq_true rfl, Nat.le_of_ble_eq_true rfl⟩ hK hP hD rfl rfl rfl rfl hl.1 rfl (Nat.le_of_ble_eq_true rfl) dX2_first_44 ⟨Nat.le_of_ble_eq_true rfl, Nat.le_of_ble_eq_true rfl⟩) hP hS hA (fun H locs hP hS => ?_)
      exact zr_i hx hb hr hlk hS (Option.some.inj hf) dX2_first_47
  have L2 : ∀ (n : Nat) (x1 : Int32) (x2 : Int32) (x3 : Int32) (H : Heap) (locs : List Loc), va_P D vwCl (mwl Z a S) H → va_S (fun q : Nat => s.heap.size ≤ q) s.heap H locs → ∀ ls : Array Slot, lv_has ls 4 [(0, .ref (a 0)), (1, .int x1), (2, .int x2), (3, .int x3)] → f_X2_first_L2 S n x1 x2 x3 = some r → W p l e rm_X2_first s m ([.ref (a 0), .int p1, .int p2] : List Value).toArray below meth c H locs 0 0 (MQ below (zQi r s.heap.size) ([.ref (a 0), .int p1, .int p2] : List Value).toArray s 0 0 (fun q => s.heap.size ≤ q)) (F0 m 2 ls []) := by
    intro n
    induction n with
    | zero =>
      intro x1 x2 x3 H locs hP hS ls hl hf
      exact no_r hf
    | succ n ih =>
      intro x1 x2 x3 H locs hP hS ls hl hf
      rw [f_X2_first_L2] at hf
      refine lv_iload_n hx hb dX2_first_2 rfl (lv_at hl 3 rfl) ?_
      refine lv_iconst (v := 3) hx hb dX2_first_3 (by decide) ?_
      refine lv_icmp_ge (tgt := 54) hx hb dX2_first_4 (by decide) (fun c1 => ?_) (fun c1 => ?_)
      · have hf := if_t hf c1
        refine lv_iconst (v := (-1)) hx hb dX2_first_54 (by decide) ?_
        exact zr_i hx hb hr hlk hS (Option.some.inj hf) dX2_first_55
      · have hf := if_f hf c1
        refine lv_aload_n hx hb dX2_first_7 rfl (lv_at hl 0 rfl) ?_
        refine lv_iload_n hx hb dX2_first_8 rfl (lv_at hl 1 rfl) ?_
        refine lv_iload_n hx hb dX2_first_9 rfl (lv_at hl 3 rfl) ?_
        obtain ⟨v3, hv2, hf⟩ := ob_some hf
        refine zc_i (z_VD (As := [.int x1, .int x3]) (rest := []) (q0 := 0) (ci := 2) ⟨hx, hb, hml, hown, hts⟩ (m_X2_inBerth l D Z a S x1 x3 v3 hv2) gX2_first_X2_inBerth rfl rfl rfl hdv_X2_inBerth ⟨Nat.le_of_ble_eq_true rfl, Nat.le_of_ble_eq_true rfl⟩ hK hP hD rfl rfl rfl rfl hl.1 rfl (Nat.le_of_ble_eq_true rfl) dX2_first_10 ⟨Nat.le_of_ble_eq_true rfl, Nat.le_of_ble_eq_true rfl⟩) hP hS hA (fun H locs hP hS => ?_)
        refine lv_iconst (v := (-1)) hx hb dX2_first_13 (by decide) ?_
        refine lv_icmp_eq (tgt := 48) hx hb dX2_first_14 (by decide) (fun c4 => ?_) (fun c4 => ?_)
        · have hf := if_t hf c4
          refine lv_iinc (v := (x3 + 1)) (lv' := [(3, .int (x3 + 1)), (0, .ref (a 0)), (1, .int x1), (2, .int x2)]) hx hb dX2_first_48 hl (k := 3) rfl rfl (by decide) rfl (fun ls hl => ?_)
          refine lv_goto (tgt := 2) hx hb dX2_first_51 (by decide) ?_
          exact ih x1 x2 (x3 + 1) _ _ hP hS ls (lv_sub hl [1, 2, 3, 0] rfl) hf
        · have hf := if_f hf c4
          refine lv_aload_n hx hb dX2_first_17 rfl (lv_at hl 0 rfl) ?_
          refine lv_aload_n hx hb dX2_first_18 rfl (lv_at hl 0 rfl) ?_
          refine lv_iload_n hx hb dX2_first_19 rfl (lv_at hl 1 rfl) ?_
          refine lv_iload_n hx hb dX2_first_20 rfl (lv_at hl 3 rfl) ?_
          obtain ⟨v6, hv5, hf⟩ := ob_some hf
          refine zc_i (z_VD (As := [.int x1, .int x3]) (rest := [.ref (a 0)]) (q0 := 0) (ci := 2) ⟨hx, hb, hml, hown, hts⟩ (m_X2_inBerth l D Z a S x1 x3 v6 hv5) gX2_first_X2_inBerth rfl rfl rfl hdv_X2_inBerth ⟨Nat.le_of_ble_eq_true rfl, Nat.le_of_ble_eq_true rfl⟩ hK hP hD rfl rfl rfl rfl hl.1 rfl (Nat.le_of_ble_eq_true rfl) dX2_first_21 ⟨Nat.le_of_ble_eq_true rfl, Nat.le_of_ble_eq_true rfl⟩) hP hS hA (fun H locs hP hS => ?_)
          refine lv_iconst (v := 3) hx hb dX2_first_24 (by decide) ?_
          obtain ⟨v8, hv7, hf⟩ := ob_some hf
          refine zc_i (z_VD (As := [.int v6, .int 3]) (rest := []) (q0 := 0) (ci := 2) ⟨hx, hb, hml, hown, hts⟩ (m_X2_po l D Z a S v6 3 v8 hv7) gX2_first_X2_po rfl rfl rfl hdv_X2_po ⟨Nat.le_of_ble_eq_true rfl, Nat.le_of_ble_eq_true rfl⟩ hK hP hD rfl rfl rfl rfl hl.1 rfl (Nat.le_of_ble_eq_true rfl) dX2_first_25 ⟨Nat.le_of_ble_eq_true rfl, Nat.le_of_ble_eq_true rfl⟩) hP hS hA (fun H locs hP hS => ?_)
          refine lv_iconst (v := (-1)) hx hb dX2_first_28 (by decide) ?_
          refine lv_icmp_ne (tgt := 36) hx hb dX2_first_29 (by decide) (fun c9 => ?_) (fun c9 => ?_)
          · have hf := if_f hf c9
            refine lv_iconst (v := 0) hx hb dX2_first_36 (by decide) ?_
            exact L37 _ ih 0 x1 x2 x3 _ _ hP hS ls (lv_sub hl [0, 1, 2, 3] rfl) hf
          · have hf := if_t hf c9
            refine lv_iconst (v := 1) hx hb dX2_first_32 (by decide) ?_
            refine lv_goto (tgt := 37) hx hb dX2_first_33 (by decide) ?_
            exact L37 _ ih 1 x1 x2 x3 _ _ hP hS ls (lv_sub hl [0, 1, 2, 3] rfl) hf
  unfold f_X2_first at hf
  refine lv_iconst (v := 0) hx hb dX2_first_0 (by decide) ?_
  refine lv_istore_n (lv' := [(3, .int 0), (0, .ref (a 0)), (1, .int p1), (2, .int p2)]) hx hb dX2_first_1 rfl hl (by decide) rfl (fun ls hl => ?_)
  exact L2 FU p1 p2 0 _ _ hP hS ls (lv_sub hl [1, 2, 3, 0] rfl) hf
def f_X2_build_L25   : Nat → Int32 → Int32 → Int32 → RS → Option (Int32 × RS)
  | 0, _, _, _, _ => none
  | n + 1, x1, x2, x3, S =>
    if (S.1 1) ≤ x3 then
      if (S.1 1) = 6 then
        ob2 (f_X2_fail S 2) fun v10 S9 =>
        some (v10, S9)
      else
        if x2 = 0 then
          if ((3 * (S.1 1)) + 0) < 0 ∨ 18 ≤ ((3 * (S.1 1)) + 0).toNatClampNeg then none else
          lt (sR S 1 (upd (S.2 1) ((3 * (S.1 1)) + 0).toNatClampNeg x1)) fun (S13 : RS) =>
          lt (sI S13 1 ((S13.1 1) + 1)) fun (S14 : RS) =>
          some (((S14.1 1) - 1), S14)
        else
          ob2 (f_X2_fail S 2) fun v17 S16 =>
          some (v17, S16)
    else
      if x2 = 0 then
        ob (f_X2_st S x3 0) fun v20 =>
        if v20 = x1 then
          f_X2_build_L25 n x1 1 (x3 + 1) S
        else
          f_X2_build_L25 n x1 0 (x3 + 1) S
      else
        f_X2_build_L25 n x1 1 (x3 + 1) S
def f_X2_build  (S : RS) (p1 : Int32) : Option (Int32 × RS) :=
  lt (sI S 0 0) fun (S1 : RS) =>
  ob (f_X2_isIn p1 0 23) fun v3 =>
  if v3 = 0 then
    ob2 (f_X2_fail S1 1) fun v24 S23 =>
    some (v24, S23)
  else
    f_X2_build_L25 FU p1 0 0 S1
abbrev rm_X2_build : Room := { frames := 1, cells := 0, slots := 0, locals := 22 }
theorem hdv_X2_build : yX2_build.cls = RX2 ∧ yX2_build.cls ≠ "java/lang/invoke/MethodHandle" ∧ yX2_build.cls ≠ "java/lang/invoke/VarHandle" ∧ (parseMethodDescriptor yX2_build.desc).map (fun d => d.parameters.length) = some 1 := by decide +kernel
set_option maxHeartbeats 4000000 in
set_option maxRecDepth 100000 in
theorem m_X2_build (l : Launch) (D : va_G) (Z : Nat → ClassId) (a : Nat → Nat) (S : RS) (p1 : Int32) (S' : RS) (r : Int32) (hf : f_X2_build S p1 = some (r, S')) : RWi l yX2_build wsX2_build rm_X2_build D Z [.ref (a 0), .int p1] (mwl Z a S) (mwl Z a S') r 0 0 := by
  refine RWi.of (cc := cX2_build) (nL := 4) (ret := (some .int)) (by decide +kernel) rfl (Nat.le_of_ble_eq_true rfl) ?_
  intro p e s m below meth c A hC hA hP hK hD hS ls hl
  obtain ⟨hx, hb, hr, hml, hown, hts, hlk, -⟩ := hC
  have hown : s.vm.findClass RX2 = some m.cls := hown
  have hin : ∀ w ∈ wsX20, w ∈ wsX2_build := fun w h => List.mem_cons_of_mem _ (List.mem_append_right _ h)
  have hl : lv_has ls 4 [(0, .ref (a 0)), (1, .int p1)] := hl
  have L25 : ∀ (n : Nat) (x1 : Int32) (x2 : Int32) (x3 : Int32) (S : RS) (H : Heap) (locs : List Loc), va_P D vwCl (mwl Z a S) H → va_D A (mwl Z a S) → va_S A s.heap H locs → ∀ ls : Array Slot, lv_has ls 4 [(0, .ref (a 0)), (1, .int x1), (2, .int x2), (3, .int x3)] → f_X2_build_L25 n x1 x2 x3 S = some (r, S') → W p l e rm_X2_build s m ([.ref (a 0), .int p1] : List Value).toArray below meth c H locs 0 0 (MQ below (zMi D A (mwl Z a S') r) ([.ref (a 0), .int p1] : List Value).toArray s 0 0 A) (F0 m 25 ls []) := by
    intro n
    induction n with
    | zero =>
      intro x1 x2 x3 S H locs hP hD hS ls hl hf
      exact no_r hf
    | succ n ih =>
      intro x1 x2 x3 S H locs hP hD hS ls hl hf
      rw [f_X2_build_L25] at hf
      refine lv_iload_n hx hb dX2_build_25 rfl (lv_at hl 3 rfl) ?_
      refine lv_aload_n hx hb dX2_build_26 rfl (lv_at hl 0 rfl) ?_
      refine va_get (D := D) (ci := 2) (v := .int (S.1 1)) (C := RX2) (T := TX2) (N := 7) hx hb hts hin hown hK hP 0 rfl rfl 1 (by decide) (hts (.fieldLink RX2 26 "PodGuidewayModel" "stations" "I") (List.mem_of_getElem? (i := 2) rfl)) (fun _ h9 => h9) rfl dX2_build_27 ?_
      refine lv_icmp_ge (tgt := 59) hx hb dX2_build_30 (by decide) (fun c6 => ?_) (fun c6 => ?_)
      · have hf := if_t hf c6
        refine lv_aload_n hx hb dX2_build_59 rfl (lv_at hl 0 rfl) ?_
        refine va_get (D := D) (ci := 2) (v := .int (S.1 1)) (C := RX2) (T := TX2) (N := 7) hx hb hts hin hown hK hP 0 rfl rfl 1 (by decide) (hts (.fieldLink RX2 26 "PodGuidewayModel" "stations" "I") (List.mem_of_getElem? (i := 2) rfl)) (fun _ h9 => h9) rfl dX2_build_60 ?_
        refine lv_bipush (v := 6) hx hb dX2_build_63 (by decide) ?_
        refine lv_icmp_eq (tgt := 72) hx hb dX2_build_65 (by decide) (fun c7 => ?_) (fun c7 => ?_)
        · have hf := if_t hf c7
          refine lv_aload_n hx hb dX2_build_72 rfl (lv_at hl 0 rfl) ?_
          refine lv_iconst (v := 2) hx hb dX2_build_73 (by decide) ?_
          obtain ⟨v10, S9, hv8, hf⟩ := ob2_some hf
          refine zc_mi0 (z_VD (As := [.int 2]) (rest := []) (q0 := 0) (ci := 2) ⟨hx, hb, hml, hown, hts⟩ (m_X2_fail l D Z a S 2 S9 v10 hv8) gX2_build_X2_fail rfl rfl rfl hdv_X2_fail ⟨Nat.le_of_ble_eq_true rfl, Nat.le_of_ble_eq_true rfl⟩ hK hP hD rfl rfl rfl rfl hl.1 rfl (Nat.le_of_ble_eq_true rfl) dX2_build_74 ⟨Nat.le_of_ble_eq_true rfl, Nat.le_of_ble_eq_true rfl⟩) hD hS hA (fun H locs hP hD hS => ?_)
          exact zw_i hx hb hr hlk hP hD hS (congrArg (fun z => ((mwl Z a z) : va_W)) (pr2 hf)) (pr1 hf) (Nat.le_of_ble_eq_true rfl) (Nat.le_of_ble_eq_true rfl) dX2_build_77
        · have hf := if_f hf c7
          refine lv_iload_n hx hb dX2_build_68 rfl (lv_at hl 2 rfl) ?_
          refine lv_if_eq (tgt := 78) hx hb dX2_build_69 (by decide) (fun c11 => ?_) (fun c11 => ?_)
          · have hf := if_t hf c11
            refine lv_aload_n hx hb dX2_build_78 rfl (lv_at hl 0 rfl) ?_
            refine va_get (D := D) (ci := 2) (v := .ref (a 2)) (C := RX2) (T := TX2) (N := 7) hx hb hts hin hown hK hP 0 rfl rfl 4 (by decide) (hts (.fieldLink RX2 13 "PodGuidewayModel" "halts" "[I") (List.mem_of_getElem? (i := 3) rfl)) (fun _ h9 => h9) rfl dX2_build_79 ?_
            refine lv_iconst (v := 3) hx hb dX2_build_82 (by decide) ?_
            refine lv_aload_n hx hb dX2_build_83 rfl (lv_at hl 0 rfl) ?_
            refine va_get (D := D) (ci := 2) (v := .int (S.1 1)) (C := RX2) (T := TX2) (N := 7) hx hb hts hin hown hK hP 0 rfl rfl 1 (by decide) (hts (.fieldLink RX2 26 "PodGuidewayModel" "stations" "I") (List.mem_of_getElem? (i := 2) rfl)) (fun _ h9 => h9) rfl dX2_build_84 ?_
            refine lv_imul hx hb dX2_build_87 ?_
            refine lv_iconst (v := 0) hx hb dX2_build_88 (by decide) ?_
            refine lv_iadd hx hb dX2_build_89 ?_
            refine lv_iload_n hx hb dX2_build_90 rfl (lv_at hl 1 rfl) ?_
            obtain ⟨hg12, hf⟩ := if_g hf
            refine va_iast hx hb hK hP hD hS 2 0 rfl rfl hg12 dX2_build_91 (fun H locs hP hD hS => ?_)
            obtain ⟨S13, eS13, hf⟩ := lt_ex hf
            have hP : va_P D vwCl (mwl Z a S13) H := by rw [eS13]; exact hP
            have hD : va_D A (mwl Z a S13) := by rw [eS13]; exact hD
            refine lv_aload_n hx hb dX2_build_92 rfl (lv_at hl 0 rfl) ?_
            refine lv_dup hx hb dX2_build_93 rfl ?_
            refine va_get (D := D) (ci := 2) (v := .int (S13.1 1)) (C := RX2) (T := TX2) (N := 7) hx hb hts hin hown hK hP 0 rfl rfl 1 (by decide) (hts (.fieldLink RX2 26 "PodGuidewayModel" "stations" "I") (List.mem_of_getElem? (i := 2) rfl)) (fun _ h9 => h9) rfl dX2_build_94 ?_
            refine lv_iconst (v := 1) hx hb dX2_build_97 (by decide) ?_
            refine lv_iadd hx hb dX2_build_98 ?_
            refine va_put (D := D) (ci := 2) (v := .int ((S13.1 1) + 1)) (ty := .int) (C := RX2) (T := TX2) (N := 7) hx hb hts hin tyX2 tyX2_ok nmX2 hown hK hP hD hS 0 rfl rfl 1 (by decide) (hts (.fieldLink RX2 26 "PodGuidewayModel" "stations" "I") (List.mem_of_getElem? (i := 2) rfl)) (fun _ h9 => h9) rfl (by decide +kernel) rfl rfl (Nat.le_of_ble_eq_true rfl) dX2_build_99 (fun H locs hP hD hS => ?_)
            obtain ⟨S14, eS14, hf⟩ := lt_ex hf
            have hP : va_P D vwCl (mwl Z a S14) H := by rw [eS14]; exact hP
            have hD : va_D A (mwl Z a S14) := by rw [eS14]; exact hD
            refine lv_aload_n hx hb dX2_build_102 rfl (lv_at hl 0 rfl) ?_
            refine va_get (D := D) (ci := 2) (v := .int (S14.1 1)) (C := RX2) (T := TX2) (N := 7) hx hb hts hin hown hK hP 0 rfl rfl 1 (by decide) (hts (.fieldLink RX2 26 "PodGuidewayModel" "stations" "I") (List.mem_of_getElem? (i := 2) rfl)) (fun _ h9 => h9) rfl dX2_build_103 ?_
            refine lv_iconst (v := 1) hx hb dX2_build_106 (by decide) ?_
            refine lv_isub hx hb dX2_build_107 ?_
            exact zw_i hx hb hr hlk hP hD hS (congrArg (fun z => ((mwl Z a z) : va_W)) (pr2 hf)) (pr1 hf) (Nat.le_of_ble_eq_true rfl) (Nat.le_of_ble_eq_true rfl) dX2_build_108
          · have hf := if_f hf c11
            refine lv_aload_n hx hb dX2_build_72 rfl (lv_at hl 0 rfl) ?_
            refine lv_iconst (v := 2) hx hb dX2_build_73 (by decide) ?_
            obtain ⟨v17, S16, hv15, hf⟩ := ob2_some hf
            refine zc_mi0 (z_VD (As := [.int 2]) (rest := []) (q0 := 0) (ci := 2) ⟨hx, hb, hml, hown, hts⟩ (m_X2_fail l D Z a S 2 S16 v17 hv15) gX2_build_X2_fail rfl rfl rfl hdv_X2_fail ⟨Nat.le_of_ble_eq_true rfl, Nat.le_of_ble_eq_true rfl⟩ hK hP hD rfl rfl rfl rfl hl.1 rfl (Nat.le_of_ble_eq_true rfl) dX2_build_74 ⟨Nat.le_of_ble_eq_true rfl, Nat.le_of_ble_eq_true rfl⟩) hD hS hA (fun H locs hP hD hS => ?_)
            exact zw_i hx hb hr hlk hP hD hS (congrArg (fun z => ((mwl Z a z) : va_W)) (pr2 hf)) (pr1 hf) (Nat.le_of_ble_eq_true rfl) (Nat.le_of_ble_eq_true rfl) dX2_build_77
      · have hf := if_f hf c6
        refine lv_iload_n hx hb dX2_build_33 rfl (lv_at hl 2 rfl) ?_
        refine lv_if_ne (tgt := 47) hx hb dX2_build_34 (by decide) (fun c18 => ?_) (fun c18 => ?_)
        · have hf := if_f hf c18
          refine lv_iconst (v := 1) hx hb dX2_build_47 (by decide) ?_
          refine lv_goto (tgt := 52) hx hb dX2_build_48 (by decide) ?_
          refine lv_istore_n (lv' := [(2, .int 1), (0, .ref (a 0)), (1, .int x1), (3, .int x3)]) hx hb dX2_build_52 rfl hl (by decide) rfl (fun ls hl => ?_)
          refine lv_iinc (v := (x3 + 1)) (lv' := [(3, .int (x3 + 1)), (2, .int 1), (0, .ref (a 0)), (1, .int x1)]) hx hb dX2_build_53 hl (k := 3) rfl rfl (by decide) rfl (fun ls hl => ?_)
          refine lv_goto (tgt := 25) hx hb dX2_build_56 (by decide) ?_
          exact ih x1 1 (x3 + 1) S _ _ hP hD hS ls (lv_sub hl [2, 3, 1, 0] rfl) hf
        · have hf := if_t hf c18
          refine lv_aload_n hx hb dX2_build_37 rfl (lv_at hl 0 rfl) ?_
          refine lv_iload_n hx hb dX2_build_38 rfl (lv_at hl 3 rfl) ?_
          refine lv_iconst (v := 0) hx hb dX2_build_39 (by decide) ?_
          obtain ⟨v20, hv19, hf⟩ := ob_some hf
          refine zc_i (z_VD (As := [.int x3, .int 0]) (rest := []) (q0 := 0) (ci := 2) ⟨hx, hb, hml, hown, hts⟩ (m_X2_st l D Z a S x3 0 v20 hv19) gX2_build_X2_st rfl rfl rfl hdv_X2_st ⟨Nat.le_of_ble_eq_true rfl, Nat.le_of_ble_eq_true rfl⟩ hK hP hD rfl rfl rfl rfl hl.1 rfl (Nat.le_of_ble_eq_true rfl) dX2_build_40 ⟨Nat.le_of_ble_eq_true rfl, Nat.le_of_ble_eq_true rfl⟩) hP hS hA (fun H locs hP hS => ?_)
          refine lv_iload_n hx hb dX2_build_43 rfl (lv_at hl 1 rfl) ?_
          refine lv_icmp_ne (tgt := 51) hx hb dX2_build_44 (by decide) (fun c21 => ?_) (fun c21 => ?_)
          · have hf := if_f hf c21
            refine lv_iconst (v := 0) hx hb dX2_build_51 (by decide) ?_
            refine lv_istore_n (lv' := [(2, .int 0), (0, .ref (a 0)), (1, .int x1), (3, .int x3)]) hx hb dX2_build_52 rfl hl (by decide) rfl (fun ls hl => ?_)
            refine lv_iinc (v := (x3 + 1)) (lv' := [(3, .int (x3 + 1)), (2, .int 0), (0, .ref (a 0)), (1, .int x1)]) hx hb dX2_build_53 hl (k := 3) rfl rfl (by decide) rfl (fun ls hl => ?_)
            refine lv_goto (tgt := 25) hx hb dX2_build_56 (by decide) ?_
            exact ih x1 0 (x3 + 1) S _ _ hP hD hS ls (lv_sub hl [2, 3, 1, 0] rfl) hf
          · have hf := if_t hf c21
            refine lv_iconst (v := 1) hx hb dX2_build_47 (by decide) ?_
            refine lv_goto (tgt := 52) hx hb dX2_build_48 (by decide) ?_
            refine lv_istore_n (lv' := [(2, .int 1), (0, .ref (a 0)), (1, .int x1), (3, .int x3)]) hx hb dX2_build_52 rfl hl (by decide) rfl (fun ls hl => ?_)
            refine lv_iinc (v := (x3 + 1)) (lv' := [(3, .int (x3 + 1)), (2, .int 1), (0, .ref (a 0)), (1, .int x1)]) hx hb dX2_build_53 hl (k := 3) rfl rfl (by decide) rfl (fun ls hl => ?_)
            refine lv_goto (tgt := 25) hx hb dX2_build_56 (by decide) ?_
            exact ih x1 1 (x3 + 1) S _ _ hP hD hS ls (lv_sub hl [2, 3, 1, 0] rfl) hf
  unfold f_X2_build at hf
  refine lv_aload_n hx hb dX2_build_0 rfl (lv_at hl 0 rfl) ?_
  refine lv_iconst (v := 0) hx hb dX2_build_1 (by decide) ?_
  refine va_put (D := D) (ci := 2) (v := .int 0) (ty := .int) (C := RX2) (T := TX2) (N := 7) hx hb hts hin tyX2 tyX2_ok nmX2 hown hK hP hD hS 0 rfl rfl 0 (by decide) (hts (.fieldLink RX2 22 "PodGuidewayModel" "thrown" "I") (List.mem_of_getElem? (i := 1) rfl)) (fun _ h9 => h9) rfl (by decide +kernel) rfl rfl (Nat.le_of_ble_eq_true rfl) dX2_build_2 (fun H locs hP hD hS => ?_)
  obtain ⟨S1, eS1, hf⟩ := lt_ex hf
  have hP : va_P D vwCl (mwl Z a S1) H := by rw [eS1]; exact hP
  have hD : va_D A (mwl Z a S1) := by rw [eS1]; exact hD
  refine lv_iload_n hx hb dX2_build_5 rfl (lv_at hl 1 rfl) ?_
  refine lv_iconst (v := 0) hx hb dX2_build_6 (by decide) ?_
  refine lv_bipush (v := 23) hx hb dX2_build_7 (by decide) ?_
  obtain ⟨v3, hv2, hf⟩ := ob_some hf
  refine zc_z (z_SD (As := [.int p1, .int 0, .int 23]) (rest := []) ⟨hx, hb, hml, hown, hts⟩ (m_X2_isIn l D Z p1 0 23 v3 hv2) gX2_build_X2_isIn rfl rfl rfl hds_X2_isIn ⟨Nat.le_of_ble_eq_true rfl, Nat.le_of_ble_eq_true rfl⟩ hK (hP.sub (ws' := []) [] rfl) (hD.sub (ws' := []) [] (by decide) rfl) rfl hl.1 rfl (Nat.le_of_ble_eq_true rfl) dX2_build_9 ⟨Nat.le_of_ble_eq_true rfl, Nat.le_of_ble_eq_true rfl⟩) hP hS hA (fun H locs hn4 hP hS => ?_)
  refine lv_if_ne (tgt := 21) hx hb dX2_build_12 (by decide) (fun c5 => ?_) (fun c5 => ?_)
  · have hf := if_f hf c5
    refine lv_iconst (v := 0) hx hb dX2_build_21 (by decide) ?_
    refine lv_istore_n (lv' := [(2, .int 0), (0, .ref (a 0)), (1, .int p1)]) hx hb dX2_build_22 rfl hl (by decide) rfl (fun ls hl => ?_)
    refine lv_iconst (v := 0) hx hb dX2_build_23 (by decide) ?_
    refine lv_istore_n (lv' := [(3, .int 0), (2, .int 0), (0, .ref (a 0)), (1, .int p1)]) hx hb dX2_build_24 rfl hl (by decide) rfl (fun ls hl => ?_)
    exact L25 FU p1 0 0 S1 _ _ hP hD hS ls (lv_sub hl [2, 3, 1, 0] rfl) hf
  · have hf := if_t hf c5
    refine lv_aload_n hx hb dX2_build_15 rfl (lv_at hl 0 rfl) ?_
    refine lv_iconst (v := 1) hx hb dX2_build_16 (by decide) ?_
    obtain ⟨v24, S23, hv22, hf⟩ := ob2_some hf
    refine zc_mi0 (z_VD (As := [.int 1]) (rest := []) (q0 := 0) (ci := 2) ⟨hx, hb, hml, hown, hts⟩ (m_X2_fail l D Z a S1 1 S23 v24 hv22) gX2_build_X2_fail rfl rfl rfl hdv_X2_fail ⟨Nat.le_of_ble_eq_true rfl, Nat.le_of_ble_eq_true rfl⟩ hK hP hD rfl rfl rfl rfl hl.1 rfl (Nat.le_of_ble_eq_true rfl) dX2_build_17 ⟨Nat.le_of_ble_eq_true rfl, Nat.le_of_ble_eq_true rfl⟩) hD hS hA (fun H locs hP hD hS => ?_)
    exact zw_i hx hb hr hlk hP hD hS (congrArg (fun z => ((mwl Z a z) : va_W)) (pr2 hf)) (pr1 hf) (Nat.le_of_ble_eq_true rfl) (Nat.le_of_ble_eq_true rfl) dX2_build_20
def f_X2_pod  (S : RS) (p1 : Int32) : Option (Int32 × RS) :=
  lt (sI S 0 0) fun (S1 : RS) =>
  ob (f_X2_isStation S1 p1) fun v3 =>
  if v3 = 0 then
    ob2 (f_X2_fail S1 1) fun v30 S29 =>
    some (v30, S29)
  else
    if (S1.1 2) = 12 then
      ob2 (f_X2_fail S1 2) fun v9 S8 =>
      some (v9, S8)
    else
      ob (f_X2_free S1 p1) fun v11 =>
      if v11 = (-1) then
        ob2 (f_X2_fail S1 2) fun v27 S26 =>
        some (v27, S26)
      else
        lt (upd (fun _ => 0) (0 : Int32).toNatClampNeg (-1)) fun (g14 : Nat → Int32) =>
        lt (upd g14 (1 : Int32).toNatClampNeg p1) fun (g15 : Nat → Int32) =>
        ob (f_X2_free S1 p1) fun v17 =>
        lt (upd g15 (2 : Int32).toNatClampNeg v17) fun (g18 : Nat → Int32) =>
        lt (upd g18 (3 : Int32).toNatClampNeg (-1)) fun (g19 : Nat → Int32) =>
        lt (upd g19 (4 : Int32).toNatClampNeg 0) fun (g20 : Nat → Int32) =>
        lt (upd g20 (5 : Int32).toNatClampNeg 0) fun (g21 : Nat → Int32) =>
        lt (upd g21 (6 : Int32).toNatClampNeg 0) fun (g22 : Nat → Int32) =>
        if cpbad 0 (7 * (S1.1 2)) 7 7 84 then none else
        lt (sR S1 0 (va_cpy g22 (S1.2 0) (0 : Int32).toNatClampNeg (7 * (S1.1 2)).toNatClampNeg (7 : Int32).toNatClampNeg)) fun (S23 : RS) =>
        lt (sI S23 2 ((S23.1 2) + 1)) fun (S24 : RS) =>
        some (((S24.1 2) - 1), S24)
abbrev rm_X2_pod : Room := { frames := 3, cells := 1, slots := 7, locals := 80 }
theorem hdv_X2_pod : yX2_pod.cls = RX2 ∧ yX2_pod.cls ≠ "java/lang/invoke/MethodHandle" ∧ yX2_pod.cls ≠ "java/lang/invoke/VarHandle" ∧ (parseMethodDescriptor yX2_pod.desc).map (fun d => d.parameters.length) = some 1 := by decide +kernel
set_option maxHeartbeats 4000000 in
set_option maxRecDepth 100000 in
theorem m_X2_pod (l : Launch) (D : va_G) (Z : Nat → ClassId) (a : Nat → Nat) (S : RS) (p1 : Int32) (S' : RS) (r : Int32) (hf : f_X2_pod S p1 = some (r, S')) : RWi l yX2_pod wsX2_pod rm_X2_pod D Z [.ref (a 0), .int p1] (mwl Z a S) (mwl Z a S') r 1 7 := by
  refine RWi.of (cc := cX2_pod) (nL := 3) (ret := (some .int)) (by decide +kernel) rfl (Nat.le_of_ble_eq_true rfl) ?_
  intro p e s m below meth c A hC hA hP hK hD hS ls hl
  obtain ⟨hx, hb, hr, hml, hown, hts, hlk, -⟩ := hC
  have hown : s.vm.findClass RX2 = some m.cls := hown
  have hin : ∀ w ∈ wsX20, w ∈ wsX2_pod := fun w h => List.mem_cons_of_mem _ (List.mem_append_right _ h)
  have hl : lv_has ls 3 [(0, .ref (a 0)), (1, .int p1)] := hl
  unfold f_X2_pod at hf
  refine lv_aload_n hx hb dX2_pod_0 rfl (lv_at hl 0 rfl) ?_
  refine lv_iconst (v := 0) hx hb dX2_pod_1 (by decide) ?_
  refine va_put (D := D) (ci := 2) (v := .int 0) (ty := .int) (C := RX2) (T := TX2) (N := 7) hx hb hts hin tyX2 tyX2_ok nmX2 hown hK hP hD hS 0 rfl rfl 0 (by decide) (hts (.fieldLink RX2 22 "PodGuidewayModel" "thrown" "I") (List.mem_of_getElem? (i := 1) rfl)) (fun _ h9 => h9) rfl (by decide +kernel) rfl rfl (Nat.le_of_ble_eq_true rfl) dX2_pod_2 (fun H locs hP hD hS => ?_)
  obtain ⟨S1, eS1, hf⟩ := lt_ex hf
  have hP : va_P D vwCl (mwl Z a S1) H := by rw [eS1]; exact hP
  have hD : va_D A (mwl Z a S1) := by rw [eS1]; exact hD
  refine lv_aload_n hx hb dX2_pod_5 rfl (lv_at hl 0 rfl) ?_
  refine lv_iload_n hx hb dX2_pod_6 rfl (lv_at hl 1 rfl) ?_
  obtain ⟨v3, hv2, hf⟩ := ob_some hf
  refine zc_z (z_VD (As := [.int p1]) (rest := []) (q0 := 0) (ci := 2) ⟨hx, hb, hml, hown, hts⟩ (m_X2_isStation l D Z a S1 p1 v3 hv2) gX2_pod_X2_isStation rfl rfl rfl hdv_X2_isStation ⟨Nat.le_of_ble_eq_true rfl, Nat.le_of_ble_eq_true rfl⟩ hK hP hD rfl rfl rfl rfl hl.1 rfl (Nat.le_of_ble_eq_true rfl) dX2_pod_7 ⟨Nat.le_of_ble_eq_true rfl, Nat.le_of_ble_eq_true rfl⟩) hP hS hA (fun H locs hn4 hP hS => ?_)
  refine lv_if_ne (tgt := 19) hx hb dX2_pod_10 (by decide) (fun c5 => ?_) (fun c5 => ?_)
  · have hf := if_f hf c5
    refine lv_aload_n hx hb dX2_pod_19 rfl (lv_at hl 0 rfl) ?_
    refine va_get (D := D) (ci := 2) (v := .int (S1.1 2)) (C := RX2) (T := TX2) (N := 7) hx hb hts hin hown hK hP 0 rfl rfl 2 (by decide) (hts (.fieldLink RX2 33 "PodGuidewayModel" "pods" "I") (List.mem_of_getElem? (i := 2) rfl)) (fun _ h9 => h9) rfl dX2_pod_20 ?_
    refine lv_bipush (v := 12) hx hb dX2_pod_23 (by decide) ?_
    refine lv_icmp_eq (tgt := 37) hx hb dX2_pod_25 (by decide) (fun c6 => ?_) (fun c6 => ?_)
    · have hf := if_t hf c6
      refine lv_aload_n hx hb dX2_pod_37 rfl (lv_at hl 0 rfl) ?_
      refine lv_iconst (v := 2) hx hb dX2_pod_38 (by decide) ?_
      obtain ⟨v9, S8, hv7, hf⟩ := ob2_some hf
      refine zc_mi0 (z_VD (As := [.int 2]) (rest := []) (q0 := 0) (ci := 2) ⟨hx, hb, hml, hown, hts⟩ (m_X2_fail l D Z a S1 2 S8 v9 hv7) gX2_pod_X2_fail rfl rfl rfl hdv_X2_fail ⟨Nat.le_of_ble_eq_true rfl, Nat.le_of_ble_eq_true rfl⟩ hK hP hD rfl rfl rfl rfl hl.1 rfl (Nat.le_of_ble_eq_true rfl) dX2_pod_39 ⟨Nat.le_of_ble_eq_true rfl, Nat.le_of_ble_eq_true rfl⟩) hD hS hA (fun H locs hP hD hS => ?_)
      exact zw_i hx hb hr hlk hP hD hS (congrArg (fun z => ((mwl Z a z) : va_W)) (pr2 hf)) (pr1 hf) (Nat.le_of_ble_eq_true rfl) (Nat.le_of_ble_eq_true rfl) dX2_pod_42
    · have hf := if_f hf c6
      refine lv_aload_n hx hb dX2_pod_28 rfl (lv_at hl 0 rfl) ?_
      refine lv_iload_n hx hb dX2_pod_29 rfl (lv_at hl 1 rfl) ?_
      obtain ⟨v11, hv10, hf⟩ := ob_some hf
      refine zc_i (z_VD (As := [.int p1]) (rest := []) (q0 := 0) (ci := 2) ⟨hx, hb, hml, hown, hts⟩ (m_X2_free l D Z a S1 p1 v11 hv10) gX2_pod_X2_free rfl rfl rfl hdv_X2_free ⟨Nat.le_of_ble_eq_true rfl, Nat.le_of_ble_eq_true rfl⟩ hK hP hD rfl rfl rfl rfl hl.1 rfl (Nat.le_of_ble_eq_true rfl) dX2_pod_30 ⟨Nat.le_of_ble_eq_true rfl, Nat.le_of_ble_eq_true rfl⟩) hP hS hA (fun H locs hP hS => ?_)
      refine lv_iconst (v := (-1)) hx hb dX2_pod_33 (by decide) ?_
      refine lv_icmp_ne (tgt := 43) hx hb dX2_pod_34 (by decide) (fun c12 => ?_) (fun c12 => ?_)
      · have hf := if_f hf c12
        refine lv_bipush (v := 7) hx hb dX2_pod_43 (by decide) ?_
        refine z_newa (N1 := 7) hx hb (hts (.arrayClass .int) (List.mem_of_getElem? (i := 3) rfl)) hK hP hD hS hA (by decide) (by decide) (by decide) (Nat.le_of_ble_eq_true rfl) (Nat.le_of_ble_eq_true rfl) dX2_pod_45 (fun q13 H hP hD hS => ?_)
        refine lv_dup hx hb dX2_pod_47 rfl ?_
        refine lv_iconst (v := 0) hx hb dX2_pod_48 (by decide) ?_
        refine lv_iconst (v := (-1)) hx hb dX2_pod_49 (by decide) ?_
        refine va_iast hx hb hK hP hD hS 5 0 rfl rfl (vp_in_lit (by decide)) dX2_pod_50 (fun H locs hP hD hS => ?_)
        obtain ⟨g14, eg14, hf⟩ := lt_ex hf
        have hP : va_P D vwCl ((mwl Z a S1) ++ [(q13, .inl (Z 0, 7, .inl g14))]) H := by rw [eg14]; exact hP
        have hD : va_D A ((mwl Z a S1) ++ [(q13, .inl (Z 0, 7, .inl g14))]) := by rw [eg14]; exact hD
        refine lv_dup hx hb dX2_pod_51 rfl ?_
        refine lv_iconst (v := 1) hx hb dX2_pod_52 (by decide) ?_
        refine lv_iload_n hx hb dX2_pod_53 rfl (lv_at hl 1 rfl) ?_
        refine va_iast hx hb hK hP hD hS 5 0 rfl rfl (vp_in_lit (by decide)) dX2_pod_54 (fun H locs hP hD hS => ?_)
        obtain ⟨g15, eg15, hf⟩ := lt_ex hf
        have hP : va_P D vwCl ((mwl Z a S1) ++ [(q13, .inl (Z 0, 7, .inl g15))]) H := by rw [eg15]; exact hP
        have hD : va_D A ((mwl Z a S1) ++ [(q13, .inl (Z 0, 7, .inl g15))]) := by rw [eg15]; exact hD
        refine lv_dup hx hb dX2_pod_55 rfl ?_
        refine lv_iconst (v := 2) hx hb dX2_pod_56 (by decide) ?_
        refine lv_aload_n hx hb dX2_pod_57 rfl (lv_at hl 0 rfl) ?_
        refine lv_iload_n hx hb dX2_pod_58 rfl (lv_at hl 1 rfl) ?_
        obtain ⟨v17, hv16, hf⟩ := ob_some hf
        refine zc_i (z_VD (As := [.int p1]) (rest := [.int 2, .ref q13, .ref q13]) (q0 := 0) (ci := 2) ⟨hx, hb, hml, hown, hts⟩ (m_X2_free l D Z a S1 p1 v17 hv16) gX2_pod_X2_free rfl rfl rfl hdv_X2_free ⟨Nat.le_of_ble_eq_true rfl, Nat.le_of_ble_eq_true rfl⟩ hK (hP.sub (ws' := (mwl Z a S1)) [0, 1, 2, 3, 4] rfl) (hD.sub (ws' := (mwl Z a S1)) [0, 1, 2, 3, 4] (by decide) rfl) rfl rfl rfl rfl hl.1 rfl (Nat.le_of_ble_eq_true rfl) dX2_pod_59 ⟨Nat.le_of_ble_eq_true rfl, Nat.le_of_ble_eq_true rfl⟩) hP hS hA (fun H locs hP hS => ?_)
        refine va_iast hx hb hK hP hD hS 5 0 rfl rfl (vp_in_lit (by decide)) dX2_pod_62 (fun H locs hP hD hS => ?_)
        obtain ⟨g18, eg18, hf⟩ := lt_ex hf
        have hP : va_P D vwCl ((mwl Z a S1) ++ [(q13, .inl (Z 0, 7, .inl g18))]) H := by rw [eg18]; exact hP
        have hD : va_D A ((mwl Z a S1) ++ [(q13, .inl (Z 0, 7, .inl g18))]) := by rw [eg18]; exact hD
        refine lv_dup hx hb dX2_pod_63 rfl ?_
        refine lv_iconst (v := 3) hx hb dX2_pod_64 (by decide) ?_
        refine lv_iconst (v := (-1)) hx hb dX2_pod_65 (by decide) ?_
        refine va_iast hx hb hK hP hD hS 5 0 rfl rfl (vp_in_lit (by decide)) dX2_pod_66 (fun H locs hP hD hS => ?_)
        obtain ⟨g19, eg19, hf⟩ := lt_ex hf
        have hP : va_P D vwCl ((mwl Z a S1) ++ [(q13, .inl (Z 0, 7, .inl g19))]) H := by rw [eg19]; exact hP
        have hD : va_D A ((mwl Z a S1) ++ [(q13, .inl (Z 0, 7, .inl g19))]) := by rw [eg19]; exact hD
        refine lv_dup hx hb dX2_pod_67 rfl ?_
        refine lv_iconst (v := 4) hx hb dX2_pod_68 (by decide) ?_
        refine lv_iconst (v := 0) hx hb dX2_pod_69 (by decide) ?_
        refine va_iast hx hb hK hP hD hS 5 0 rfl rfl (vp_in_lit (by decide)) dX2_pod_70 (fun H locs hP hD hS => ?_)
        obtain ⟨g20, eg20, hf⟩ := lt_ex hf
        have hP : va_P D vwCl ((mwl Z a S1) ++ [(q13, .inl (Z 0, 7, .inl g20))]) H := by rw [eg20]; exact hP
        have hD : va_D A ((mwl Z a S1) ++ [(q13, .inl (Z 0, 7, .inl g20))]) := by rw [eg20]; exact hD
        refine lv_dup hx hb dX2_pod_71 rfl ?_
        refine lv_iconst (v := 5) hx hb dX2_pod_72 (by decide) ?_
        refine lv_iconst (v := 0) hx hb dX2_pod_73 (by decide) ?_
        refine va_iast hx hb hK hP hD hS 5 0 rfl rfl (vp_in_lit (by decide)) dX2_pod_74 (fun H locs hP hD hS => ?_)
        obtain ⟨g21, eg21, hf⟩ := lt_ex hf
        have hP : va_P D vwCl ((mwl Z a S1) ++ [(q13, .inl (Z 0, 7, .inl g21))]) H := by rw [eg21]; exact hP
        have hD : va_D A ((mwl Z a S1) ++ [(q13, .inl (Z 0, 7, .inl g21))]) := by rw [eg21]; exact hD
        refine lv_dup hx hb dX2_pod_75 rfl ?_
        refine lv_bipush (v := 6) hx hb dX2_pod_76 (by decide) ?_
        refine lv_iconst (v := 0) hx hb dX2_pod_78 (by decide) ?_
        refine va_iast hx hb hK hP hD hS 5 0 rfl rfl (vp_in_lit (by decide)) dX2_pod_79 (fun H locs hP hD hS => ?_)
        obtain ⟨g22, eg22, hf⟩ := lt_ex hf
        have hP : va_P D vwCl ((mwl Z a S1) ++ [(q13, .inl (Z 0, 7, .inl g22))]) H := by rw [eg22]; exact hP
        have hD : va_D A ((mwl Z a S1) ++ [(q13, .inl (Z 0, 7, .inl g22))]) := by rw [eg22]; exact hD
        refine lv_astore_n (lv' := [(2, .ref q13), (0, .ref (a 0)), (1, .int p1)]) hx hb dX2_pod_80 rfl hl (by decide) rfl (fun ls hl => ?_)
        refine lv_aload_n hx hb dX2_pod_81 rfl (lv_at hl 0 rfl) ?_
        refine lv_iconst (v := 0) hx hb dX2_pod_82 (by decide) ?_
        refine lv_aload_n hx hb dX2_pod_83 rfl (lv_at hl 1 rfl) ?_
        refine va_get (D := D) (ci := 2) (v := .ref (a 1)) (C := RX2) (T := TX2) (N := 7) hx hb hts hin hown hK hP 0 rfl rfl 3 (by decide) (hts (.fieldLink RX2 9 "PodGuidewayModel" "fleet" "[I") (List.mem_of_getElem? (i := 4) rfl)) (fun _ h9 => h9) rfl dX2_pod_84 ?_
        refine lv_bipush (v := 7) hx hb dX2_pod_87 (by decide) ?_
        refine lv_aload_n hx hb dX2_pod_89 rfl (lv_at hl 1 rfl) ?_
        refine va_get (D := D) (ci := 2) (v := .int (S1.1 2)) (C := RX2) (T := TX2) (N := 7) hx hb hts hin hown hK hP 0 rfl rfl 2 (by decide) (hts (.fieldLink RX2 33 "PodGuidewayModel" "pods" "I") (List.mem_of_getElem? (i := 2) rfl)) (fun _ h9 => h9) rfl dX2_pod_90 ?_
        refine lv_imul hx hb dX2_pod_93 ?_
        refine lv_bipush (v := 7) hx hb dX2_pod_94 (by decide) ?_
        obtain ⟨hcp, hf⟩ := if_g hf
        refine va_copyi (sp := 0) (dp := (7 * (S1.1 2))) (n := 7) hx hb (hml.trans hl.1.symm) hown (hts (.methodLink RX2 57 arraycopyName) (List.mem_of_getElem? (i := 5) rfl)) (hts (.native arraycopyName) (List.mem_of_getElem? (i := 6) rfl)) (hts (.static arraycopyName) (List.mem_of_getElem? (i := 7) rfl)) (hts (.initialized "java/lang/System") (List.mem_of_getElem? (i := 8) rfl)) hK hP hD hS 5 1 0 0 rfl rfl rfl rfl rfl (cp_1 hcp) (cp_2 hcp) (cp_3 hcp) (cp_4 hcp) (cp_5 hcp) (fun _ _ => rfl) (Nat.le_of_ble_eq_true rfl) (by decide) dX2_pod_96 (fun H locs hP hD hS => ?_)
        obtain ⟨S23, eS23, hf⟩ := lt_ex hf
        have hP : va_P D vwCl ((mwl Z a S23) ++ [(q13, .inl (Z 0, 7, .inl g22))]) H := by rw [eS23]; exact hP
        have hD : va_D A ((mwl Z a S23) ++ [(q13, .inl (Z 0, 7, .inl g22))]) := by rw [eS23]; exact hD
        refine lv_aload_n hx hb dX2_pod_99 rfl (lv_at hl 1 rfl) ?_
        refine lv_dup hx hb dX2_pod_100 rfl ?_
        refine va_get (D := D) (ci := 2) (v := .int (S23.1 2)) (C := RX2) (T := TX2) (N := 7) hx hb hts hin hown hK hP 0 rfl rfl 2 (by decide) (hts (.fieldLink RX2 33 "PodGuidewayModel" "pods" "I") (List.mem_of_getElem? (i := 2) rfl)) (fun _ h9 => h9) rfl dX2_pod_101 ?_
        refine lv_iconst (v := 1) hx hb dX2_pod_104 (by decide) ?_
        refine lv_iadd hx hb dX2_pod_105 ?_
        refine va_put (D := D) (ci := 2) (v := .int ((S23.1 2) + 1)) (ty := .int) (C := RX2) (T := TX2) (N := 7) hx hb hts hin tyX2 tyX2_ok nmX2 hown hK hP hD hS 0 rfl rfl 2 (by decide) (hts (.fieldLink RX2 33 "PodGuidewayModel" "pods" "I") (List.mem_of_getElem? (i := 2) rfl)) (fun _ h9 => h9) rfl (by decide +kernel) rfl rfl (Nat.le_of_ble_eq_true rfl) dX2_pod_106 (fun H locs hP hD hS => ?_)
        obtain ⟨S24, eS24, hf⟩ := lt_ex hf
        have hP : va_P D vwCl ((mwl Z a S24) ++ [(q13, .inl (Z 0, 7, .inl g22))]) H := by rw [eS24]; exact hP
        have hD : va_D A ((mwl Z a S24) ++ [(q13, .inl (Z 0, 7, .inl g22))]) := by rw [eS24]; exact hD
        refine lv_aload_n hx hb dX2_pod_109 rfl (lv_at hl 1 rfl) ?_
        refine va_get (D := D) (ci := 2) (v := .int (S24.1 2)) (C := RX2) (T := TX2) (N := 7) hx hb hts hin hown hK hP 0 rfl rfl 2 (by decide) (hts (.fieldLink RX2 33 "PodGuidewayModel" "pods" "I") (List.mem_of_getElem? (i := 2) rfl)) (fun _ h9 => h9) rfl dX2_pod_110 ?_
        refine lv_iconst (v := 1) hx hb dX2_pod_113 (by decide) ?_
        refine lv_isub hx hb dX2_pod_114 ?_
        have hP := hP.sub (ws' := (mwl Z a S24)) [0, 1, 2, 3, 4] rfl
        have hD := hD.sub (ws' := (mwl Z a S24)) [0, 1, 2, 3, 4] (by decide) rfl
        exact zw_i hx hb hr hlk hP hD hS (congrArg (fun z => ((mwl Z a z) : va_W)) (pr2 hf)) (pr1 hf) (Nat.le_of_ble_eq_true rfl) (Nat.le_of_ble_eq_true rfl) dX2_pod_115
      · have hf := if_t hf c12
        refine lv_aload_n hx hb dX2_pod_37 rfl (lv_at hl 0 rfl) ?_
        refine lv_iconst (v := 2) hx hb dX2_pod_38 (by decide) ?_
        obtain ⟨v27, S26, hv25, hf⟩ := ob2_some hf
        refine zc_mi0 (z_VD (As := [.int 2]) (rest := []) (q0 := 0) (ci := 2) ⟨hx, hb, hml, hown, hts⟩ (m_X2_fail l D Z a S1 2 S26 v27 hv25) gX2_pod_X2_fail rfl rfl rfl hdv_X2_fail ⟨Nat.le_of_ble_eq_true rfl, Nat.le_of_ble_eq_true rfl⟩ hK hP hD rfl rfl rfl rfl hl.1 rfl (Nat.le_of_ble_eq_true rfl) dX2_pod_39 ⟨Nat.le_of_ble_eq_true rfl, Nat.le_of_ble_eq_true rfl⟩) hD hS hA (fun H locs hP hD hS => ?_)
        exact zw_i hx hb hr hlk hP hD hS (congrArg (fun z => ((mwl Z a z) : va_W)) (pr2 hf)) (pr1 hf) (Nat.le_of_ble_eq_true rfl) (Nat.le_of_ble_eq_true rfl) dX2_pod_42
  · have hf := if_t hf c5
    refine lv_aload_n hx hb dX2_pod_13 rfl (lv_at hl 0 rfl) ?_
    refine lv_iconst (v := 1) hx hb dX2_pod_14 (by decide) ?_
    obtain ⟨v30, S29, hv28, hf⟩ := ob2_some hf
    refine zc_mi0 (z_VD (As := [.int 1]) (rest := []) (q0 := 0) (ci := 2) ⟨hx, hb, hml, hown, hts⟩ (m_X2_fail l D Z a S1 1 S29 v30 hv28) gX2_pod_X2_fail rfl rfl rfl hdv_X2_fail ⟨Nat.le_of_ble_eq_true rfl, Nat.le_of_ble_eq_true rfl⟩ hK hP hD rfl rfl rfl rfl hl.1 rfl (Nat.le_of_ble_eq_true rfl) dX2_pod_15 ⟨Nat.le_of_ble_eq_true rfl, Nat.le_of_ble_eq_true rfl⟩) hD hS hA (fun H locs hP hD hS => ?_)
    exact zw_i hx hb hr hlk hP hD hS (congrArg (fun z => ((mwl Z a z) : va_W)) (pr2 hf)) (pr1 hf) (Nat.le_of_ble_eq_true rfl) (Nat.le_of_ble_eq_true rfl) dX2_pod_18
def f_X2_line  (S : RS) (p1 : Int32) (p2 : Int32) (p3 : Int32) : Option (RS) :=
  lt (upd (fun _ => 0) (0 : Int32).toNatClampNeg p2) fun (g2 : Nat → Int32) =>
  lt (upd g2 (1 : Int32).toNatClampNeg 0) fun (g3 : Nat → Int32) =>
  lt (upd g3 (2 : Int32).toNatClampNeg p3) fun (g4 : Nat → Int32) =>
  ob (f_X2_st S p1 1) fun v6 =>
  if cpbad 0 (3 * ((9 * p1) + v6)) 3 3 162 then none else
  lt (sR S 2 (va_cpy g4 (S.2 2) (0 : Int32).toNatClampNeg (3 * ((9 * p1) + v6)).toNatClampNeg (3 : Int32).toNatClampNeg)) fun (S7 : RS) =>
  if ((3 * p1) + 1) < 0 ∨ 18 ≤ ((3 * p1) + 1).toNatClampNeg then none else
  if ((3 * p1) + 1) < 0 ∨ 18 ≤ ((3 * p1) + 1).toNatClampNeg then none else
  lt (sR S7 1 (upd (S7.2 1) ((3 * p1) + 1).toNatClampNeg ((S7.2 1 ((3 * p1) + 1).toNatClampNeg) + 1))) fun (S10 : RS) =>
  some S10
abbrev rm_X2_line : Room := { frames := 1, cells := 1, slots := 3, locals := 80 }
theorem hdv_X2_line : yX2_line.cls = RX2 ∧ yX2_line.cls ≠ "java/lang/invoke/MethodHandle" ∧ yX2_line.cls ≠ "java/lang/invoke/VarHandle" ∧ (parseMethodDescriptor yX2_line.desc).map (fun d => d.parameters.length) = some 3 := by decide +kernel
set_option maxHeartbeats 4000000 in
set_option maxRecDepth 100000 in
theorem m_X2_line (l : Launch) (D : va_G) (Z : Nat → ClassId) (a : Nat → Nat) (S : RS) (p1 : Int32) (p2 : Int32) (p3 : Int32) (S' : RS) (hf : f_X2_line S p1 p2 p3 = some S') : RWv l yX2_line wsX2_line rm_X2_line D Z [.ref (a 0), .int p1, .int p2, .int p3] (mwl Z a S) (mwl Z a S') 1 3 := by
  refine RWv.of (cc := cX2_line) (nL := 5) (ret := none) (by decide +kernel) rfl (Nat.le_of_ble_eq_true rfl) ?_
  intro p e s m below meth c A hC hA hP hK hD hS ls hl
  obtain ⟨hx, hb, hr, hml, hown, hts, hlk, -⟩ := hC
  have hown : s.vm.findClass RX2 = some m.cls := hown
  have hin : ∀ w ∈ wsX20, w ∈ wsX2_line := fun w h => List.mem_cons_of_mem _ (List.mem_append_right _ h)
  have hl : lv_has ls 5 [(0, .ref (a 0)), (1, .int p1), (2, .int p2), (3, .int p3)] := hl
  unfold f_X2_line at hf
  refine lv_iconst (v := 3) hx hb dX2_line_0 (by decide) ?_
  refine z_newa (N1 := 3) hx hb (hts (.arrayClass .int) (List.mem_of_getElem? (i := 1) rfl)) hK hP hD hS hA (by decide) (by decide) (by decide) (Nat.le_of_ble_eq_true rfl) (Nat.le_of_ble_eq_true rfl) dX2_line_1 (fun q1 H hP hD hS => ?_)
  refine lv_dup hx hb dX2_line_3 rfl ?_
  refine lv_iconst (v := 0) hx hb dX2_line_4 (by decide) ?_
  refine lv_iload_n hx hb dX2_line_5 rfl (lv_at hl 2 rfl) ?_
  refine va_iast hx hb hK hP hD hS 5 0 rfl rfl (vp_in_lit (by decide)) dX2_line_6 (fun H locs hP hD hS => ?_)
  obtain ⟨g2, eg2, hf⟩ := lt_ex hf
  have hP : va_P D vwCl ((mwl Z a S) ++ [(q1, .inl (Z 0, 3, .inl g2))]) H := by rw [eg2]; exact hP
  have hD : va_D A ((mwl Z a S) ++ [(q1, .inl (Z 0, 3, .inl g2))]) := by rw [eg2]; exact hD
  refine lv_dup hx hb dX2_line_7 rfl ?_
  refine lv_iconst (v := 1) hx hb dX2_line_8 (by decide) ?_
  refine lv_iconst (v := 0) hx hb dX2_line_9 (by decide) ?_
  refine va_iast hx hb hK hP hD hS 5 0 rfl rfl (vp_in_lit (by decide)) dX2_line_10 (fun H locs hP hD hS => ?_)
  obtain ⟨g3, eg3, hf⟩ := lt_ex hf
  have hP : va_P D vwCl ((mwl Z a S) ++ [(q1, .inl (Z 0, 3, .inl g3))]) H := by rw [eg3]; exact hP
  have hD : va_D A ((mwl Z a S) ++ [(q1, .inl (Z 0, 3, .inl g3))]) := by rw [eg3]; exact hD
  refine lv_dup hx hb dX2_line_11 rfl ?_
  refine lv_iconst (v := 2) hx hb dX2_line_12 (by decide) ?_
  refine lv_iload_n hx hb dX2_line_13 rfl (lv_at hl 3 rfl) ?_
  refine va_iast hx hb hK hP hD hS 5 0 rfl rfl (vp_in_lit (by decide)) dX2_line_14 (fun H locs hP hD hS => ?_)
  obtain ⟨g4, eg4, hf⟩ := lt_ex hf
  have hP : va_P D vwCl ((mwl Z a S) ++ [(q1, .inl (Z 0, 3, .inl g4))]) H := by rw [eg4]; exact hP
  have hD : va_D A ((mwl Z a S) ++ [(q1, .inl (Z 0, 3, .inl g4))]) := by rw [eg4]; exact hD
  refine lv_astore (lv' := [(4, .ref q1), (0, .ref (a 0)), (1, .int p1), (2, .int p2), (3, .int p3)]) hx hb dX2_line_15 hl (by decide) rfl (fun ls hl => ?_)
  refine lv_aload hx hb dX2_line_17 (lv_at hl 0 rfl) ?_
  refine lv_iconst (v := 0) hx hb dX2_line_19 (by decide) ?_
  refine lv_aload_n hx hb dX2_line_20 rfl (lv_at hl 1 rfl) ?_
  refine va_get (D := D) (ci := 2) (v := .ref (a 3)) (C := RX2) (T := TX2) (N := 7) hx hb hts hin hown hK hP 0 rfl rfl 5 (by decide) (hts (.fieldLink RX2 16 "PodGuidewayModel" "people" "[I") (List.mem_of_getElem? (i := 2) rfl)) (fun _ h9 => h9) rfl dX2_line_21 ?_
  refine lv_iconst (v := 3) hx hb dX2_line_24 (by decide) ?_
  refine lv_bipush (v := 9) hx hb dX2_line_25 (by decide) ?_
  refine lv_iload_n hx hb dX2_line_27 rfl (lv_at hl 2 rfl) ?_
  refine lv_imul hx hb dX2_line_28 ?_
  refine lv_aload_n hx hb dX2_line_29 rfl (lv_at hl 1 rfl) ?_
  refine lv_iload_n hx hb dX2_line_30 rfl (lv_at hl 2 rfl) ?_
  refine lv_iconst (v := 1) hx hb dX2_line_31 (by decide) ?_
  obtain ⟨v6, hv5, hf⟩ := ob_some hf
  refine zc_i (z_VD (As := [.int p1, .int 1]) (rest := [.int (9 * p1), .int 3, .ref (a 3), .int 0, .ref q1]) (q0 := 0) (ci := 2) ⟨hx, hb, hml, hown, hts⟩ (m_X2_st l D Z a S p1 1 v6 hv5) gX2_line_X2_st rfl rfl rfl hdv_X2_st ⟨Nat.le_of_ble_eq_true rfl, Nat.le_of_ble_eq_true rfl⟩ hK (hP.sub (ws' := (mwl Z a S)) [0, 1, 2, 3, 4] rfl) (hD.sub (ws' := (mwl Z a S)) [0, 1, 2, 3, 4] (by decide) rfl) rfl rfl rfl rfl hl.1 rfl (Nat.le_of_ble_eq_true rfl) dX2_line_32 ⟨Nat.le_of_ble_eq_true rfl, Nat.le_of_ble_eq_true rfl⟩) hP hS hA (fun H locs hP hS => ?_)
  refine lv_iadd hx hb dX2_line_35 ?_
  refine lv_imul hx hb dX2_line_36 ?_
  refine lv_iconst (v := 3) hx hb dX2_line_37 (by decide) ?_
  obtain ⟨hcp, hf⟩ := if_g hf
  refine va_copyi (sp := 0) (dp := (3 * ((9 * p1) + v6))) (n := 3) hx hb (hml.trans hl.1.symm) hown (hts (.methodLink RX2 57 arraycopyName) (List.mem_of_getElem? (i := 3) rfl)) (hts (.native arraycopyName) (List.mem_of_getElem? (i := 4) rfl)) (hts (.static arraycopyName) (List.mem_of_getElem? (i := 5) rfl)) (hts (.initialized "java/lang/System") (List.mem_of_getElem? (i := 6) rfl)) hK hP hD hS 5 3 0 0 rfl rfl rfl rfl rfl (cp_1 hcp) (cp_2 hcp) (cp_3 hcp) (cp_4 hcp) (cp_5 hcp) (fun _ _ => rfl) (Nat.le_of_ble_eq_true rfl) (by decide) dX2_line_38 (fun H locs hP hD hS => ?_)
  obtain ⟨S7, eS7, hf⟩ := lt_ex hf
  have hP : va_P D vwCl ((mwl Z a S7) ++ [(q1, .inl (Z 0, 3, .inl g4))]) H := by rw [eS7]; exact hP
  have hD : va_D A ((mwl Z a S7) ++ [(q1, .inl (Z 0, 3, .inl g4))]) := by rw [eS7]; exact hD
  refine lv_aload_n hx hb dX2_line_41 rfl (lv_at hl 1 rfl) ?_
  refine va_get (D := D) (ci := 2) (v := .ref (a 2)) (C := RX2) (T := TX2) (N := 7) hx hb hts hin hown hK hP 0 rfl rfl 4 (by decide) (hts (.fieldLink RX2 13 "PodGuidewayModel" "halts" "[I") (List.mem_of_getElem? (i := 7) rfl)) (fun _ h9 => h9) rfl dX2_line_42 ?_
  refine lv_iconst (v := 3) hx hb dX2_line_45 (by decide) ?_
  refine lv_iload_n hx hb dX2_line_46 rfl (lv_at hl 2 rfl) ?_
  refine lv_imul hx hb dX2_line_47 ?_
  refine lv_iconst (v := 1) hx hb dX2_line_48 (by decide) ?_
  refine lv_iadd hx hb dX2_line_49 ?_
  refine lv_dup2_11 hx hb dX2_line_50 rfl rfl ?_
  obtain ⟨hg8, hf⟩ := if_g hf
  refine va_iald hx hb hK hP 2 0 rfl rfl hg8 dX2_line_51 ?_
  refine lv_iconst (v := 1) hx hb dX2_line_52 (by decide) ?_
  refine lv_iadd hx hb dX2_line_53 ?_
  obtain ⟨hg9, hf⟩ := if_g hf
  refine va_iast hx hb hK hP hD hS 2 0 rfl rfl hg9 dX2_line_54 (fun H locs hP hD hS => ?_)
  obtain ⟨S10, eS10, hf⟩ := lt_ex hf
  have hP : va_P D vwCl ((mwl Z a S10) ++ [(q1, .inl (Z 0, 3, .inl g4))]) H := by rw [eS10]; exact hP
  have hD : va_D A ((mwl Z a S10) ++ [(q1, .inl (Z 0, 3, .inl g4))]) := by rw [eS10]; exact hD
  have hP := hP.sub (ws' := (mwl Z a S10)) [0, 1, 2, 3, 4] rfl
  have hD := hD.sub (ws' := (mwl Z a S10)) [0, 1, 2, 3, 4] (by decide) rfl
  exact zw_v hx hb hr hlk hP hD hS (congrArg (fun z => ((mwl Z a z) : va_W)) (Option.some.inj hf)) (Nat.le_of_ble_eq_true rfl) (Nat.le_of_ble_eq_true rfl) dX2_line_55
def f_X2_ride  (S : RS) (p1 : Int32) (p2 : Int32) : Option (Int32 × RS) :=
  lt (sI S 0 0) fun (S1 : RS) =>
  ob (f_X2_isStation S1 p1) fun v3 =>
  if v3 = 0 then
    ob2 (f_X2_fail S1 1) fun v8 S7 =>
    some (v8, S7)
  else
    ob (f_X2_isStation S1 p2) fun v10 =>
    if v10 = 0 then
      ob2 (f_X2_fail S1 1) fun v29 S28 =>
      some (v29, S28)
    else
      if p1 = p2 then
        ob2 (f_X2_fail S1 2) fun v26 S25 =>
        some (v26, S25)
      else
        ob (f_X2_st S1 p1 1) fun v15 =>
        if v15 = 9 then
          ob2 (f_X2_fail S1 3) fun v23 S22 =>
          some (v23, S22)
        else
          ob (f_X2_line S1 p1 p2 0) fun S18 =>
          ob (f_X2_st S18 p1 1) fun v20 =>
          some (v20, S18)
abbrev rm_X2_ride : Room := { frames := 2, cells := 1, slots := 3, locals := 104 }
theorem hdv_X2_ride : yX2_ride.cls = RX2 ∧ yX2_ride.cls ≠ "java/lang/invoke/MethodHandle" ∧ yX2_ride.cls ≠ "java/lang/invoke/VarHandle" ∧ (parseMethodDescriptor yX2_ride.desc).map (fun d => d.parameters.length) = some 2 := by decide +kernel
set_option maxHeartbeats 4000000 in
set_option maxRecDepth 100000 in
theorem m_X2_ride (l : Launch) (D : va_G) (Z : Nat → ClassId) (a : Nat → Nat) (S : RS) (p1 : Int32) (p2 : Int32) (S' : RS) (r : Int32) (hf : f_X2_ride S p1 p2 = some (r, S')) : RWi l yX2_ride wsX2_ride rm_X2_ride D Z [.ref (a 0), .int p1, .int p2] (mwl Z a S) (mwl Z a S') r 1 3 := by
  refine RWi.of (cc := cX2_ride) (nL := 3) (ret := (some .int)) (by decide +kernel) rfl (Nat.le_of_ble_eq_true rfl) ?_
  intro p e s m below meth c A hC hA hP hK hD hS ls hl
  obtain ⟨hx, hb, hr, hml, hown, hts, hlk, -⟩ := hC
  have hown : s.vm.findClass RX2 = some m.cls := hown
  have hin : ∀ w ∈ wsX20, w ∈ wsX2_ride := fun w h => List.mem_cons_of_mem _ (List.mem_append_right _ h)
  have hl : lv_has ls 3 [(0, .ref (a 0)), (1, .int p1), (2, .int p2)] := hl
  unfold f_X2_ride at hf
  refine lv_aload_n hx hb dX2_ride_0 rfl (lv_at hl 0 rfl) ?_
  refine lv_iconst (v := 0) hx hb dX2_ride_1 (by decide) ?_
  refine va_put (D := D) (ci := 2) (v := .int 0) (ty := .int) (C := RX2) (T := TX2) (N := 7) hx hb hts hin tyX2 tyX2_ok nmX2 hown hK hP hD hS 0 rfl rfl 0 (by decide) (hts (.fieldLink RX2 22 "PodGuidewayModel" "thrown" "I") (List.mem_of_getElem? (i := 1) rfl)) (fun _ h9 => h9) rfl (by decide +kernel) rfl rfl (Nat.le_of_ble_eq_true rfl) dX2_ride_2 (fun H locs hP hD hS => ?_)
  obtain ⟨S1, eS1, hf⟩ := lt_ex hf
  have hP : va_P D vwCl (mwl Z a S1) H := by rw [eS1]; exact hP
  have hD : va_D A (mwl Z a S1) := by rw [eS1]; exact hD
  refine lv_aload_n hx hb dX2_ride_5 rfl (lv_at hl 0 rfl) ?_
  refine lv_iload_n hx hb dX2_ride_6 rfl (lv_at hl 1 rfl) ?_
  obtain ⟨v3, hv2, hf⟩ := ob_some hf
  refine zc_z (z_VD (As := [.int p1]) (rest := []) (q0 := 0) (ci := 2) ⟨hx, hb, hml, hown, hts⟩ (m_X2_isStation l D Z a S1 p1 v3 hv2) gX2_ride_X2_isStation rfl rfl rfl hdv_X2_isStation ⟨Nat.le_of_ble_eq_true rfl, Nat.le_of_ble_eq_true rfl⟩ hK hP hD rfl rfl rfl rfl hl.1 rfl (Nat.le_of_ble_eq_true rfl) dX2_ride_7 ⟨Nat.le_of_ble_eq_true rfl, Nat.le_of_ble_eq_true rfl⟩) hP hS hA (fun H locs hn4 hP hS => ?_)
  refine lv_if_eq (tgt := 21) hx hb dX2_ride_10 (by decide) (fun c5 => ?_) (fun c5 => ?_)
  · have hf := if_t hf c5
    refine lv_aload_n hx hb dX2_ride_21 rfl (lv_at hl 0 rfl) ?_
    refine lv_iconst (v := 1) hx hb dX2_ride_22 (by decide) ?_
    obtain ⟨v8, S7, hv6, hf⟩ := ob2_some hf
    refine zc_mi0 (z_VD (As := [.int 1]) (rest := []) (q0 := 0) (ci := 2) ⟨hx, hb, hml, hown, hts⟩ (m_X2_fail l D Z a S1 1 S7 v8 hv6) gX2_ride_X2_fail rfl rfl rfl hdv_X2_fail ⟨Nat.le_of_ble_eq_true rfl, Nat.le_of_ble_eq_true rfl⟩ hK hP hD rfl rfl rfl rfl hl.1 rfl (Nat.le_of_ble_eq_true rfl) dX2_ride_23 ⟨Nat.le_of_ble_eq_true rfl, Nat.le_of_ble_eq_true rfl⟩) hD hS hA (fun H locs hP hD hS => ?_)
    exact zw_i hx hb hr hlk hP hD hS (congrArg (fun z => ((mwl Z a z) : va_W)) (pr2 hf)) (pr1 hf) (Nat.le_of_ble_eq_true rfl) (Nat.le_of_ble_eq_true rfl) dX2_ride_26
  · have hf := if_f hf c5
    refine lv_aload_n hx hb dX2_ride_13 rfl (lv_at hl 0 rfl) ?_
    refine lv_iload_n hx hb dX2_ride_14 rfl (lv_at hl 2 rfl) ?_
    obtain ⟨v10, hv9, hf⟩ := ob_some hf
    refine zc_z (z_VD (As := [.int p2]) (rest := []) (q0 := 0) (ci := 2) ⟨hx, hb, hml, hown, hts⟩ (m_X2_isStation l D Z a S1 p2 v10 hv9) gX2_ride_X2_isStation rfl rfl rfl hdv_X2_isStation ⟨Nat.le_of_ble_eq_true rfl, Nat.le_of_ble_eq_true rfl⟩ hK hP hD rfl rfl rfl rfl hl.1 rfl (Nat.le_of_ble_eq_true rfl) dX2_ride_15 ⟨Nat.le_of_ble_eq_true rfl, Nat.le_of_ble_eq_true rfl⟩) hP hS hA (fun H locs hn11 hP hS => ?_)
    refine lv_if_ne (tgt := 27) hx hb dX2_ride_18 (by decide) (fun c12 => ?_) (fun c12 => ?_)
    · have hf := if_f hf c12
      refine lv_iload_n hx hb dX2_ride_27 rfl (lv_at hl 1 rfl) ?_
      refine lv_iload_n hx hb dX2_ride_28 rfl (lv_at hl 2 rfl) ?_
      refine lv_icmp_ne (tgt := 38) hx hb dX2_ride_29 (by decide) (fun c13 => ?_) (fun c13 => ?_)
      · have hf := if_f hf c13
        refine lv_aload_n hx hb dX2_ride_38 rfl (lv_at hl 0 rfl) ?_
        refine lv_iload_n hx hb dX2_ride_39 rfl (lv_at hl 1 rfl) ?_
        refine lv_iconst (v := 1) hx hb dX2_ride_40 (by decide) ?_
        obtain ⟨v15, hv14, hf⟩ := ob_some hf
        refine zc_i (z_VD (As := [.int p1, .int 1]) (rest := []) (q0 := 0) (ci := 2) ⟨hx, hb, hml, hown, hts⟩ (m_X2_st l D Z a S1 p1 1 v15 hv14) gX2_ride_X2_st rfl rfl rfl hdv_X2_st ⟨Nat.le_of_ble_eq_true rfl, Nat.le_of_ble_eq_true rfl⟩ hK hP hD rfl rfl rfl rfl hl.1 rfl (Nat.le_of_ble_eq_true rfl) dX2_ride_41 ⟨Nat.le_of_ble_eq_true rfl, Nat.le_of_ble_eq_true rfl⟩) hP hS hA (fun H locs hP hS => ?_)
        refine lv_bipush (v := 9) hx hb dX2_ride_44 (by decide) ?_
        refine lv_icmp_ne (tgt := 55) hx hb dX2_ride_46 (by decide) (fun c16 => ?_) (fun c16 => ?_)
        · have hf := if_f hf c16
          refine lv_aload_n hx hb dX2_ride_55 rfl (lv_at hl 0 rfl) ?_
          refine lv_iload_n hx hb dX2_ride_56 rfl (lv_at hl 1 rfl) ?_
          refine lv_iload_n hx hb dX2_ride_57 rfl (lv_at hl 2 rfl) ?_
          refine lv_iconst (v := 0) hx hb dX2_ride_58 (by decide) ?_
          obtain ⟨S18, hv17, hf⟩ := ob_some hf
          refine zc_mv0 (z_VD (As := [.int p1, .int p2, .int 0]) (rest := []) (q0 := 0) (ci := 2) ⟨hx, hb, hml, hown, hts⟩ (m_X2_line l D Z a S1 p1 p2 0 S18 hv17) gX2_ride_X2_line rfl rfl rfl hdv_X2_line ⟨Nat.le_of_ble_eq_true rfl, Nat.le_of_ble_eq_true rfl⟩ hK hP hD rfl rfl rfl rfl hl.1 rfl (Nat.le_of_ble_eq_true rfl) dX2_ride_59 ⟨Nat.le_of_ble_eq_true rfl, Nat.le_of_ble_eq_true rfl⟩) hD hS hA (fun H locs hP hD hS => ?_)
          refine lv_aload_n hx hb dX2_ride_62 rfl (lv_at hl 0 rfl) ?_
          refine lv_iload_n hx hb dX2_ride_63 rfl (lv_at hl 1 rfl) ?_
          refine lv_iconst (v := 1) hx hb dX2_ride_64 (by decide) ?_
          obtain ⟨v20, hv19, hf⟩ := ob_some hf
          refine zc_i (z_VD (As := [.int p1, .int 1]) (rest := []) (q0 := 0) (ci := 2) ⟨hx, hb, hml, hown, hts⟩ (m_X2_st l D Z a S18 p1 1 v20 hv19) gX2_ride_X2_st rfl rfl rfl hdv_X2_st ⟨Nat.le_of_ble_eq_true rfl, Nat.le_of_ble_eq_true rfl⟩ hK hP hD rfl rfl rfl rfl hl.1 rfl (Nat.le_of_ble_eq_true rfl) dX2_ride_65 ⟨Nat.le_of_ble_eq_true rfl, Nat.le_of_ble_eq_true rfl⟩) hP hS hA (fun H locs hP hS => ?_)
          exact zw_i hx hb hr hlk hP hD hS (congrArg (fun z => ((mwl Z a z) : va_W)) (pr2 hf)) (pr1 hf) (Nat.le_of_ble_eq_true rfl) (Nat.le_of_ble_eq_true rfl) dX2_ride_68
        · have hf := if_t hf c16
          refine lv_aload_n hx hb dX2_ride_49 rfl (lv_at hl 0 rfl) ?_
          refine lv_iconst (v := 3) hx hb dX2_ride_50 (by decide) ?_
          obtain ⟨v23, S22, hv21, hf⟩ := ob2_some hf
          refine zc_mi0 (z_VD (As := [.int 3]) (rest := []) (q0 := 0) (ci := 2) ⟨hx, hb, hml, hown, hts⟩ (m_X2_fail l D Z a S1 3 S22 v23 hv21) gX2_ride_X2_fail rfl rfl rfl hdv_X2_fail ⟨Nat.le_of_ble_eq_true rfl, Nat.le_of_ble_eq_true rfl⟩ hK hP hD rfl rfl rfl rfl hl.1 rfl (Nat.le_of_ble_eq_true rfl) dX2_ride_51 ⟨Nat.le_of_ble_eq_true rfl, Nat.le_of_ble_eq_true rfl⟩) hD hS hA (fun H locs hP hD hS => ?_)
          exact zw_i hx hb hr hlk hP hD hS (congrArg (fun z => ((mwl Z a z) : va_W)) (pr2 hf)) (pr1 hf) (Nat.le_of_ble_eq_true rfl) (Nat.le_of_ble_eq_true rfl) dX2_ride_54
      · have hf := if_t hf c13
        refine lv_aload_n hx hb dX2_ride_32 rfl (lv_at hl 0 rfl) ?_
        refine lv_iconst (v := 2) hx hb dX2_ride_33 (by decide) ?_
        obtain ⟨v26, S25, hv24, hf⟩ := ob2_some hf
        refine zc_mi0 (z_VD (As := [.int 2]) (rest := []) (q0 := 0) (ci := 2) ⟨hx, hb, hml, hown, hts⟩ (m_X2_fail l D Z a S1 2 S25 v26 hv24) gX2_ride_X2_fail rfl rfl rfl hdv_X2_fail ⟨Nat.le_of_ble_eq_true rfl, Nat.le_of_ble_eq_true rfl⟩ hK hP hD rfl rfl rfl rfl hl.1 rfl (Nat.le_of_ble_eq_true rfl) dX2_ride_34 ⟨Nat.le_of_ble_eq_true rfl, Nat.le_of_ble_eq_true rfl⟩) hD hS hA (fun H locs hP hD hS => ?_)
        exact zw_i hx hb hr hlk hP hD hS (congrArg (fun z => ((mwl Z a z) : va_W)) (pr2 hf)) (pr1 hf) (Nat.le_of_ble_eq_true rfl) (Nat.le_of_ble_eq_true rfl) dX2_ride_37
    · have hf := if_t hf c12
      refine lv_aload_n hx hb dX2_ride_21 rfl (lv_at hl 0 rfl) ?_
      refine lv_iconst (v := 1) hx hb dX2_ride_22 (by decide) ?_
      obtain ⟨v29, S28, hv27, hf⟩ := ob2_some hf
      refine zc_mi0 (z_VD (As := [.int 1]) (rest := []) (q0 := 0) (ci := 2) ⟨hx, hb, hml, hown, hts⟩ (m_X2_fail l D Z a S1 1 S28 v29 hv27) gX2_ride_X2_fail rfl rfl rfl hdv_X2_fail ⟨Nat.le_of_ble_eq_true rfl, Nat.le_of_ble_eq_true rfl⟩ hK hP hD rfl rfl rfl rfl hl.1 rfl (Nat.le_of_ble_eq_true rfl) dX2_ride_23 ⟨Nat.le_of_ble_eq_true rfl, Nat.le_of_ble_eq_true rfl⟩) hD hS hA (fun H locs hP hD hS => ?_)
      exact zw_i hx hb hr hlk hP hD hS (congrArg (fun z => ((mwl Z a z) : va_W)) (pr2 hf)) (pr1 hf) (Nat.le_of_ble_eq_true rfl) (Nat.le_of_ble_eq_true rfl) dX2_ride_26
def f_X2_on  (S : RS) (p1 : Int32) (p2 : Int32) : Option (Int32) :=
  ob (f_X2_st S p2 0) fun v2 =>
  ob (f_X2_st S p1 0) fun v4 =>
  some (((v2 - v4) + 24) - ((v2 - v4) + 24) / 24 * 24)
abbrev rm_X2_on : Room := { frames := 1, cells := 0, slots := 0, locals := 22 }
theorem hdv_X2_on : yX2_on.cls = RX2 ∧ yX2_on.cls ≠ "java/lang/invoke/MethodHandle" ∧ yX2_on.cls ≠ "java/lang/invoke/VarHandle" ∧ (parseMethodDescriptor yX2_on.desc).map (fun d => d.parameters.length) = some 2 := by decide +kernel
set_option maxHeartbeats 4000000 in
set_option maxRecDepth 100000 in
theorem m_X2_on (l : Launch) (D : va_G) (Z : Nat → ClassId) (a : Nat → Nat) (S : RS) (p1 : Int32) (p2 : Int32) (r : Int32) (hf : f_X2_on S p1 p2 = some r) : ROi l yX2_on wsX2_on rm_X2_on D Z [.ref (a 0), .int p1, .int p2] (mwl Z a S) r := by
  refine ROi.of (cc := cX2_on) (nL := 3) (ret := (some .int)) (by decide +kernel) rfl (Nat.le_of_ble_eq_true rfl) ?_
  intro p e s m below meth c hC hA hP hK hD hS ls hl
  obtain ⟨hx, hb, hr, hml, hown, hts, hlk, -⟩ := hC
  have hown : s.vm.findClass RX2 = some m.cls := hown
  have hl : lv_has ls 3 [(0, .ref (a 0)), (1, .int p1), (2, .int p2)] := hl
  unfold f_X2_on at hf
  refine lv_aload_n hx hb dX2_on_0 rfl (lv_at hl 0 rfl) ?_
  refine lv_iload_n hx hb dX2_on_1 rfl (lv_at hl 2 rfl) ?_
  refine lv_iconst (v := 0) hx hb dX2_on_2 (by decide) ?_
  obtain ⟨v2, hv1, hf⟩ := ob_some hf
  refine zc_i (z_VD (As := [.int p2, .int 0]) (rest := []) (q0 := 0) (ci := 2) ⟨hx, hb, hml, hown, hts⟩ (m_X2_st l D Z a S p2 0 v2 hv1) gX2_on_X2_st rfl rfl rfl hdv_X2_st ⟨Nat.le_of_ble_eq_true rfl, Nat.le_of_ble_eq_true rfl⟩ hK hP hD rfl rfl rfl rfl hl.1 rfl (Nat.le_of_ble_eq_true rfl) dX2_on_3 ⟨Nat.le_of_ble_eq_true rfl, Nat.le_of_ble_eq_true rfl⟩) hP hS hA (fun H locs hP hS => ?_)
  refine lv_aload_n hx hb dX2_on_6 rfl (lv_at hl 0 rfl) ?_
  refine lv_iload_n hx hb dX2_on_7 rfl (lv_at hl 1 rfl) ?_
  refine lv_iconst (v := 0) hx hb dX2_on_8 (by decide) ?_
  obtain ⟨v4, hv3, hf⟩ := ob_some hf
  refine zc_i (z_VD (As := [.int p1, .int 0]) (rest := [.int v2]) (q0 := 0) (ci := 2) ⟨hx, hb, hml, hown, hts⟩ (m_X2_st l D Z a S p1 0 v4 hv3) gX2_on_X2_st rfl rfl rfl hdv_X2_st ⟨Nat.le_of_ble_eq_true rfl, Nat.le_of_ble_eq_true rfl⟩ hK hP hD rfl rfl rfl rfl hl.1 rfl (Nat.le_of_ble_eq_true rfl) dX2_on_9 ⟨Nat.le_of_ble_eq_true rfl, Nat.le_of_ble_eq_true rfl⟩) hP hS hA (fun H locs hP hS => ?_)
  refine lv_isub hx hb dX2_on_12 ?_
  refine lv_bipush (v := 24) hx hb dX2_on_13 (by decide) ?_
  refine lv_iadd hx hb dX2_on_15 ?_
  refine lv_bipush (v := 24) hx hb dX2_on_16 (by decide) ?_
  refine lv_irem hx hb dX2_on_18 (by decide) ?_
  exact zr_i hx hb hr hlk hS (Option.some.inj hf) dX2_on_19
def f_X2_send  (S : RS) (p1 : Int32) (p2 : Int32) : Option (Int32 × RS) :=
  lt (sI S 0 0) fun (S1 : RS) =>
  ob (f_X2_isPod S1 p1) fun v3 =>
  if v3 = 0 then
    ob2 (f_X2_fail S1 1) fun v8 S7 =>
    some (v8, S7)
  else
    ob (f_X2_isStation S1 p2) fun v10 =>
    if v10 = 0 then
      ob2 (f_X2_fail S1 1) fun v39 S38 =>
      some (v39, S38)
    else
      ob (f_X2_po S1 p1 1) fun v14 =>
      if v14 = (-1) then
        ob2 (f_X2_fail S1 2) fun v18 S17 =>
        some (v18, S17)
      else
        ob (f_X2_po S1 p1 3) fun v20 =>
        if v20 = (-1) then
          ob (f_X2_po S1 p1 1) fun v26 =>
          if v26 = p2 then
            ob2 (f_X2_fail S1 2) fun v36 S35 =>
            some (v36, S35)
          else
            ob (f_X2_put S1 p1 3 p2) fun S29 =>
            ob (f_X2_po S29 p1 1) fun v31 =>
            ob (f_X2_on S29 v31 p2) fun v33 =>
            some (v33, S29)
        else
          ob2 (f_X2_fail S1 2) fun v24 S23 =>
          some (v24, S23)
abbrev rm_X2_send : Room := { frames := 2, cells := 0, slots := 0, locals := 44 }
theorem hdv_X2_send : yX2_send.cls = RX2 ∧ yX2_send.cls ≠ "java/lang/invoke/MethodHandle" ∧ yX2_send.cls ≠ "java/lang/invoke/VarHandle" ∧ (parseMethodDescriptor yX2_send.desc).map (fun d => d.parameters.length) = some 2 := by decide +kernel
set_option maxHeartbeats 4000000 in
set_option maxRecDepth 100000 in
theorem m_X2_send (l : Launch) (D : va_G) (Z : Nat → ClassId) (a : Nat → Nat) (S : RS) (p1 : Int32) (p2 : Int32) (S' : RS) (r : Int32) (hf : f_X2_send S p1 p2 = some (r, S')) : RWi l yX2_send wsX2_send rm_X2_send D Z [.ref (a 0), .int p1, .int p2] (mwl Z a S) (mwl Z a S') r 0 0 := by
  refine RWi.of (cc := cX2_send) (nL := 3) (ret := (some .int)) (by decide +kernel) rfl (Nat.le_of_ble_eq_true rfl) ?_
  intro p e s m below meth c A hC hA hP hK hD hS ls hl
  obtain ⟨hx, hb, hr, hml, hown, hts, hlk, -⟩ := hC
  have hown : s.vm.findClass RX2 = some m.cls := hown
  have hin : ∀ w ∈ wsX20, w ∈ wsX2_send := fun w h => List.mem_cons_of_mem _ (List.mem_append_right _ h)
  have hl : lv_has ls 3 [(0, .ref (a 0)), (1, .int p1), (2, .int p2)] := hl
  unfold f_X2_send at hf
  refine lv_aload_n hx hb dX2_send_0 rfl (lv_at hl 0 rfl) ?_
  refine lv_iconst (v := 0) hx hb dX2_send_1 (by decide) ?_
  refine va_put (D := D) (ci := 2) (v := .int 0) (ty := .int) (C := RX2) (T := TX2) (N := 7) hx hb hts hin tyX2 tyX2_ok nmX2 hown hK hP hD hS 0 rfl rfl 0 (by decide) (hts (.fieldLink RX2 22 "PodGuidewayModel" "thrown" "I") (List.mem_of_getElem? (i := 1) rfl)) (fun _ h9 => h9) rfl (by decide +kernel) rfl rfl (Nat.le_of_ble_eq_true rfl) dX2_send_2 (fun H locs hP hD hS => ?_)
  obtain ⟨S1, eS1, hf⟩ := lt_ex hf
  have hP : va_P D vwCl (mwl Z a S1) H := by rw [eS1]; exact hP
  have hD : va_D A (mwl Z a S1) := by rw [eS1]; exact hD
  refine lv_aload_n hx hb dX2_send_5 rfl (lv_at hl 0 rfl) ?_
  refine lv_iload_n hx hb dX2_send_6 rfl (lv_at hl 1 rfl) ?_
  obtain ⟨v3, hv2, hf⟩ := ob_some hf
  refine zc_z (z_VD (As := [.int p1]) (rest := []) (q0 := 0) (ci := 2) ⟨hx, hb, hml, hown, hts⟩ (m_X2_isPod l D Z a S1 p1 v3 hv2) gX2_send_X2_isPod rfl rfl rfl hdv_X2_isPod ⟨Nat.le_of_ble_eq_true rfl, Nat.le_of_ble_eq_true rfl⟩ hK hP hD rfl rfl rfl rfl hl.1 rfl (Nat.le_of_ble_eq_true rfl) dX2_send_7 ⟨Nat.le_of_ble_eq_true rfl, Nat.le_of_ble_eq_true rfl⟩) hP hS hA (fun H locs hn4 hP hS => ?_)
  refine lv_if_eq (tgt := 21) hx hb dX2_send_10 (by decide) (fun c5 => ?_) (fun c5 => ?_)
  · have hf := if_t hf c5
    refine lv_aload_n hx hb dX2_send_21 rfl (lv_at hl 0 rfl) ?_
    refine lv_iconst (v := 1) hx hb dX2_send_22 (by decide) ?_
    obtain ⟨v8, S7, hv6, hf⟩ := ob2_some hf
    refine zc_mi0 (z_VD (As := [.int 1]) (rest := []) (q0 := 0) (ci := 2) ⟨hx, hb, hml, hown, hts⟩ (m_X2_fail l D Z a S1 1 S7 v8 hv6) gX2_send_X2_fail rfl rfl rfl hdv_X2_fail ⟨Nat.le_of_ble_eq_true rfl, Nat.le_of_ble_eq_true rfl⟩ hK hP hD rfl rfl rfl rfl hl.1 rfl (Nat.le_of_ble_eq_true rfl) dX2_send_23 ⟨Nat.le_of_ble_eq_true rfl, Nat.le_of_ble_eq_true rfl⟩) hD hS hA (fun H locs hP hD hS => ?_)
    exact zw_i hx hb hr hlk hP hD hS (congrArg (fun z => ((mwl Z a z) : va_W)) (pr2 hf)) (pr1 hf) (Nat.le_of_ble_eq_true rfl) (Nat.le_of_ble_eq_true rfl) dX2_send_26
  · have hf := if_f hf c5
    refine lv_aload_n hx hb dX2_send_13 rfl (lv_at hl 0 rfl) ?_
    refine lv_iload_n hx hb dX2_send_14 rfl (lv_at hl 2 rfl) ?_
    obtain ⟨v10, hv9, hf⟩ := ob_some hf
    refine zc_z (z_VD (As := [.int p2]) (rest := []) (q0 := 0) (ci := 2) ⟨hx, hb, hml, hown, hts⟩ (m_X2_isStation l D Z a S1 p2 v10 hv9) gX2_send_X2_isStation rfl rfl rfl hdv_X2_isStation ⟨Nat.le_of_ble_eq_true rfl, Nat.le_of_ble_eq_true rfl⟩ hK hP hD rfl rfl rfl rfl hl.1 rfl (Nat.le_of_ble_eq_true rfl) dX2_send_15 ⟨Nat.le_of_ble_eq_true rfl, Nat.le_of_ble_eq_true rfl⟩) hP hS hA (fun H locs hn11 hP hS => ?_)
    refine lv_if_ne (tgt := 27) hx hb dX2_send_18 (by decide) (fun c12 => ?_) (fun c12 => ?_)
    · have hf := if_f hf c12
      refine lv_aload_n hx hb dX2_send_27 rfl (lv_at hl 0 rfl) ?_
      refine lv_iload_n hx hb dX2_send_28 rfl (lv_at hl 1 rfl) ?_
      refine lv_iconst (v := 1) hx hb dX2_send_29 (by decide) ?_
      obtain ⟨v14, hv13, hf⟩ := ob_some hf
      refine zc_i (z_VD (As := [.int p1, .int 1]) (rest := []) (q0 := 0) (ci := 2) ⟨hx, hb, hml, hown, hts⟩ (m_X2_po l D Z a S1 p1 1 v14 hv13) gX2_send_X2_po rfl rfl rfl hdv_X2_po ⟨Nat.le_of_ble_eq_true rfl, Nat.le_of_ble_eq_true rfl⟩ hK hP hD rfl rfl rfl rfl hl.1 rfl (Nat.le_of_ble_eq_true rfl) dX2_send_30 ⟨Nat.le_of_ble_eq_true rfl, Nat.le_of_ble_eq_true rfl⟩) hP hS hA (fun H locs hP hS => ?_)
      refine lv_iconst (v := (-1)) hx hb dX2_send_33 (by decide) ?_
      refine lv_icmp_eq (tgt := 57) hx hb dX2_send_34 (by decide) (fun c15 => ?_) (fun c15 => ?_)
      · have hf := if_t hf c15
        refine lv_aload_n hx hb dX2_send_57 rfl (lv_at hl 0 rfl) ?_
        refine lv_iconst (v := 2) hx hb dX2_send_58 (by decide) ?_
        obtain ⟨v18, S17, hv16, hf⟩ := ob2_some hf
        refine zc_mi0 (z_VD (As := [.int 2]) (rest := []) (q0 := 0) (ci := 2) ⟨hx, hb, hml, hown, hts⟩ (m_X2_fail l D Z a S1 2 S17 v18 hv16) gX2_send_X2_fail rfl rfl rfl hdv_X2_fail ⟨Nat.le_of_ble_eq_true rfl, Nat.le_of_ble_eq_true rfl⟩ hK hP hD rfl rfl rfl rfl hl.1 rfl (Nat.le_of_ble_eq_true rfl) dX2_send_59 ⟨Nat.le_of_ble_eq_true rfl, Nat.le_of_ble_eq_true rfl⟩) hD hS hA (fun H locs hP hD hS => ?_)
        exact zw_i hx hb hr hlk hP hD hS (congrArg (fun z => ((mwl Z a z) : va_W)) (pr2 hf)) (pr1 hf) (Nat.le_of_ble_eq_true rfl) (Nat.le_of_ble_eq_true rfl) dX2_send_62
      · have hf := if_f hf c15
        refine lv_aload_n hx hb dX2_send_37 rfl (lv_at hl 0 rfl) ?_
        refine lv_iload_n hx hb dX2_send_38 rfl (lv_at hl 1 rfl) ?_
        refine lv_iconst (v := 3) hx hb dX2_send_39 (by decide) ?_
        obtain ⟨v20, hv19, hf⟩ := ob_some hf
        refine zc_i (z_VD (As := [.int p1, .int 3]) (rest := []) (q0 := 0) (ci := 2) ⟨hx, hb, hml, hown, hts⟩ (m_X2_po l D Z a S1 p1 3 v20 hv19) gX2_send_X2_po rfl rfl rfl hdv_X2_po ⟨Nat.le_of_ble_eq_true rfl, Nat.le_of_ble_eq_true rfl⟩ hK hP hD rfl rfl rfl rfl hl.1 rfl (Nat.le_of_ble_eq_true rfl) dX2_send_40 ⟨Nat.le_of_ble_eq_true rfl, Nat.le_of_ble_eq_true rfl⟩) hP hS hA (fun H locs hP hS => ?_)
        refine lv_iconst (v := (-1)) hx hb dX2_send_43 (by decide) ?_
        refine lv_icmp_ne (tgt := 57) hx hb dX2_send_44 (by decide) (fun c21 => ?_) (fun c21 => ?_)
        · have hf := if_f hf c21
          refine lv_aload_n hx hb dX2_send_57 rfl (lv_at hl 0 rfl) ?_
          refine lv_iconst (v := 2) hx hb dX2_send_58 (by decide) ?_
          obtain ⟨v24, S23, hv22, hf⟩ := ob2_some hf
          refine zc_mi0 (z_VD (As := [.int 2]) (rest := []) (q0 := 0) (ci := 2) ⟨hx, hb, hml, hown, hts⟩ (m_X2_fail l D Z a S1 2 S23 v24 hv22) gX2_send_X2_fail rfl rfl rfl hdv_X2_fail ⟨Nat.le_of_ble_eq_true rfl, Nat.le_of_ble_eq_true rfl⟩ hK hP hD rfl rfl rfl rfl hl.1 rfl (Nat.le_of_ble_eq_true rfl) dX2_send_59 ⟨Nat.le_of_ble_eq_true rfl, Nat.le_of_ble_eq_true rfl⟩) hD hS hA (fun H locs hP hD hS => ?_)
          exact zw_i hx hb hr hlk hP hD hS (congrArg (fun z => ((mwl Z a z) : va_W)) (pr2 hf)) (pr1 hf) (Nat.le_of_ble_eq_true rfl) (Nat.le_of_ble_eq_true rfl) dX2_send_62
        · have hf := if_t hf c21
          refine lv_aload_n hx hb dX2_send_47 rfl (lv_at hl 0 rfl) ?_
          refine lv_iload_n hx hb dX2_send_48 rfl (lv_at hl 1 rfl) ?_
          refine lv_iconst (v := 1) hx hb dX2_send_49 (by decide) ?_
          obtain ⟨v26, hv25, hf⟩ := ob_some hf
          refine zc_i (z_VD (As := [.int p1, .int 1]) (rest := []) (q0 := 0) (ci := 2) ⟨hx, hb, hml, hown, hts⟩ (m_X2_po l D Z a S1 p1 1 v26 hv25) gX2_send_X2_po rfl rfl rfl hdv_X2_po ⟨Nat.le_of_ble_eq_true rfl, Nat.le_of_ble_eq_true rfl⟩ hK hP hD rfl rfl rfl rfl hl.1 rfl (Nat.le_of_ble_eq_true rfl) dX2_send_50 ⟨Nat.le_of_ble_eq_true rfl, Nat.le_of_ble_eq_true rfl⟩) hP hS hA (fun H locs hP hS => ?_)
          refine lv_iload_n hx hb dX2_send_53 rfl (lv_at hl 2 rfl) ?_
          refine lv_icmp_ne (tgt := 63) hx hb dX2_send_54 (by decide) (fun c27 => ?_) (fun c27 => ?_)
          · have hf := if_f hf c27
            refine lv_aload_n hx hb dX2_send_63 rfl (lv_at hl 0 rfl) ?_
            refine lv_iload_n hx hb dX2_send_64 rfl (lv_at hl 1 rfl) ?_
            refine lv_iconst (v := 3) hx hb dX2_send_65 (by decide) ?_
            refine lv_iload_n hx hb dX2_send_66 rfl (lv_at hl 2 rfl) ?_
            obtain ⟨S29, hv28, hf⟩ := ob_some hf
            refine zc_mv0 (z_VD (As := [.int p1, .int 3, .int p2]) (rest := []) (q0 := 0) (ci := 2) ⟨hx, hb, hml, hown, hts⟩ (m_X2_put l D Z a S1 p1 3 p2 S29 hv28) gX2_send_X2_put rfl rfl rfl hdv_X2_put ⟨Nat.le_of_ble_eq_true rfl, Nat.le_of_ble_eq_true rfl⟩ hK hP hD rfl rfl rfl rfl hl.1 rfl (Nat.le_of_ble_eq_true rfl) dX2_send_67 ⟨Nat.le_of_ble_eq_true rfl, Nat.le_of_ble_eq_true rfl⟩) hD hS hA (fun H locs hP hD hS => ?_)
            refine lv_aload_n hx hb dX2_send_70 rfl (lv_at hl 0 rfl) ?_
            refine lv_aload_n hx hb dX2_send_71 rfl (lv_at hl 0 rfl) ?_
            refine lv_iload_n hx hb dX2_send_72 rfl (lv_at hl 1 rfl) ?_
            refine lv_iconst (v := 1) hx hb dX2_send_73 (by decide) ?_
            obtain ⟨v31, hv30, hf⟩ := ob_some hf
            refine zc_i (z_VD (As := [.int p1, .int 1]) (rest := [.ref (a 0)]) (q0 := 0) (ci := 2) ⟨hx, hb, hml, hown, hts⟩ (m_X2_po l D Z a S29 p1 1 v31 hv30) gX2_send_X2_po rfl rfl rfl hdv_X2_po ⟨Nat.le_of_ble_eq_true rfl, Nat.le_of_ble_eq_true rfl⟩ hK hP hD rfl rfl rfl rfl hl.1 rfl (Nat.le_of_ble_eq_true rfl) dX2_send_74 ⟨Nat.le_of_ble_eq_true rfl, Nat.le_of_ble_eq_true rfl⟩) hP hS hA (fun H locs hP hS => ?_)
            refine lv_iload_n hx hb dX2_send_77 rfl (lv_at hl 2 rfl) ?_
            obtain ⟨v33, hv32, hf⟩ := ob_some hf
            refine zc_i (z_VD (As := [.int v31, .int p2]) (rest := []) (q0 := 0) (ci := 2) ⟨hx, hb, hml, hown, hts⟩ (m_X2_on l D Z a S29 v31 p2 v33 hv32) gX2_send_X2_on rfl rfl rfl hdv_X2_on ⟨Nat.le_of_ble_eq_true rfl, Nat.le_of_ble_eq_true rfl⟩ hK hP hD rfl rfl rfl rfl hl.1 rfl (Nat.le_of_ble_eq_true rfl) dX2_send_78 ⟨Nat.le_of_ble_eq_true rfl, Nat.le_of_ble_eq_true rfl⟩) hP hS hA (fun H locs hP hS => ?_)
            exact zw_i hx hb hr hlk hP hD hS (congrArg (fun z => ((mwl Z a z) : va_W)) (pr2 hf)) (pr1 hf) (Nat.le_of_ble_eq_true rfl) (Nat.le_of_ble_eq_true rfl) dX2_send_81
          · have hf := if_t hf c27
            refine lv_aload_n hx hb dX2_send_57 rfl (lv_at hl 0 rfl) ?_
            refine lv_iconst (v := 2) hx hb dX2_send_58 (by decide) ?_
            obtain ⟨v36, S35, hv34, hf⟩ := ob2_some hf
            refine zc_mi0 (z_VD (As := [.int 2]) (rest := []) (q0 := 0) (ci := 2) ⟨hx, hb, hml, hown, hts⟩ (m_X2_fail l D Z a S1 2 S35 v36 hv34) gX2_send_X2_fail rfl rfl rfl hdv_X2_fail ⟨Nat.le_of_ble_eq_true rfl, Nat.le_of_ble_eq_true rfl⟩ hK hP hD rfl rfl rfl rfl hl.1 rfl (Nat.le_of_ble_eq_true rfl) dX2_send_59 ⟨Nat.le_of_ble_eq_true rfl, Nat.le_of_ble_eq_true rfl⟩) hD hS hA (fun H locs hP hD hS => ?_)
            exact zw_i hx hb hr hlk hP hD hS (congrArg (fun z => ((mwl Z a z) : va_W)) (pr2 hf)) (pr1 hf) (Nat.le_of_ble_eq_true rfl) (Nat.le_of_ble_eq_true rfl) dX2_send_62
    · have hf := if_t hf c12
      refine lv_aload_n hx hb dX2_send_21 rfl (lv_at hl 0 rfl) ?_
      refine lv_iconst (v := 1) hx hb dX2_send_22 (by decide) ?_
      obtain ⟨v39, S38, hv37, hf⟩ := ob2_some hf
      refine zc_mi0 (z_VD (As := [.int 1]) (rest := []) (q0 := 0) (ci := 2) ⟨hx, hb, hml, hown, hts⟩ (m_X2_fail l D Z a S1 1 S38 v39 hv37) gX2_send_X2_fail rfl rfl rfl hdv_X2_fail ⟨Nat.le_of_ble_eq_true rfl, Nat.le_of_ble_eq_true rfl⟩ hK hP hD rfl rfl rfl rfl hl.1 rfl (Nat.le_of_ble_eq_true rfl) dX2_send_23 ⟨Nat.le_of_ble_eq_true rfl, Nat.le_of_ble_eq_true rfl⟩) hD hS hA (fun H locs hP hD hS => ?_)
      exact zw_i hx hb hr hlk hP hD hS (congrArg (fun z => ((mwl Z a z) : va_W)) (pr2 hf)) (pr1 hf) (Nat.le_of_ble_eq_true rfl) (Nat.le_of_ble_eq_true rfl) dX2_send_26
def f_X2_podTold  (S : RS) (p1 : Int32) (p2 : Int32) : Option (Int32) :=
  if p2 = 4 then
    ob (f_X2_po S p1 p2) fun v5 =>
    if v5 ≤ 0 then
      ob (f_X2_po S p1 p2) fun v8 =>
      some v8
    else
      some 1
  else
    ob (f_X2_po S p1 p2) fun v3 =>
    some v3
abbrev rm_X2_podTold : Room := { frames := 1, cells := 0, slots := 0, locals := 22 }
theorem hdv_X2_podTold : yX2_podTold.cls = RX2 ∧ yX2_podTold.cls ≠ "java/lang/invoke/MethodHandle" ∧ yX2_podTold.cls ≠ "java/lang/invoke/VarHandle" ∧ (parseMethodDescriptor yX2_podTold.desc).map (fun d => d.parameters.length) = some 2 := by decide +kernel
set_option maxHeartbeats 4000000 in
set_option maxRecDepth 100000 in
theorem m_X2_podTold (l : Launch) (D : va_G) (Z : Nat → ClassId) (a : Nat → Nat) (S : RS) (p1 : Int32) (p2 : Int32) (r : Int32) (hf : f_X2_podTold S p1 p2 = some r) : ROi l yX2_podTold wsX2_podTold rm_X2_podTold D Z [.ref (a 0), .int p1, .int p2] (mwl Z a S) r := by
  refine ROi.of (cc := cX2_podTold) (nL := 3) (ret := (some .int)) (by decide +kernel) rfl (Nat.le_of_ble_eq_true rfl) ?_
  intro p e s m below meth c hC hA hP hK hD hS ls hl
  obtain ⟨hx, hb, hr, hml, hown, hts, hlk, -⟩ := hC
  have hown : s.vm.findClass RX2 = some m.cls := hown
  have hl : lv_has ls 3 [(0, .ref (a 0)), (1, .int p1), (2, .int p2)] := hl
  unfold f_X2_podTold at hf
  refine lv_iload_n hx hb dX2_podTold_0 rfl (lv_at hl 2 rfl) ?_
  refine lv_iconst (v := 4) hx hb dX2_podTold_1 (by decide) ?_
  refine lv_icmp_ne (tgt := 18) hx hb dX2_podTold_2 (by decide) (fun c1 => ?_) (fun c1 => ?_)
  · have hf := if_f hf c1
    refine lv_aload_n hx hb dX2_podTold_18 rfl (lv_at hl 0 rfl) ?_
    refine lv_iload_n hx hb dX2_podTold_19 rfl (lv_at hl 1 rfl) ?_
    refine lv_iload_n hx hb dX2_podTold_20 rfl (lv_at hl 2 rfl) ?_
    obtain ⟨v3, hv2, hf⟩ := ob_some hf
    refine zc_i (z_VD (As := [.int p1, .int p2]) (rest := []) (q0 := 0) (ci := 2) ⟨hx, hb, hml, hown, hts⟩ (m_X2_po l D Z a S p1 p2 v3 hv2) gX2_podTold_X2_po rfl rfl rfl hdv_X2_po ⟨Nat.le_of_ble_eq_true rfl, Nat.le_of_ble_eq_true rfl⟩ hK hP hD rfl rfl rfl rfl hl.1 rfl (Nat.le_of_ble_eq_true rfl) dX2_podTold_21 ⟨Nat.le_of_ble_eq_true rfl, Nat.le_of_ble_eq_true rfl⟩) hP hS hA (fun H locs hP hS => ?_)
    exact zr_i hx hb hr hlk hS (Option.some.inj hf) dX2_podTold_24
  · have hf := if_t hf c1
    refine lv_aload_n hx hb dX2_podTold_5 rfl (lv_at hl 0 rfl) ?_
    refine lv_iload_n hx hb dX2_podTold_6 rfl (lv_at hl 1 rfl) ?_
    refine lv_iload_n hx hb dX2_podTold_7 rfl (lv_at hl 2 rfl) ?_
    obtain ⟨v5, hv4, hf⟩ := ob_some hf
    refine zc_i (z_VD (As := [.int p1, .int p2]) (rest := []) (q0 := 0) (ci := 2) ⟨hx, hb, hml, hown, hts⟩ (m_X2_po l D Z a S p1 p2 v5 hv4) gX2_podTold_X2_po rfl rfl rfl hdv_X2_po ⟨Nat.le_of_ble_eq_true rfl, Nat.le_of_ble_eq_true rfl⟩ hK hP hD rfl rfl rfl rfl hl.1 rfl (Nat.le_of_ble_eq_true rfl) dX2_podTold_8 ⟨Nat.le_of_ble_eq_true rfl, Nat.le_of_ble_eq_true rfl⟩) hP hS hA (fun H locs hP hS => ?_)
    refine lv_if_le (tgt := 18) hx hb dX2_podTold_11 (by decide) (fun c6 => ?_) (fun c6 => ?_)
    · have hf := if_t hf c6
      refine lv_aload_n hx hb dX2_podTold_18 rfl (lv_at hl 0 rfl) ?_
      refine lv_iload_n hx hb dX2_podTold_19 rfl (lv_at hl 1 rfl) ?_
      refine lv_iload_n hx hb dX2_podTold_20 rfl (lv_at hl 2 rfl) ?_
      obtain ⟨v8, hv7, hf⟩ := ob_some hf
      refine zc_i (z_VD (As := [.int p1, .int p2]) (rest := []) (q0 := 0) (ci := 2) ⟨hx, hb, hml, hown, hts⟩ (m_X2_po l D Z a S p1 p2 v8 hv7) gX2_podTold_X2_po rfl rfl rfl hdv_X2_po ⟨Nat.le_of_ble_eq_true rfl, Nat.le_of_ble_eq_true rfl⟩ hK hP hD rfl rfl rfl rfl hl.1 rfl (Nat.le_of_ble_eq_true rfl) dX2_podTold_21 ⟨Nat.le_of_ble_eq_true rfl, Nat.le_of_ble_eq_true rfl⟩) hP hS hA (fun H locs hP hS => ?_)
      exact zr_i hx hb hr hlk hS (Option.some.inj hf) dX2_podTold_24
    · have hf := if_f hf c6
      refine lv_iconst (v := 1) hx hb dX2_podTold_14 (by decide) ?_
      refine lv_goto (tgt := 24) hx hb dX2_podTold_15 (by decide) ?_
      exact zr_i hx hb hr hlk hS (Option.some.inj hf) dX2_podTold_24
def f_X2_told  (S : RS) (p1 : Int32) (p2 : Int32) : Option (Int32 × RS) :=
  lt (sI S 0 0) fun (S1 : RS) =>
  ob (f_X2_isPod S1 p1) fun v3 =>
  if v3 = 0 then
    ob2 (f_X2_fail S1 1) fun v8 S7 =>
    some (v8, S7)
  else
    ob (f_X2_isIn p2 0 5) fun v10 =>
    if v10 = 0 then
      ob2 (f_X2_fail S1 1) fun v15 S14 =>
      some (v15, S14)
    else
      ob (f_X2_podTold S1 p1 p2) fun v17 =>
      some (v17, S1)
abbrev rm_X2_told : Room := { frames := 2, cells := 0, slots := 0, locals := 44 }
theorem hdv_X2_told : yX2_told.cls = RX2 ∧ yX2_told.cls ≠ "java/lang/invoke/MethodHandle" ∧ yX2_told.cls ≠ "java/lang/invoke/VarHandle" ∧ (parseMethodDescriptor yX2_told.desc).map (fun d => d.parameters.length) = some 2 := by decide +kernel
set_option maxHeartbeats 4000000 in
set_option maxRecDepth 100000 in
theorem m_X2_told (l : Launch) (D : va_G) (Z : Nat → ClassId) (a : Nat → Nat) (S : RS) (p1 : Int32) (p2 : Int32) (S' : RS) (r : Int32) (hf : f_X2_told S p1 p2 = some (r, S')) : RWi l yX2_told wsX2_told rm_X2_told D Z [.ref (a 0), .int p1, .int p2] (mwl Z a S) (mwl Z a S') r 0 0 := by
  refine RWi.of (cc := cX2_told) (nL := 3) (ret := (some .int)) (by decide +kernel) rfl (Nat.le_of_ble_eq_true rfl) ?_
  intro p e s m below meth c A hC hA hP hK hD hS ls hl
  obtain ⟨hx, hb, hr, hml, hown, hts, hlk, -⟩ := hC
  have hown : s.vm.findClass RX2 = some m.cls := hown
  have hin : ∀ w ∈ wsX20, w ∈ wsX2_told := fun w h => List.mem_cons_of_mem _ (List.mem_append_right _ h)
  have hl : lv_has ls 3 [(0, .ref (a 0)), (1, .int p1), (2, .int p2)] := hl
  unfold f_X2_told at hf
  refine lv_aload_n hx hb dX2_told_0 rfl (lv_at hl 0 rfl) ?_
  refine lv_iconst (v := 0) hx hb dX2_told_1 (by decide) ?_
  refine va_put (D := D) (ci := 2) (v := .int 0) (ty := .int) (C := RX2) (T := TX2) (N := 7) hx hb hts hin tyX2 tyX2_ok nmX2 hown hK hP hD hS 0 rfl rfl 0 (by decide) (hts (.fieldLink RX2 22 "PodGuidewayModel" "thrown" "I") (List.mem_of_getElem? (i := 1) rfl)) (fun _ h9 => h9) rfl (by decide +kernel) rfl rfl (Nat.le_of_ble_eq_true rfl) dX2_told_2 (fun H locs hP hD hS => ?_)
  obtain ⟨S1, eS1, hf⟩ := lt_ex hf
  have hP : va_P D vwCl (mwl Z a S1) H := by rw [eS1]; exact hP
  have hD : va_D A (mwl Z a S1) := by rw [eS1]; exact hD
  refine lv_aload_n hx hb dX2_told_5 rfl (lv_at hl 0 rfl) ?_
  refine lv_iload_n hx hb dX2_told_6 rfl (lv_at hl 1 rfl) ?_
  obtain ⟨v3, hv2, hf⟩ := ob_some hf
  refine zc_z (z_VD (As := [.int p1]) (rest := []) (q0 := 0) (ci := 2) ⟨hx, hb, hml, hown, hts⟩ (m_X2_isPod l D Z a S1 p1 v3 hv2) gX2_told_X2_isPod rfl rfl rfl hdv_X2_isPod ⟨Nat.le_of_ble_eq_true rfl, Nat.le_of_ble_eq_true rfl⟩ hK hP hD rfl rfl rfl rfl hl.1 rfl (Nat.le_of_ble_eq_true rfl) dX2_told_7 ⟨Nat.le_of_ble_eq_true rfl, Nat.le_of_ble_eq_true rfl⟩) hP hS hA (fun H locs hn4 hP hS => ?_)
  refine lv_if_eq (tgt := 31) hx hb dX2_told_10 (by decide) (fun c5 => ?_) (fun c5 => ?_)
  · have hf := if_t hf c5
    refine lv_aload_n hx hb dX2_told_31 rfl (lv_at hl 0 rfl) ?_
    refine lv_iconst (v := 1) hx hb dX2_told_32 (by decide) ?_
    obtain ⟨v8, S7, hv6, hf⟩ := ob2_some hf
    refine zc_mi0 (z_VD (As := [.int 1]) (rest := []) (q0 := 0) (ci := 2) ⟨hx, hb, hml, hown, hts⟩ (m_X2_fail l D Z a S1 1 S7 v8 hv6) gX2_told_X2_fail rfl rfl rfl hdv_X2_fail ⟨Nat.le_of_ble_eq_true rfl, Nat.le_of_ble_eq_true rfl⟩ hK hP hD rfl rfl rfl rfl hl.1 rfl (Nat.le_of_ble_eq_true rfl) dX2_told_33 ⟨Nat.le_of_ble_eq_true rfl, Nat.le_of_ble_eq_true rfl⟩) hD hS hA (fun H locs hP hD hS => ?_)
    exact zw_i hx hb hr hlk hP hD hS (congrArg (fun z => ((mwl Z a z) : va_W)) (pr2 hf)) (pr1 hf) (Nat.le_of_ble_eq_true rfl) (Nat.le_of_ble_eq_true rfl) dX2_told_36
  · have hf := if_f hf c5
    refine lv_iload_n hx hb dX2_told_13 rfl (lv_at hl 2 rfl) ?_
    refine lv_iconst (v := 0) hx hb dX2_told_14 (by decide) ?_
    refine lv_iconst (v := 5) hx hb dX2_told_15 (by decide) ?_
    obtain ⟨v10, hv9, hf⟩ := ob_some hf
    refine zc_z (z_SD (As := [.int p2, .int 0, .int 5]) (rest := []) ⟨hx, hb, hml, hown, hts⟩ (m_X2_isIn l D Z p2 0 5 v10 hv9) gX2_told_X2_isIn rfl rfl rfl hds_X2_isIn ⟨Nat.le_of_ble_eq_true rfl, Nat.le_of_ble_eq_true rfl⟩ hK (hP.sub (ws' := []) [] rfl) (hD.sub (ws' := []) [] (by decide) rfl) rfl hl.1 rfl (Nat.le_of_ble_eq_true rfl) dX2_told_16 ⟨Nat.le_of_ble_eq_true rfl, Nat.le_of_ble_eq_true rfl⟩) hP hS hA (fun H locs hn11 hP hS => ?_)
    refine lv_if_eq (tgt := 31) hx hb dX2_told_19 (by decide) (fun c12 => ?_) (fun c12 => ?_)
    · have hf := if_t hf c12
      refine lv_aload_n hx hb dX2_told_31 rfl (lv_at hl 0 rfl) ?_
      refine lv_iconst (v := 1) hx hb dX2_told_32 (by decide) ?_
      obtain ⟨v15, S14, hv13, hf⟩ := ob2_some hf
      refine zc_mi0 (z_VD (As := [.int 1]) (rest := []) (q0 := 0) (ci := 2) ⟨hx, hb, hml, hown, hts⟩ (m_X2_fail l D Z a S1 1 S14 v15 hv13) gX2_told_X2_fail rfl rfl rfl hdv_X2_fail ⟨Nat.le_of_ble_eq_true rfl, Nat.le_of_ble_eq_true rfl⟩ hK hP hD rfl rfl rfl rfl hl.1 rfl (Nat.le_of_ble_eq_true rfl) dX2_told_33 ⟨Nat.le_of_ble_eq_true rfl, Nat.le_of_ble_eq_true rfl⟩) hD hS hA (fun H locs hP hD hS => ?_)
      exact zw_i hx hb hr hlk hP hD hS (congrArg (fun z => ((mwl Z a z) : va_W)) (pr2 hf)) (pr1 hf) (Nat.le_of_ble_eq_true rfl) (Nat.le_of_ble_eq_true rfl) dX2_told_36
    · have hf := if_f hf c12
      refine lv_aload_n hx hb dX2_told_22 rfl (lv_at hl 0 rfl) ?_
      refine lv_iload_n hx hb dX2_told_23 rfl (lv_at hl 1 rfl) ?_
      refine lv_iload_n hx hb dX2_told_24 rfl (lv_at hl 2 rfl) ?_
      obtain ⟨v17, hv16, hf⟩ := ob_some hf
      refine zc_i (z_VD (As := [.int p1, .int p2]) (rest := []) (q0 := 0) (ci := 2) ⟨hx, hb, hml, hown, hts⟩ (m_X2_podTold l D Z a S1 p1 p2 v17 hv16) gX2_told_X2_podTold rfl rfl rfl hdv_X2_podTold ⟨Nat.le_of_ble_eq_true rfl, Nat.le_of_ble_eq_true rfl⟩ hK hP hD rfl rfl rfl rfl hl.1 rfl (Nat.le_of_ble_eq_true rfl) dX2_told_25 ⟨Nat.le_of_ble_eq_true rfl, Nat.le_of_ble_eq_true rfl⟩) hP hS hA (fun H locs hP hS => ?_)
      refine lv_goto (tgt := 36) hx hb dX2_told_28 (by decide) ?_
      exact zw_i hx hb hr hlk hP hD hS (congrArg (fun z => ((mwl Z a z) : va_W)) (pr2 hf)) (pr1 hf) (Nat.le_of_ble_eq_true rfl) (Nat.le_of_ble_eq_true rfl) dX2_told_36
def f_X2_coming_L4  (S : RS) : Nat → Int32 → Int32 → Int32 → Option (Int32)
  | 0, _, _, _ => none
  | n + 1, x1, x2, x3 =>
    if (S.1 2) ≤ x3 then
      some x2
    else
      ob (f_X2_po S x3 3) fun v3 =>
      if v3 = x1 then
        ob (f_X2_po S x3 4) fun v6 =>
        if v6 = 0 then
          f_X2_coming_L4 S n x1 (x2 + 1) (x3 + 1)
        else
          f_X2_coming_L4 S n x1 (x2 + 0) (x3 + 1)
      else
        f_X2_coming_L4 S n x1 (x2 + 0) (x3 + 1)
def f_X2_coming  (S : RS) (p1 : Int32) : Option (Int32) :=
  f_X2_coming_L4 S FU p1 0 0
abbrev rm_X2_coming : Room := { frames := 1, cells := 0, slots := 0, locals := 22 }
theorem hdv_X2_coming : yX2_coming.cls = RX2 ∧ yX2_coming.cls ≠ "java/lang/invoke/MethodHandle" ∧ yX2_coming.cls ≠ "java/lang/invoke/VarHandle" ∧ (parseMethodDescriptor yX2_coming.desc).map (fun d => d.parameters.length) = some 1 := by decide +kernel
set_option maxHeartbeats 4000000 in
set_option maxRecDepth 100000 in
theorem m_X2_coming (l : Launch) (D : va_G) (Z : Nat → ClassId) (a : Nat → Nat) (S : RS) (p1 : Int32) (r : Int32) (hf : f_X2_coming S p1 = some r) : ROi l yX2_coming wsX2_coming rm_X2_coming D Z [.ref (a 0), .int p1] (mwl Z a S) r := by
  refine ROi.of (cc := cX2_coming) (nL := 4) (ret := (some .int)) (by decide +kernel) rfl (Nat.le_of_ble_eq_true rfl) ?_
  intro p e s m below meth c hC hA hP hK hD hS ls hl
  obtain ⟨hx, hb, hr, hml, hown, hts, hlk, -⟩ := hC
  have hown : s.vm.findClass RX2 = some m.cls := hown
  have hin : ∀ w ∈ wsX20, w ∈ wsX2_coming := fun w h => List.mem_cons_of_mem _ (List.mem_append_right _ h)
  have hl : lv_has ls 4 [(0, .ref (a 0)), (1, .int p1)] := hl
  have L4 : ∀ (n : Nat) (x1 : Int32) (x2 : Int32) (x3 : Int32) (H : Heap) (locs : List Loc), va_P D vwCl (mwl Z a S) H → va_S (fun q : Nat => s.heap.size ≤ q) s.heap H locs → ∀ ls : Array Slot, lv_has ls 4 [(0, .ref (a 0)), (1, .int x1), (2, .int x2), (3, .int x3)] → f_X2_coming_L4 S n x1 x2 x3 = some r → W p l e rm_X2_coming s m ([.ref (a 0), .int p1] : List Value).toArray below meth c H locs 0 0 (MQ below (zQi r s.heap.size) ([.ref (a 0), .int p1] : List Value).toArray s 0 0 (fun q => s.heap.size ≤ q)) (F0 m 4 ls []) := by
    intro n
    induction n with
    | zero =>
      intro x1 x2 x3 H locs hP hS ls hl hf
      exact no_r hf
    | succ n ih =>
      intro x1 x2 x3 H locs hP hS ls hl hf
      rw [f_X2_coming_L4] at hf
      refine lv_iload_n hx hb dX2_coming_4 rfl (lv_at hl 3 rfl) ?_
      refine lv_aload_n hx hb dX2_coming_5 rfl (lv_at hl 0 rfl) ?_
      refine va_get (D := D) (ci := 2) (v := .int (S.1 2)) (C := RX2) (T := TX2) (N := 7) hx hb hts hin hown hK hP 0 rfl rfl 2 (by decide) (hts (.fieldLink RX2 33 "PodGuidewayModel" "pods" "I") (List.mem_of_getElem? (i := 1) rfl)) (fun _ h9 => h9) rfl dX2_coming_6 ?_
      refine lv_icmp_ge (tgt := 45) hx hb dX2_coming_9 (by decide) (fun c1 => ?_) (fun c1 => ?_)
      · have hf := if_t hf c1
        refine lv_iload_n hx hb dX2_coming_45 rfl (lv_at hl 2 rfl) ?_
        exact zr_i hx hb hr hlk hS (Option.some.inj hf) dX2_coming_46
      · have hf := if_f hf c1
        refine lv_iload_n hx hb dX2_coming_12 rfl (lv_at hl 2 rfl) ?_
        refine lv_aload_n hx hb dX2_coming_13 rfl (lv_at hl 0 rfl) ?_
        refine lv_iload_n hx hb dX2_coming_14 rfl (lv_at hl 3 rfl) ?_
        refine lv_iconst (v := 3) hx hb dX2_coming_15 (by decide) ?_
        obtain ⟨v3, hv2, hf⟩ := ob_some hf
        refine zc_i (z_VD (As := [.int x3, .int 3]) (rest := [.int x2]) (q0 := 0) (ci := 2) ⟨hx, hb, hml, hown, hts⟩ (m_X2_po l D Z a S x3 3 v3 hv2) gX2_coming_X2_po rfl rfl rfl hdv_X2_po ⟨Nat.le_of_ble_eq_true rfl, Nat.le_of_ble_eq_true rfl⟩ hK hP hD rfl rfl rfl rfl hl.1 rfl (Nat.le_of_ble_eq_true rfl) dX2_coming_16 ⟨Nat.le_of_ble_eq_true rfl, Nat.le_of_ble_eq_true rfl⟩) hP hS hA (fun H locs hP hS => ?_)
        refine lv_iload_n hx hb dX2_coming_19 rfl (lv_at hl 1 rfl) ?_
        refine lv_icmp_ne (tgt := 36) hx hb dX2_coming_20 (by decide) (fun c4 => ?_) (fun c4 => ?_)
        · have hf := if_f hf c4
          refine lv_iconst (v := 0) hx hb dX2_coming_36 (by decide) ?_
          refine lv_iadd hx hb dX2_coming_37 ?_
          refine lv_istore_n (lv' := [(2, .int (x2 + 0)), (0, .ref (a 0)), (1, .int x1), (3, .int x3)]) hx hb dX2_coming_38 rfl hl (by decide) rfl (fun ls hl => ?_)
          refine lv_iinc (v := (x3 + 1)) (lv' := [(3, .int (x3 + 1)), (2, .int (x2 + 0)), (0, .ref (a 0)), (1, .int x1)]) hx hb dX2_coming_39 hl (k := 3) rfl rfl (by decide) rfl (fun ls hl => ?_)
          refine lv_goto (tgt := 4) hx hb dX2_coming_42 (by decide) ?_
          exact ih x1 (x2 + 0) (x3 + 1) _ _ hP hS ls (lv_sub hl [2, 3, 1, 0] rfl) hf
        · have hf := if_t hf c4
          refine lv_aload_n hx hb dX2_coming_23 rfl (lv_at hl 0 rfl) ?_
          refine lv_iload_n hx hb dX2_coming_24 rfl (lv_at hl 3 rfl) ?_
          refine lv_iconst (v := 4) hx hb dX2_coming_25 (by decide) ?_
          obtain ⟨v6, hv5, hf⟩ := ob_some hf
          refine zc_i (z_VD (As := [.int x3, .int 4]) (rest := [.int x2]) (q0 := 0) (ci := 2) ⟨hx, hb, hml, hown, hts⟩ (m_X2_po l D Z a S x3 4 v6 hv5) gX2_coming_X2_po rfl rfl rfl hdv_X2_po ⟨Nat.le_of_ble_eq_true rfl, Nat.le_of_ble_eq_true rfl⟩ hK hP hD rfl rfl rfl rfl hl.1 rfl (Nat.le_of_ble_eq_true rfl) dX2_coming_26 ⟨Nat.le_of_ble_eq_true rfl, Nat.le_of_ble_eq_true rfl⟩) hP hS hA (fun H locs hP hS => ?_)
          refine lv_if_ne (tgt := 36) hx hb dX2_coming_29 (by decide) (fun c7 => ?_) (fun c7 => ?_)
          · have hf := if_f hf c7
            refine lv_iconst (v := 0) hx hb dX2_coming_36 (by decide) ?_
            refine lv_iadd hx hb dX2_coming_37 ?_
            refine lv_istore_n (lv' := [(2, .int (x2 + 0)), (0, .ref (a 0)), (1, .int x1), (3, .int x3)]) hx hb dX2_coming_38 rfl hl (by decide) rfl (fun ls hl => ?_)
            refine lv_iinc (v := (x3 + 1)) (lv' := [(3, .int (x3 + 1)), (2, .int (x2 + 0)), (0, .ref (a 0)), (1, .int x1)]) hx hb dX2_coming_39 hl (k := 3) rfl rfl (by decide) rfl (fun ls hl => ?_)
            refine lv_goto (tgt := 4) hx hb dX2_coming_42 (by decide) ?_
            exact ih x1 (x2 + 0) (x3 + 1) _ _ hP hS ls (lv_sub hl [2, 3, 1, 0] rfl) hf
          · have hf := if_t hf c7
            refine lv_iconst (v := 1) hx hb dX2_coming_32 (by decide) ?_
            refine lv_goto (tgt := 37) hx hb dX2_coming_33 (by decide) ?_
            refine lv_iadd hx hb dX2_coming_37 ?_
            refine lv_istore_n (lv' := [(2, .int (x2 + 1)), (0, .ref (a 0)), (1, .int x1), (3, .int x3)]) hx hb dX2_coming_38 rfl hl (by decide) rfl (fun ls hl => ?_)
            refine lv_iinc (v := (x3 + 1)) (lv' := [(3, .int (x3 + 1)), (2, .int (x2 + 1)), (0, .ref (a 0)), (1, .int x1)]) hx hb dX2_coming_39 hl (k := 3) rfl rfl (by decide) rfl (fun ls hl => ?_)
            refine lv_goto (tgt := 4) hx hb dX2_coming_42 (by decide) ?_
            exact ih x1 (x2 + 1) (x3 + 1) _ _ hP hS ls (lv_sub hl [2, 3, 1, 0] rfl) hf
  unfold f_X2_coming at hf
  refine lv_iconst (v := 0) hx hb dX2_coming_0 (by decide) ?_
  refine lv_istore_n (lv' := [(2, .int 0), (0, .ref (a 0)), (1, .int p1)]) hx hb dX2_coming_1 rfl hl (by decide) rfl (fun ls hl => ?_)
  refine lv_iconst (v := 0) hx hb dX2_coming_2 (by decide) ?_
  refine lv_istore_n (lv' := [(3, .int 0), (2, .int 0), (0, .ref (a 0)), (1, .int p1)]) hx hb dX2_coming_3 rfl hl (by decide) rfl (fun ls hl => ?_)
  exact L4 FU p1 0 0 _ _ hP hS ls (lv_sub hl [2, 3, 1, 0] rfl) hf
def f_X2_stationTold_L50  (S : RS) : Nat → Int32 → Int32 → Int32 → Option (Int32)
  | 0, _, _, _ => none
  | n + 1, x1, x3, x4 =>
    if (S.1 2) ≤ x4 then
      some x3
    else
      ob (f_X2_po S x4 1) fun v7 =>
      if v7 = x1 then
        f_X2_stationTold_L50 S n x1 (x3 + 1) (x4 + 1)
      else
        f_X2_stationTold_L50 S n x1 (x3 + 0) (x4 + 1)
def f_X2_stationTold_L89  (S : RS) : Nat → Int32 → Int32 → Int32 → Option (Int32)
  | 0, _, _, _ => none
  | n + 1, x1, x3, x4 =>
    if (S.1 2) ≤ x4 then
      some x3
    else
      ob (f_X2_po S x4 1) fun v12 =>
      if v12 = x1 then
        ob (f_X2_po S x4 3) fun v15 =>
        if v15 = (-1) then
          f_X2_stationTold_L89 S n x1 (x3 + 1) (x4 + 1)
        else
          f_X2_stationTold_L89 S n x1 (x3 + 0) (x4 + 1)
      else
        f_X2_stationTold_L89 S n x1 (x3 + 0) (x4 + 1)
def f_X2_stationTold_L152  (S : RS) : Nat → Int32 → Int32 → Int32 → Option (Int32)
  | 0, _, _, _ => none
  | n + 1, x1, x3, x4 =>
    ob (f_X2_st S x1 1) fun v25 =>
    if v25 ≤ x4 then
      some x3
    else
      ob (f_X2_pe S x1 x4 1) fun v28 =>
      f_X2_stationTold_L152 S n x1 (x3 + v28) (x4 + 1)
def f_X2_stationTold  (S : RS) (p1 : Int32) (p2 : Int32) : Option (Int32) :=
  if p2 = 0 then
    ob (f_X2_st S p1 0) fun v3 =>
    some v3
  else if p2 = 1 then
    f_X2_stationTold_L50 S FU p1 0 0
  else if p2 = 2 then
    f_X2_stationTold_L89 S FU p1 0 0
  else if p2 = 3 then
    ob (f_X2_st S p1 1) fun v19 =>
    some v19
  else if p2 = 4 then
    ob (f_X2_coming S p1) fun v22 =>
    some v22
  else if p2 = 5 then
    f_X2_stationTold_L152 S FU p1 0 0
  else 
    ob (f_X2_st S p1 2) fun v30 =>
    some v30
abbrev rm_X2_stationTold : Room := { frames := 2, cells := 0, slots := 0, locals := 45 }
theorem hdv_X2_stationTold : yX2_stationTold.cls = RX2 ∧ yX2_stationTold.cls ≠ "java/lang/invoke/MethodHandle" ∧ yX2_stationTold.cls ≠ "java/lang/invoke/VarHandle" ∧ (parseMethodDescriptor yX2_stationTold.desc).map (fun d => d.parameters.length) = some 2 := by decide +kernel
set_option maxHeartbeats 4000000 in
set_option maxRecDepth 100000 in
theorem m_X2_stationTold (l : Launch) (D : va_G) (Z : Nat → ClassId) (a : Nat → Nat) (S : RS) (p1 : Int32) (p2 : Int32) (r : Int32) (hf : f_X2_stationTold S p1 p2 = some r) : ROi l yX2_stationTold wsX2_stationTold rm_X2_stationTold D Z [.ref (a 0), .int p1, .int p2] (mwl Z a S) r := by
  refine ROi.of (cc := cX2_stationTold) (nL := 5) (ret := (some .int)) (by decide +kernel) rfl (Nat.le_of_ble_eq_true rfl) ?_
  intro p e s m below meth c hC hA hP hK hD hS ls hl
  obtain ⟨hx, hb, hr, hml, hown, hts, hlk, -⟩ := hC
  have hown : s.vm.findClass RX2 = some m.cls := hown
  have hin : ∀ w ∈ wsX20, w ∈ wsX2_stationTold := fun w h => List.mem_cons_of_mem _ (List.mem_append_right _ h)
  have hl : lv_has ls 5 [(0, .ref (a 0)), (1, .int p1), (2, .int p2)] := hl
  have L50 : ∀ (n : Nat) (x1 : Int32) (x3 : Int32) (x4 : Int32) (H : Heap) (locs : List Loc), va_P D vwCl (mwl Z a S) H → va_S (fun q : Nat => s.heap.size ≤ q) s.heap H locs → ∀ ls : Array Slot, lv_has ls 5 [(0, .ref (a 0)), (1, .int x1), (3, .int x3), (4, .int x4)] → f_X2_stationTold_L50 S n x1 x3 x4 = some r → W p l e rm_X2_stationTold s m ([.ref (a 0), .int p1, .int p2] : List Value).toArray below meth c H locs 0 0 (MQ below (zQi r s.heap.size) ([.ref (a 0), .int p1, .int p2] : List Value).toArray s 0 0 (fun q => s.heap.size ≤ q)) (F0 m 50 ls []) := by
    intro n
    induction n with
    | zero =>
      intro x1 x3 x4 H locs hP hS ls hl hf
      exact no_r hf
    | succ n ih =>
      intro x1 x3 x4 H locs hP hS ls hl hf
      rw [f_X2_stationTold_L50] at hf
      refine lv_iload hx hb dX2_stationTold_50 (lv_at hl 3 rfl) ?_
      refine lv_aload_n hx hb dX2_stationTold_52 rfl (lv_at hl 0 rfl) ?_
      refine va_get (D := D) (ci := 2) (v := .int (S.1 2)) (C := RX2) (T := TX2) (N := 7) hx hb hts hin hown hK hP 0 rfl rfl 2 (by decide) (hts (.fieldLink RX2 33 "PodGuidewayModel" "pods" "I") (List.mem_of_getElem? (i := 1) rfl)) (fun _ h9 => h9) rfl dX2_stationTold_53 ?_
      refine lv_icmp_ge (tgt := 84) hx hb dX2_stationTold_56 (by decide) (fun c5 => ?_) (fun c5 => ?_)
      · have hf := if_t hf c5
        refine lv_iload_n hx hb dX2_stationTold_84 rfl (lv_at hl 2 rfl) ?_
        exact zr_i hx hb hr hlk hS (Option.some.inj hf) dX2_stationTold_85
      · have hf := if_f hf c5
        refine lv_iload_n hx hb dX2_stationTold_59 rfl (lv_at hl 2 rfl) ?_
        refine lv_aload_n hx hb dX2_stationTold_60 rfl (lv_at hl 0 rfl) ?_
        refine lv_iload hx hb dX2_stationTold_61 (lv_at hl 3 rfl) ?_
        refine lv_iconst (v := 1) hx hb dX2_stationTold_63 (by decide) ?_
        obtain ⟨v7, hv6, hf⟩ := ob_some hf
        refine zc_i (z_VD (As := [.int x4, .int 1]) (rest := [.int x3]) (q0 := 0) (ci := 2) ⟨hx, hb, hml, hown, hts⟩ (m_X2_po l D Z a S x4 1 v7 hv6) gX2_stationTold_X2_po rfl rfl rfl hdv_X2_po ⟨Nat.le_of_ble_eq_true rfl, Nat.le_of_ble_eq_true rfl⟩ hK hP hD rfl rfl rfl rfl hl.1 rfl (Nat.le_of_ble_eq_true rfl) dX2_stationTold_64 ⟨Nat.le_of_ble_eq_true rfl, Nat.le_of_ble_eq_true rfl⟩) hP hS hA (fun H locs hP hS => ?_)
        refine lv_iload_n hx hb dX2_stationTold_67 rfl (lv_at hl 1 rfl) ?_
        refine lv_icmp_ne (tgt := 75) hx hb dX2_stationTold_68 (by decide) (fun c8 => ?_) (fun c8 => ?_)
        · have hf := if_f hf c8
          refine lv_iconst (v := 0) hx hb dX2_stationTold_75 (by decide) ?_
          refine lv_iadd hx hb dX2_stationTold_76 ?_
          refine lv_istore_n (lv' := [(3, .int (x3 + 0)), (0, .ref (a 0)), (1, .int x1), (4, .int x4)]) hx hb dX2_stationTold_77 rfl hl (by decide) rfl (fun ls hl => ?_)
          refine lv_iinc (v := (x4 + 1)) (lv' := [(4, .int (x4 + 1)), (3, .int (x3 + 0)), (0, .ref (a 0)), (1, .int x1)]) hx hb dX2_stationTold_78 hl (k := 3) rfl rfl (by decide) rfl (fun ls hl => ?_)
          refine lv_goto (tgt := 50) hx hb dX2_stationTold_81 (by decide) ?_
          exact ih x1 (x3 + 0) (x4 + 1) _ _ hP hS ls (lv_sub hl [2, 3, 1, 0] rfl) hf
        · have hf := if_t hf c8
          refine lv_iconst (v := 1) hx hb dX2_stationTold_71 (by decide) ?_
          refine lv_goto (tgt := 76) hx hb dX2_stationTold_72 (by decide) ?_
          refine lv_iadd hx hb dX2_stationTold_76 ?_
          refine lv_istore_n (lv' := [(3, .int (x3 + 1)), (0, .ref (a 0)), (1, .int x1), (4, .int x4)]) hx hb dX2_stationTold_77 rfl hl (by decide) rfl (fun ls hl => ?_)
          refine lv_iinc (v := (x4 + 1)) (lv' := [(4, .int (x4 + 1)), (3, .int (x3 + 1)), (0, .ref (a 0)), (1, .int x1)]) hx hb dX2_stationTold_78 hl (k := 3) rfl rfl (by decide) rfl (fun ls hl => ?_)
          refine lv_goto (tgt := 50) hx hb dX2_stationTold_81 (by decide) ?_
          exact ih x1 (x3 + 1) (x4 + 1) _ _ hP hS ls (lv_sub hl [2, 3, 1, 0] rfl) hf
  have L89 : ∀ (n : Nat) (x1 : Int32) (x3 : Int32) (x4 : Int32) (H : Heap) (locs : List Loc), va_P D vwCl (mwl Z a S) H → va_S (fun q : Nat => s.heap.size ≤ q) s.heap H locs → ∀ ls : Array Slot, lv_has ls 5 [(0, .ref (a 0)), (1, .int x1), (3, .int x3), (4, .int x4)] → f_X2_stationTold_L89 S n x1 x3 x4 = some r → W p l e rm_X2_stationTold s m ([.ref (a 0), .int p1, .int p2] : List Value).toArray below meth c H locs 0 0 (MQ below (zQi r s.heap.size) ([.ref (a 0), .int p1, .int p2] : List Value).toArray s 0 0 (fun q => s.heap.size ≤ q)) (F0 m 89 ls []) := by
    intro n
    induction n with
    | zero =>
      intro x1 x3 x4 H locs hP hS ls hl hf
      exact no_r hf
    | succ n ih =>
      intro x1 x3 x4 H locs hP hS ls hl hf
      rw [f_X2_stationTold_L89] at hf
      refine lv_iload hx hb dX2_stationTold_89 (lv_at hl 3 rfl) ?_
      refine lv_aload_n hx hb dX2_stationTold_91 rfl (lv_at hl 0 rfl) ?_
      refine va_get (D := D) (ci := 2) (v := .int (S.1 2)) (C := RX2) (T := TX2) (N := 7) hx hb hts hin hown hK hP 0 rfl rfl 2 (by decide) (hts (.fieldLink RX2 33 "PodGuidewayModel" "pods" "I") (List.mem_of_getElem? (i := 1) rfl)) (fun _ h9 => h9) rfl dX2_stationTold_92 ?_
      refine lv_icmp_ge (tgt := 134) hx hb dX2_stationTold_95 (by decide) (fun c10 => ?_) (fun c10 => ?_)
      · have hf := if_t hf c10
        refine lv_iload_n hx hb dX2_stationTold_134 rfl (lv_at hl 2 rfl) ?_
        exact zr_i hx hb hr hlk hS (Option.some.inj hf) dX2_stationTold_135
      · have hf := if_f hf c10
        refine lv_iload_n hx hb dX2_stationTold_98 rfl (lv_at hl 2 rfl) ?_
        refine lv_aload_n hx hb dX2_stationTold_99 rfl (lv_at hl 0 rfl) ?_
        refine lv_iload hx hb dX2_stationTold_100 (lv_at hl 3 rfl) ?_
        refine lv_iconst (v := 1) hx hb dX2_stationTold_102 (by decide) ?_
        obtain ⟨v12, hv11, hf⟩ := ob_some hf
        refine zc_i (z_VD (As := [.int x4, .int 1]) (rest := [.int x3]) (q0 := 0) (ci := 2) ⟨hx, hb, hml, hown, hts⟩ (m_X2_po l D Z a S x4 1 v12 hv11) gX2_stationTold_X2_po rfl rfl rfl hdv_X2_po ⟨Nat.le_of_ble_eq_true rfl, Nat.le_of_ble_eq_true rfl⟩ hK hP hD rfl rfl rfl rfl hl.1 rfl (Nat.le_of_ble_eq_true rfl) dX2_stationTold_103 ⟨Nat.le_of_ble_eq_true rfl, Nat.le_of_ble_eq_true rfl⟩) hP hS hA (fun H locs hP hS => ?_)
        refine lv_iload_n hx hb dX2_stationTold_106 rfl (lv_at hl 1 rfl) ?_
        refine lv_icmp_ne (tgt := 125) hx hb dX2_stationTold_107 (by decide) (fun c13 => ?_) (fun c13 => ?_)
        · have hf := if_f hf c13
          refine lv_iconst (v := 0) hx hb dX2_stationTold_125 (by decide) ?_
          refine lv_iadd hx hb dX2_stationTold_126 ?_
          refine lv_istore_n (lv' := [(3, .int (x3 + 0)), (0, .ref (a 0)), (1, .int x1), (4, .int x4)]) hx hb dX2_stationTold_127 rfl hl (by decide) rfl (fun ls hl => ?_)
          refine lv_iinc (v := (x4 + 1)) (lv' := [(4, .int (x4 + 1)), (3, .int (x3 + 0)), (0, .ref (a 0)), (1, .int x1)]) hx hb dX2_stationTold_128 hl (k := 3) rfl rfl (by decide) rfl (fun ls hl => ?_)
          refine lv_goto (tgt := 89) hx hb dX2_stationTold_131 (by decide) ?_
          exact ih x1 (x3 + 0) (x4 + 1) _ _ hP hS ls (lv_sub hl [2, 3, 1, 0] rfl) hf
        · have hf := if_t hf c13
          refine lv_aload_n hx hb dX2_stationTold_110 rfl (lv_at hl 0 rfl) ?_
          refine lv_iload hx hb dX2_stationTold_111 (lv_at hl 3 rfl) ?_
          refine lv_iconst (v := 3) hx hb dX2_stationTold_113 (by decide) ?_
          obtain ⟨v15, hv14, hf⟩ := ob_some hf
          refine zc_i (z_VD (As := [.int x4, .int 3]) (rest := [.int x3]) (q0 := 0) (ci := 2) ⟨hx, hb, hml, hown, hts⟩ (m_X2_po l D Z a S x4 3 v15 hv14) gX2_stationTold_X2_po rfl rfl rfl hdv_X2_po ⟨Nat.le_of_ble_eq_true rfl, Nat.le_of_ble_eq_true rfl⟩ hK hP hD rfl rfl rfl rfl hl.1 rfl (Nat.le_of_ble_eq_true rfl) dX2_stationTold_114 ⟨Nat.le_of_ble_eq_true rfl, Nat.le_of_ble_eq_true rfl⟩) hP hS hA (fun H locs hP hS => ?_)
          refine lv_iconst (v := (-1)) hx hb dX2_stationTold_117 (by decide) ?_
          refine lv_icmp_ne (tgt := 125) hx hb dX2_stationTold_118 (by decide) (fun c16 => ?_) (fun c16 => ?_)
          · have hf := if_f hf c16
            refine lv_iconst (v := 0) hx hb dX2_stationTold_125 (by decide) ?_
            refine lv_iadd hx hb dX2_stationTold_126 ?_
            refine lv_istore_n (lv' := [(3, .int (x3 + 0)), (0, .ref (a 0)), (1, .int x1), (4, .int x4)]) hx hb dX2_stationTold_127 rfl hl (by decide) rfl (fun ls hl => ?_)
            refine lv_iinc (v := (x4 + 1)) (lv' := [(4, .int (x4 + 1)), (3, .int (x3 + 0)), (0, .ref (a 0)), (1, .int x1)]) hx hb dX2_stationTold_128 hl (k := 3) rfl rfl (by decide) rfl (fun ls hl => ?_)
            refine lv_goto (tgt := 89) hx hb dX2_stationTold_131 (by decide) ?_
            exact ih x1 (x3 + 0) (x4 + 1) _ _ hP hS ls (lv_sub hl [2, 3, 1, 0] rfl) hf
          · have hf := if_t hf c16
            refine lv_iconst (v := 1) hx hb dX2_stationTold_121 (by decide) ?_
            refine lv_goto (tgt := 126) hx hb dX2_stationTold_122 (by decide) ?_
            refine lv_iadd hx hb dX2_stationTold_126 ?_
            refine lv_istore_n (lv' := [(3, .int (x3 + 1)), (0, .ref (a 0)), (1, .int x1), (4, .int x4)]) hx hb dX2_stationTold_127 rfl hl (by decide) rfl (fun ls hl => ?_)
            refine lv_iinc (v := (x4 + 1)) (lv' := [(4, .int (x4 + 1)), (3, .int (x3 + 1)), (0, .ref (a 0)), (1, .int x1)]) hx hb dX2_stationTold_128 hl (k := 3) rfl rfl (by decide) rfl (fun ls hl => ?_)
            refine lv_goto (tgt := 89) hx hb dX2_stationTold_131 (by decide) ?_
            exact ih x1 (x3 + 1) (x4 + 1) _ _ hP hS ls (lv_sub hl [2, 3, 1, 0] rfl) hf
  have L152 : ∀ (n : Nat) (x1 : Int32) (x3 : Int32) (x4 : Int32) (H : Heap) (locs : List Loc), va_P D vwCl (mwl Z a S) H → va_S (fun q : Nat => s.heap.size ≤ q) s.heap H locs → ∀ ls : Array Slot, lv_has ls 5 [(0, .ref (a 0)), (1, .int x1), (3, .int x3), (4, .int x4)] → f_X2_stationTold_L152 S n x1 x3 x4 = some r → W p l e rm_X2_stationTold s m ([.ref (a 0), .int p1, .int p2] : List Value).toArray below meth c H locs 0 0 (MQ below (zQi r s.heap.size) ([.ref (a 0), .int p1, .int p2] : List Value).toArray s 0 0 (fun q => s.heap.size ≤ q)) (F0 m 152 ls []) := by
    intro n
    induction n with
    | zero =>
      intro x1 x3 x4 H locs hP hS ls hl hf
      exact no_r hf
    | succ n ih =>
      intro x1 x3 x4 H locs hP hS ls hl hf
      rw [f_X2_stationTold_L152] at hf
      refine lv_iload hx hb dX2_stationTold_152 (lv_at hl 3 rfl) ?_
      refine lv_aload_n hx hb dX2_stationTold_154 rfl (lv_at hl 0 rfl) ?_
      refine lv_iload_n hx hb dX2_stationTold_155 rfl (lv_at hl 1 rfl) ?_
      refine lv_iconst (v := 1) hx hb dX2_stationTold_156 (by decide) ?_
      obtain ⟨v25, hv24, hf⟩ := ob_some hf
      refine zc_i (z_VD (As := [.int x1, .int 1]) (rest := [.int x4]) (q0 := 0) (ci := 2) ⟨hx, hb, hml, hown, hts⟩ (m_X2_st l D Z a S x1 1 v25 hv24) gX2_stationTold_X2_st rfl rfl rfl hdv_X2_st ⟨Nat.le_of_ble_eq_true rfl, Nat.le_of_ble_eq_true rfl⟩ hK hP hD rfl rfl rfl rfl hl.1 rfl (Nat.le_of_ble_eq_true rfl) dX2_stationTold_157 ⟨Nat.le_of_ble_eq_true rfl, Nat.le_of_ble_eq_true rfl⟩) hP hS hA (fun H locs hP hS => ?_)
      refine lv_icmp_ge (tgt := 180) hx hb dX2_stationTold_160 (by decide) (fun c26 => ?_) (fun c26 => ?_)
      · have hf := if_t hf c26
        refine lv_iload_n hx hb dX2_stationTold_180 rfl (lv_at hl 2 rfl) ?_
        exact zr_i hx hb hr hlk hS (Option.some.inj hf) dX2_stationTold_181
      · have hf := if_f hf c26
        refine lv_iload_n hx hb dX2_stationTold_163 rfl (lv_at hl 2 rfl) ?_
        refine lv_aload_n hx hb dX2_stationTold_164 rfl (lv_at hl 0 rfl) ?_
        refine lv_iload_n hx hb dX2_stationTold_165 rfl (lv_at hl 1 rfl) ?_
        refine lv_iload hx hb dX2_stationTold_166 (lv_at hl 3 rfl) ?_
        refine lv_iconst (v := 1) hx hb dX2_stationTold_168 (by decide) ?_
        obtain ⟨v28, hv27, hf⟩ := ob_some hf
        refine zc_i (z_VD (As := [.int x1, .int x4, .int 1]) (rest := [.int x3]) (q0 := 0) (ci := 2) ⟨hx, hb, hml, hown, hts⟩ (m_X2_pe l D Z a S x1 x4 1 v28 hv27) gX2_stationTold_X2_pe rfl rfl rfl hdv_X2_pe ⟨Nat.le_of_ble_eq_true rfl, Nat.le_of_ble_eq_true rfl⟩ hK hP hD rfl rfl rfl rfl hl.1 rfl (Nat.le_of_ble_eq_true rfl) dX2_stationTold_169 ⟨Nat.le_of_ble_eq_true rfl, Nat.le_of_ble_eq_true rfl⟩) hP hS hA (fun H locs hP hS => ?_)
        refine lv_iadd hx hb dX2_stationTold_172 ?_
        refine lv_istore_n (lv' := [(3, .int (x3 + v28)), (0, .ref (a 0)), (1, .int x1), (4, .int x4)]) hx hb dX2_stationTold_173 rfl hl (by decide) rfl (fun ls hl => ?_)
        refine lv_iinc (v := (x4 + 1)) (lv' := [(4, .int (x4 + 1)), (3, .int (x3 + v28)), (0, .ref (a 0)), (1, .int x1)]) hx hb dX2_stationTold_174 hl (k := 3) rfl rfl (by decide) rfl (fun ls hl => ?_)
        refine lv_goto (tgt := 152) hx hb dX2_stationTold_177 (by decide) ?_
        exact ih x1 (x3 + v28) (x4 + 1) _ _ hP hS ls (lv_sub hl [2, 3, 1, 0] rfl) hf
  unfold f_X2_stationTold at hf
  refine lv_iconst (v := 0) hx hb dX2_stationTold_0 (by decide) ?_
  refine lv_istore_n (lv' := [(3, .int 0), (0, .ref (a 0)), (1, .int p1), (2, .int p2)]) hx hb dX2_stationTold_1 rfl hl (by decide) rfl (fun ls hl => ?_)
  refine lv_iload_n hx hb dX2_stationTold_2 rfl (lv_at hl 3 rfl) ?_
  by_cases c1 : p2 = 0
  · have hf := if_t hf c1
    refine lv_tableIn (tgt := 40) (off := 37) hx hb dX2_stationTold_3 (by rw [c1]; decide) (by rw [c1]; decide) (by rw [c1]; rfl) (by decide) ?_
    refine lv_aload_n hx hb dX2_stationTold_40 rfl (lv_at hl 1 rfl) ?_
    refine lv_iload_n hx hb dX2_stationTold_41 rfl (lv_at hl 2 rfl) ?_
    refine lv_iconst (v := 0) hx hb dX2_stationTold_42 (by decide) ?_
    obtain ⟨v3, hv2, hf⟩ := ob_some hf
    refine zc_i (z_VD (As := [.int p1, .int 0]) (rest := []) (q0 := 0) (ci := 2) ⟨hx, hb, hml, hown, hts⟩ (m_X2_st l D Z a S p1 0 v3 hv2) gX2_stationTold_X2_st rfl rfl rfl hdv_X2_st ⟨Nat.le_of_ble_eq_true rfl, Nat.le_of_ble_eq_true rfl⟩ hK hP hD rfl rfl rfl rfl hl.1 rfl (Nat.le_of_ble_eq_true rfl) dX2_stationTold_43 ⟨Nat.le_of_ble_eq_true rfl, Nat.le_of_ble_eq_true rfl⟩) hP hS hA (fun H locs hP hS => ?_)
    exact zr_i hx hb hr hlk hS (Option.some.inj hf) dX2_stationTold_46
  have hf := if_f hf c1
  by_cases c4 : p2 = 1
  · have hf := if_t hf c4
    refine lv_tableIn (tgt := 47) (off := 44) hx hb dX2_stationTold_3 (by rw [c4]; decide) (by rw [c4]; decide) (by rw [c4]; rfl) (by decide) ?_
    refine lv_iconst (v := 0) hx hb dX2_stationTold_47 (by decide) ?_
    refine lv_istore (lv' := [(4, .int 0), (3, .int 0), (0, .ref (a 0)), (1, .int p1), (2, .int p2)]) hx hb dX2_stationTold_48 hl (by decide) rfl (fun ls hl => ?_)
    exact L50 FU p1 0 0 _ _ hP hS ls (lv_sub hl [2, 3, 1, 0] rfl) hf
  have hf := if_f hf c4
  by_cases c9 : p2 = 2
  · have hf := if_t hf c9
    refine lv_tableIn (tgt := 86) (off := 83) hx hb dX2_stationTold_3 (by rw [c9]; decide) (by rw [c9]; decide) (by rw [c9]; rfl) (by decide) ?_
    refine lv_iconst (v := 0) hx hb dX2_stationTold_86 (by decide) ?_
    refine lv_istore (lv' := [(4, .int 0), (3, .int 0), (0, .ref (a 0)), (1, .int p1), (2, .int p2)]) hx hb dX2_stationTold_87 hl (by decide) rfl (fun ls hl => ?_)
    exact L89 FU p1 0 0 _ _ hP hS ls (lv_sub hl [2, 3, 1, 0] rfl) hf
  have hf := if_f hf c9
  by_cases c17 : p2 = 3
  · have hf := if_t hf c17
    refine lv_tableIn (tgt := 136) (off := 133) hx hb dX2_stationTold_3 (by rw [c17]; decide) (by rw [c17]; decide) (by rw [c17]; rfl) (by decide) ?_
    refine lv_aload_n hx hb dX2_stationTold_136 rfl (lv_at hl 1 rfl) ?_
    refine lv_iload_n hx hb dX2_stationTold_137 rfl (lv_at hl 2 rfl) ?_
    refine lv_iconst (v := 1) hx hb dX2_stationTold_138 (by decide) ?_
    obtain ⟨v19, hv18, hf⟩ := ob_some hf
    refine zc_i (z_VD (As := [.int p1, .int 1]) (rest := []) (q0 := 0) (ci := 2) ⟨hx, hb, hml, hown, hts⟩ (m_X2_st l D Z a S p1 1 v19 hv18) gX2_stationTold_X2_st rfl rfl rfl hdv_X2_st ⟨Nat.le_of_ble_eq_true rfl, Nat.le_of_ble_eq_true rfl⟩ hK hP hD rfl rfl rfl rfl hl.1 rfl (Nat.le_of_ble_eq_true rfl) dX2_stationTold_139 ⟨Nat.le_of_ble_eq_true rfl, Nat.le_of_ble_eq_true rfl⟩) hP hS hA (fun H locs hP hS => ?_)
    exact zr_i hx hb hr hlk hS (Option.some.inj hf) dX2_stationTold_142
  have hf := if_f hf c17
  by_cases c20 : p2 = 4
  · have hf := if_t hf c20
    refine lv_tableIn (tgt := 143) (off := 140) hx hb dX2_stationTold_3 (by rw [c20]; decide) (by rw [c20]; decide) (by rw [c20]; rfl) (by decide) ?_
    refine lv_aload_n hx hb dX2_stationTold_143 rfl (lv_at hl 1 rfl) ?_
    refine lv_iload_n hx hb dX2_stationTold_144 rfl (lv_at hl 2 rfl) ?_
    obtain ⟨v22, hv21, hf⟩ := ob_some hf
    refine zc_i (z_VD (As := [.int p1]) (rest := []) (q0 := 0) (ci := 2) ⟨hx, hb, hml, hown, hts⟩ (m_X2_coming l D Z a S p1 v22 hv21) gX2_stationTold_X2_coming rfl rfl rfl hdv_X2_coming ⟨Nat.le_of_ble_eq_true rfl, Nat.le_of_ble_eq_true rfl⟩ hK hP hD rfl rfl rfl rfl hl.1 rfl (Nat.le_of_ble_eq_true rfl) dX2_stationTold_145 ⟨Nat.le_of_ble_eq_true rfl, Nat.le_of_ble_eq_true rfl⟩) hP hS hA (fun H locs hP hS => ?_)
    exact zr_i hx hb hr hlk hS (Option.some.inj hf) dX2_stationTold_148
  have hf := if_f hf c20
  by_cases c23 : p2 = 5
  · have hf := if_t hf c23
    refine lv_tableIn (tgt := 149) (off := 146) hx hb dX2_stationTold_3 (by rw [c23]; decide) (by rw [c23]; decide) (by rw [c23]; rfl) (by decide) ?_
    refine lv_iconst (v := 0) hx hb dX2_stationTold_149 (by decide) ?_
    refine lv_istore (lv' := [(4, .int 0), (3, .int 0), (0, .ref (a 0)), (1, .int p1), (2, .int p2)]) hx hb dX2_stationTold_150 hl (by decide) rfl (fun ls hl => ?_)
    exact L152 FU p1 0 0 _ _ hP hS ls (lv_sub hl [2, 3, 1, 0] rfl) hf
  have hf := if_f hf c23
  refine lv_tableOut (tgt := 182) hx hb dX2_stationTold_3 (sw_out6 c1 c4 c9 c17 c20 c23) (by decide) ?_
  refine lv_aload_n hx hb dX2_stationTold_182 rfl (lv_at hl 1 rfl) ?_
  refine lv_iload_n hx hb dX2_stationTold_183 rfl (lv_at hl 2 rfl) ?_
  refine lv_iconst (v := 2) hx hb dX2_stationTold_184 (by decide) ?_
  obtain ⟨v30, hv29, hf⟩ := ob_some hf
  refine zc_i (z_VD (As := [.int p1, .int 2]) (rest := []) (q0 := 0) (ci := 2) ⟨hx, hb, hml, hown, hts⟩ (m_X2_st l D Z a S p1 2 v30 hv29) gX2_stationTold_X2_st rfl rfl rfl hdv_X2_st ⟨Nat.le_of_ble_eq_true rfl, Nat.le_of_ble_eq_true rfl⟩ hK hP hD rfl rfl rfl rfl hl.1 rfl (Nat.le_of_ble_eq_true rfl) dX2_stationTold_185 ⟨Nat.le_of_ble_eq_true rfl, Nat.le_of_ble_eq_true rfl⟩) hP hS hA (fun H locs hP hS => ?_)
  exact zr_i hx hb hr hlk hS (Option.some.inj hf) dX2_stationTold_188
def f_X2_station  (S : RS) (p1 : Int32) (p2 : Int32) : Option (Int32 × RS) :=
  lt (sI S 0 0) fun (S1 : RS) =>
  ob (f_X2_isStation S1 p1) fun v3 =>
  if v3 = 0 then
    ob2 (f_X2_fail S1 1) fun v8 S7 =>
    some (v8, S7)
  else
    ob (f_X2_isIn p2 0 6) fun v10 =>
    if v10 = 0 then
      ob2 (f_X2_fail S1 1) fun v15 S14 =>
      some (v15, S14)
    else
      ob (f_X2_stationTold S1 p1 p2) fun v17 =>
      some (v17, S1)
abbrev rm_X2_station : Room := { frames := 3, cells := 0, slots := 0, locals := 69 }
theorem hdv_X2_station : yX2_station.cls = RX2 ∧ yX2_station.cls ≠ "java/lang/invoke/MethodHandle" ∧ yX2_station.cls ≠ "java/lang/invoke/VarHandle" ∧ (parseMethodDescriptor yX2_station.desc).map (fun d => d.parameters.length) = some 2 := by decide +kernel
set_option maxHeartbeats 4000000 in
set_option maxRecDepth 100000 in
theorem m_X2_station (l : Launch) (D : va_G) (Z : Nat → ClassId) (a : Nat → Nat) (S : RS) (p1 : Int32) (p2 : Int32) (S' : RS) (r : Int32) (hf : f_X2_station S p1 p2 = some (r, S')) : RWi l yX2_station wsX2_station rm_X2_station D Z [.ref (a 0), .int p1, .int p2] (mwl Z a S) (mwl Z a S') r 0 0 := by
  refine RWi.of (cc := cX2_station) (nL := 3) (ret := (some .int)) (by decide +kernel) rfl (Nat.le_of_ble_eq_true rfl) ?_
  intro p e s m below meth c A hC hA hP hK hD hS ls hl
  obtain ⟨hx, hb, hr, hml, hown, hts, hlk, -⟩ := hC
  have hown : s.vm.findClass RX2 = some m.cls := hown
  have hin : ∀ w ∈ wsX20, w ∈ wsX2_station := fun w h => List.mem_cons_of_mem _ (List.mem_append_right _ h)
  have hl : lv_has ls 3 [(0, .ref (a 0)), (1, .int p1), (2, .int p2)] := hl
  unfold f_X2_station at hf
  refine lv_aload_n hx hb dX2_station_0 rfl (lv_at hl 0 rfl) ?_
  refine lv_iconst (v := 0) hx hb dX2_station_1 (by decide) ?_
  refine va_put (D := D) (ci := 2) (v := .int 0) (ty := .int) (C := RX2) (T := TX2) (N := 7) hx hb hts hin tyX2 tyX2_ok nmX2 hown hK hP hD hS 0 rfl rfl 0 (by decide) (hts (.fieldLink RX2 22 "PodGuidewayModel" "thrown" "I") (List.mem_of_getElem? (i := 1) rfl)) (fun _ h9 => h9) rfl (by decide +kernel) rfl rfl (Nat.le_of_ble_eq_true rfl) dX2_station_2 (fun H locs hP hD hS => ?_)
  obtain ⟨S1, eS1, hf⟩ := lt_ex hf
  have hP : va_P D vwCl (mwl Z a S1) H := by rw [eS1]; exact hP
  have hD : va_D A (mwl Z a S1) := by rw [eS1]; exact hD
  refine lv_aload_n hx hb dX2_station_5 rfl (lv_at hl 0 rfl) ?_
  refine lv_iload_n hx hb dX2_station_6 rfl (lv_at hl 1 rfl) ?_
  obtain ⟨v3, hv2, hf⟩ := ob_some hf
  refine zc_z (z_VD (As := [.int p1]) (rest := []) (q0 := 0) (ci := 2) ⟨hx, hb, hml, hown, hts⟩ (m_X2_isStation l D Z a S1 p1 v3 hv2) gX2_station_X2_isStation rfl rfl rfl hdv_X2_isStation ⟨Nat.le_of_ble_eq_true rfl, Nat.le_of_ble_eq_true rfl⟩ hK hP hD rfl rfl rfl rfl hl.1 rfl (Nat.le_of_ble_eq_true rfl) dX2_station_7 ⟨Nat.le_of_ble_eq_true rfl, Nat.le_of_ble_eq_true rfl⟩) hP hS hA (fun H locs hn4 hP hS => ?_)
  refine lv_if_eq (tgt := 32) hx hb dX2_station_10 (by decide) (fun c5 => ?_) (fun c5 => ?_)
  · have hf := if_t hf c5
    refine lv_aload_n hx hb dX2_station_32 rfl (lv_at hl 0 rfl) ?_
    refine lv_iconst (v := 1) hx hb dX2_station_33 (by decide) ?_
    obtain ⟨v8, S7, hv6, hf⟩ := ob2_some hf
    refine zc_mi0 (z_VD (As := [.int 1]) (rest := []) (q0 := 0) (ci := 2) ⟨hx, hb, hml, hown, hts⟩ (m_X2_fail l D Z a S1 1 S7 v8 hv6) gX2_station_X2_fail rfl rfl rfl hdv_X2_fail ⟨Nat.le_of_ble_eq_true rfl, Nat.le_of_ble_eq_true rfl⟩ hK hP hD rfl rfl rfl rfl hl.1 rfl (Nat.le_of_ble_eq_true rfl) dX2_station_34 ⟨Nat.le_of_ble_eq_true rfl, Nat.le_of_ble_eq_true rfl⟩) hD hS hA (fun H locs hP hD hS => ?_)
    exact zw_i hx hb hr hlk hP hD hS (congrArg (fun z => ((mwl Z a z) : va_W)) (pr2 hf)) (pr1 hf) (Nat.le_of_ble_eq_true rfl) (Nat.le_of_ble_eq_true rfl) dX2_station_37
  · have hf := if_f hf c5
    refine lv_iload_n hx hb dX2_station_13 rfl (lv_at hl 2 rfl) ?_
    refine lv_iconst (v := 0) hx hb dX2_station_14 (by decide) ?_
    refine lv_bipush (v := 6) hx hb dX2_station_15 (by decide) ?_
    obtain ⟨v10, hv9, hf⟩ := ob_some hf
    refine zc_z (z_SD (As := [.int p2, .int 0, .int 6]) (rest := []) ⟨hx, hb, hml, hown, hts⟩ (m_X2_isIn l D Z p2 0 6 v10 hv9) gX2_station_X2_isIn rfl rfl rfl hds_X2_isIn ⟨Nat.le_of_ble_eq_true rfl, Nat.le_of_ble_eq_true rfl⟩ hK (hP.sub (ws' := []) [] rfl) (hD.sub (ws' := []) [] (by decide) rfl) rfl hl.1 rfl (Nat.le_of_ble_eq_true rfl) dX2_station_17 ⟨Nat.le_of_ble_eq_true rfl, Nat.le_of_ble_eq_true rfl⟩) hP hS hA (fun H locs hn11 hP hS => ?_)
    refine lv_if_eq (tgt := 32) hx hb dX2_station_20 (by decide) (fun c12 => ?_) (fun c12 => ?_)
    · have hf := if_t hf c12
      refine lv_aload_n hx hb dX2_station_32 rfl (lv_at hl 0 rfl) ?_
      refine lv_iconst (v := 1) hx hb dX2_station_33 (by decide) ?_
      obtain ⟨v15, S14, hv13, hf⟩ := ob2_some hf
      refine zc_mi0 (z_VD (As := [.int 1]) (rest := []) (q0 := 0) (ci := 2) ⟨hx, hb, hml, hown, hts⟩ (m_X2_fail l D Z a S1 1 S14 v15 hv13) gX2_station_X2_fail rfl rfl rfl hdv_X2_fail ⟨Nat.le_of_ble_eq_true rfl, Nat.le_of_ble_eq_true rfl⟩ hK hP hD rfl rfl rfl rfl hl.1 rfl (Nat.le_of_ble_eq_true rfl) dX2_station_34 ⟨Nat.le_of_ble_eq_true rfl, Nat.le_of_ble_eq_true rfl⟩) hD hS hA (fun H locs hP hD hS => ?_)
      exact zw_i hx hb hr hlk hP hD hS (congrArg (fun z => ((mwl Z a z) : va_W)) (pr2 hf)) (pr1 hf) (Nat.le_of_ble_eq_true rfl) (Nat.le_of_ble_eq_true rfl) dX2_station_37
    · have hf := if_f hf c12
      refine lv_aload_n hx hb dX2_station_23 rfl (lv_at hl 0 rfl) ?_
      refine lv_iload_n hx hb dX2_station_24 rfl (lv_at hl 1 rfl) ?_
      refine lv_iload_n hx hb dX2_station_25 rfl (lv_at hl 2 rfl) ?_
      obtain ⟨v17, hv16, hf⟩ := ob_some hf
      refine zc_i (z_VD (As := [.int p1, .int p2]) (rest := []) (q0 := 0) (ci := 2) ⟨hx, hb, hml, hown, hts⟩ (m_X2_stationTold l D Z a S1 p1 p2 v17 hv16) gX2_station_X2_stationTold rfl rfl rfl hdv_X2_stationTold ⟨Nat.le_of_ble_eq_true rfl, Nat.le_of_ble_eq_true rfl⟩ hK hP hD rfl rfl rfl rfl hl.1 rfl (Nat.le_of_ble_eq_true rfl) dX2_station_26 ⟨Nat.le_of_ble_eq_true rfl, Nat.le_of_ble_eq_true rfl⟩) hP hS hA (fun H locs hP hS => ?_)
      refine lv_goto (tgt := 37) hx hb dX2_station_29 (by decide) ?_
      exact zw_i hx hb hr hlk hP hD hS (congrArg (fun z => ((mwl Z a z) : va_W)) (pr2 hf)) (pr1 hf) (Nat.le_of_ble_eq_true rfl) (Nat.le_of_ble_eq_true rfl) dX2_station_37
def f_X2_rider  (S : RS) (p1 : Int32) (p2 : Int32) : Option (Int32) :=
  ob (f_X2_pe S p1 p2 1) fun v2 =>
  ob (f_X2_pe S p1 p2 0) fun v4 =>
  some ((10 * v2) + v4)
abbrev rm_X2_rider : Room := { frames := 1, cells := 0, slots := 0, locals := 23 }
theorem hdv_X2_rider : yX2_rider.cls = RX2 ∧ yX2_rider.cls ≠ "java/lang/invoke/MethodHandle" ∧ yX2_rider.cls ≠ "java/lang/invoke/VarHandle" ∧ (parseMethodDescriptor yX2_rider.desc).map (fun d => d.parameters.length) = some 2 := by decide +kernel
set_option maxHeartbeats 4000000 in
set_option maxRecDepth 100000 in
theorem m_X2_rider (l : Launch) (D : va_G) (Z : Nat → ClassId) (a : Nat → Nat) (S : RS) (p1 : Int32) (p2 : Int32) (r : Int32) (hf : f_X2_rider S p1 p2 = some r) : ROi l yX2_rider wsX2_rider rm_X2_rider D Z [.ref (a 0), .int p1, .int p2] (mwl Z a S) r := by
  refine ROi.of (cc := cX2_rider) (nL := 3) (ret := (some .int)) (by decide +kernel) rfl (Nat.le_of_ble_eq_true rfl) ?_
  intro p e s m below meth c hC hA hP hK hD hS ls hl
  obtain ⟨hx, hb, hr, hml, hown, hts, hlk, -⟩ := hC
  have hown : s.vm.findClass RX2 = some m.cls := hown
  have hl : lv_has ls 3 [(0, .ref (a 0)), (1, .int p1), (2, .int p2)] := hl
  unfold f_X2_rider at hf
  refine lv_bipush (v := 10) hx hb dX2_rider_0 (by decide) ?_
  refine lv_aload_n hx hb dX2_rider_2 rfl (lv_at hl 0 rfl) ?_
  refine lv_iload_n hx hb dX2_rider_3 rfl (lv_at hl 1 rfl) ?_
  refine lv_iload_n hx hb dX2_rider_4 rfl (lv_at hl 2 rfl) ?_
  refine lv_iconst (v := 1) hx hb dX2_rider_5 (by decide) ?_
  obtain ⟨v2, hv1, hf⟩ := ob_some hf
  refine zc_i (z_VD (As := [.int p1, .int p2, .int 1]) (rest := [.int 10]) (q0 := 0) (ci := 2) ⟨hx, hb, hml, hown, hts⟩ (m_X2_pe l D Z a S p1 p2 1 v2 hv1) gX2_rider_X2_pe rfl rfl rfl hdv_X2_pe ⟨Nat.le_of_ble_eq_true rfl, Nat.le_of_ble_eq_true rfl⟩ hK hP hD rfl rfl rfl rfl hl.1 rfl (Nat.le_of_ble_eq_true rfl) dX2_rider_6 ⟨Nat.le_of_ble_eq_true rfl, Nat.le_of_ble_eq_true rfl⟩) hP hS hA (fun H locs hP hS => ?_)
  refine lv_imul hx hb dX2_rider_9 ?_
  refine lv_aload_n hx hb dX2_rider_10 rfl (lv_at hl 0 rfl) ?_
  refine lv_iload_n hx hb dX2_rider_11 rfl (lv_at hl 1 rfl) ?_
  refine lv_iload_n hx hb dX2_rider_12 rfl (lv_at hl 2 rfl) ?_
  refine lv_iconst (v := 0) hx hb dX2_rider_13 (by decide) ?_
  obtain ⟨v4, hv3, hf⟩ := ob_some hf
  refine zc_i (z_VD (As := [.int p1, .int p2, .int 0]) (rest := [.int (10 * v2)]) (q0 := 0) (ci := 2) ⟨hx, hb, hml, hown, hts⟩ (m_X2_pe l D Z a S p1 p2 0 v4 hv3) gX2_rider_X2_pe rfl rfl rfl hdv_X2_pe ⟨Nat.le_of_ble_eq_true rfl, Nat.le_of_ble_eq_true rfl⟩ hK hP hD rfl rfl rfl rfl hl.1 rfl (Nat.le_of_ble_eq_true rfl) dX2_rider_14 ⟨Nat.le_of_ble_eq_true rfl, Nat.le_of_ble_eq_true rfl⟩) hP hS hA (fun H locs hP hS => ?_)
  refine lv_iadd hx hb dX2_rider_17 ?_
  exact zr_i hx hb hr hlk hS (Option.some.inj hf) dX2_rider_18
def f_X2_waits  (S : RS) (p1 : Int32) (p2 : Int32) : Option (Int32 × RS) :=
  lt (sI S 0 0) fun (S1 : RS) =>
  ob (f_X2_isStation S1 p1) fun v3 =>
  if v3 = 0 then
    ob2 (f_X2_fail S1 1) fun v8 S7 =>
    some (v8, S7)
  else
    ob (f_X2_st S1 p1 1) fun v10 =>
    ob (f_X2_isIn p2 0 (v10 - 1)) fun v12 =>
    if v12 = 0 then
      ob2 (f_X2_fail S1 1) fun v17 S16 =>
      some (v17, S16)
    else
      ob (f_X2_rider S1 p1 p2) fun v19 =>
      some (v19, S1)
abbrev rm_X2_waits : Room := { frames := 2, cells := 0, slots := 0, locals := 45 }
theorem hdv_X2_waits : yX2_waits.cls = RX2 ∧ yX2_waits.cls ≠ "java/lang/invoke/MethodHandle" ∧ yX2_waits.cls ≠ "java/lang/invoke/VarHandle" ∧ (parseMethodDescriptor yX2_waits.desc).map (fun d => d.parameters.length) = some 2 := by decide +kernel
set_option maxHeartbeats 4000000 in
set_option maxRecDepth 100000 in
theorem m_X2_waits (l : Launch) (D : va_G) (Z : Nat → ClassId) (a : Nat → Nat) (S : RS) (p1 : Int32) (p2 : Int32) (S' : RS) (r : Int32) (hf : f_X2_waits S p1 p2 = some (r, S')) : RWi l yX2_waits wsX2_waits rm_X2_waits D Z [.ref (a 0), .int p1, .int p2] (mwl Z a S) (mwl Z a S') r 0 0 := by
  refine RWi.of (cc := cX2_waits) (nL := 3) (ret := (some .int)) (by decide +kernel) rfl (Nat.le_of_ble_eq_true rfl) ?_
  intro p e s m below meth c A hC hA hP hK hD hS ls hl
  obtain ⟨hx, hb, hr, hml, hown, hts, hlk, -⟩ := hC
  have hown : s.vm.findClass RX2 = some m.cls := hown
  have hin : ∀ w ∈ wsX20, w ∈ wsX2_waits := fun w h => List.mem_cons_of_mem _ (List.mem_append_right _ h)
  have hl : lv_has ls 3 [(0, .ref (a 0)), (1, .int p1), (2, .int p2)] := hl
  unfold f_X2_waits at hf
  refine lv_aload_n hx hb dX2_waits_0 rfl (lv_at hl 0 rfl) ?_
  refine lv_iconst (v := 0) hx hb dX2_waits_1 (by decide) ?_
  refine va_put (D := D) (ci := 2) (v := .int 0) (ty := .int) (C := RX2) (T := TX2) (N := 7) hx hb hts hin tyX2 tyX2_ok nmX2 hown hK hP hD hS 0 rfl rfl 0 (by decide) (hts (.fieldLink RX2 22 "PodGuidewayModel" "thrown" "I") (List.mem_of_getElem? (i := 1) rfl)) (fun _ h9 => h9) rfl (by decide +kernel) rfl rfl (Nat.le_of_ble_eq_true rfl) dX2_waits_2 (fun H locs hP hD hS => ?_)
  obtain ⟨S1, eS1, hf⟩ := lt_ex hf
  have hP : va_P D vwCl (mwl Z a S1) H := by rw [eS1]; exact hP
  have hD : va_D A (mwl Z a S1) := by rw [eS1]; exact hD
  refine lv_aload_n hx hb dX2_waits_5 rfl (lv_at hl 0 rfl) ?_
  refine lv_iload_n hx hb dX2_waits_6 rfl (lv_at hl 1 rfl) ?_
  obtain ⟨v3, hv2, hf⟩ := ob_some hf
  refine zc_z (z_VD (As := [.int p1]) (rest := []) (q0 := 0) (ci := 2) ⟨hx, hb, hml, hown, hts⟩ (m_X2_isStation l D Z a S1 p1 v3 hv2) gX2_waits_X2_isStation rfl rfl rfl hdv_X2_isStation ⟨Nat.le_of_ble_eq_true rfl, Nat.le_of_ble_eq_true rfl⟩ hK hP hD rfl rfl rfl rfl hl.1 rfl (Nat.le_of_ble_eq_true rfl) dX2_waits_7 ⟨Nat.le_of_ble_eq_true rfl, Nat.le_of_ble_eq_true rfl⟩) hP hS hA (fun H locs hn4 hP hS => ?_)
  refine lv_if_eq (tgt := 38) hx hb dX2_waits_10 (by decide) (fun c5 => ?_) (fun c5 => ?_)
  · have hf := if_t hf c5
    refine lv_aload_n hx hb dX2_waits_38 rfl (lv_at hl 0 rfl) ?_
    refine lv_iconst (v := 1) hx hb dX2_waits_39 (by decide) ?_
    obtain ⟨v8, S7, hv6, hf⟩ := ob2_some hf
    refine zc_mi0 (z_VD (As := [.int 1]) (rest := []) (q0 := 0) (ci := 2) ⟨hx, hb, hml, hown, hts⟩ (m_X2_fail l D Z a S1 1 S7 v8 hv6) gX2_waits_X2_fail rfl rfl rfl hdv_X2_fail ⟨Nat.le_of_ble_eq_true rfl, Nat.le_of_ble_eq_true rfl⟩ hK hP hD rfl rfl rfl rfl hl.1 rfl (Nat.le_of_ble_eq_true rfl) dX2_waits_40 ⟨Nat.le_of_ble_eq_true rfl, Nat.le_of_ble_eq_true rfl⟩) hD hS hA (fun H locs hP hD hS => ?_)
    exact zw_i hx hb hr hlk hP hD hS (congrArg (fun z => ((mwl Z a z) : va_W)) (pr2 hf)) (pr1 hf) (Nat.le_of_ble_eq_true rfl) (Nat.le_of_ble_eq_true rfl) dX2_waits_43
  · have hf := if_f hf c5
    refine lv_iload_n hx hb dX2_waits_13 rfl (lv_at hl 2 rfl) ?_
    refine lv_iconst (v := 0) hx hb dX2_waits_14 (by decide) ?_
    refine lv_aload_n hx hb dX2_waits_15 rfl (lv_at hl 0 rfl) ?_
    refine lv_iload_n hx hb dX2_waits_16 rfl (lv_at hl 1 rfl) ?_
    refine lv_iconst (v := 1) hx hb dX2_waits_17 (by decide) ?_
    obtain ⟨v10, hv9, hf⟩ := ob_some hf
    refine zc_i (z_VD (As := [.int p1, .int 1]) (rest := [.int 0, .int p2]) (q0 := 0) (ci := 2) ⟨hx, hb, hml, hown, hts⟩ (m_X2_st l D Z a S1 p1 1 v10 hv9) gX2_waits_X2_st rfl rfl rfl hdv_X2_st ⟨Nat.le_of_ble_eq_true rfl, Nat.le_of_ble_eq_true rfl⟩ hK hP hD rfl rfl rfl rfl hl.1 rfl (Nat.le_of_ble_eq_true rfl) dX2_waits_18 ⟨Nat.le_of_ble_eq_true rfl, Nat.le_of_ble_eq_true rfl⟩) hP hS hA (fun H locs hP hS => ?_)
    refine lv_iconst (v := 1) hx hb dX2_waits_21 (by decide) ?_
    refine lv_isub hx hb dX2_waits_22 ?_
    obtain ⟨v12, hv11, hf⟩ := ob_some hf
    refine zc_z (z_SD (As := [.int p2, .int 0, .int (v10 - 1)]) (rest := []) ⟨hx, hb, hml, hown, hts⟩ (m_X2_isIn l D Z p2 0 (v10 - 1) v12 hv11) gX2_waits_X2_isIn rfl rfl rfl hds_X2_isIn ⟨Nat.le_of_ble_eq_true rfl, Nat.le_of_ble_eq_true rfl⟩ hK (hP.sub (ws' := []) [] rfl) (hD.sub (ws' := []) [] (by decide) rfl) rfl hl.1 rfl (Nat.le_of_ble_eq_true rfl) dX2_waits_23 ⟨Nat.le_of_ble_eq_true rfl, Nat.le_of_ble_eq_true rfl⟩) hP hS hA (fun H locs hn13 hP hS => ?_)
    refine lv_if_eq (tgt := 38) hx hb dX2_waits_26 (by decide) (fun c14 => ?_) (fun c14 => ?_)
    · have hf := if_t hf c14
      refine lv_aload_n hx hb dX2_waits_38 rfl (lv_at hl 0 rfl) ?_
      refine lv_iconst (v := 1) hx hb dX2_waits_39 (by decide) ?_
      obtain ⟨v17, S16, hv15, hf⟩ := ob2_some hf
      refine zc_mi0 (z_VD (As := [.int 1]) (rest := []) (q0 := 0) (ci := 2) ⟨hx, hb, hml, hown, hts⟩ (m_X2_fail l D Z a S1 1 S16 v17 hv15) gX2_waits_X2_fail rfl rfl rfl hdv_X2_fail ⟨Nat.le_of_ble_eq_true rfl, Nat.le_of_ble_eq_true rfl⟩ hK hP hD rfl rfl rfl rfl hl.1 rfl (Nat.le_of_ble_eq_true rfl) dX2_waits_40 ⟨Nat.le_of_ble_eq_true rfl, Nat.le_of_ble_eq_true rfl⟩) hD hS hA (fun H locs hP hD hS => ?_)
      exact zw_i hx hb hr hlk hP hD hS (congrArg (fun z => ((mwl Z a z) : va_W)) (pr2 hf)) (pr1 hf) (Nat.le_of_ble_eq_true rfl) (Nat.le_of_ble_eq_true rfl) dX2_waits_43
    · have hf := if_f hf c14
      refine lv_aload_n hx hb dX2_waits_29 rfl (lv_at hl 0 rfl) ?_
      refine lv_iload_n hx hb dX2_waits_30 rfl (lv_at hl 1 rfl) ?_
      refine lv_iload_n hx hb dX2_waits_31 rfl (lv_at hl 2 rfl) ?_
      obtain ⟨v19, hv18, hf⟩ := ob_some hf
      refine zc_i (z_VD (As := [.int p1, .int p2]) (rest := []) (q0 := 0) (ci := 2) ⟨hx, hb, hml, hown, hts⟩ (m_X2_rider l D Z a S1 p1 p2 v19 hv18) gX2_waits_X2_rider rfl rfl rfl hdv_X2_rider ⟨Nat.le_of_ble_eq_true rfl, Nat.le_of_ble_eq_true rfl⟩ hK hP hD rfl rfl rfl rfl hl.1 rfl (Nat.le_of_ble_eq_true rfl) dX2_waits_32 ⟨Nat.le_of_ble_eq_true rfl, Nat.le_of_ble_eq_true rfl⟩) hP hS hA (fun H locs hP hS => ?_)
      refine lv_goto (tgt := 43) hx hb dX2_waits_35 (by decide) ?_
      exact zw_i hx hb hr hlk hP hD hS (congrArg (fun z => ((mwl Z a z) : va_W)) (pr2 hf)) (pr1 hf) (Nat.le_of_ble_eq_true rfl) (Nat.le_of_ble_eq_true rfl) dX2_waits_43
def f_X2_slot  (S : RS) (p1 : Int32) : Option (Int32 × RS) :=
  lt (sI S 0 0) fun (S1 : RS) =>
  ob (f_X2_isIn p1 0 23) fun v3 =>
  if v3 = 0 then
    ob2 (f_X2_fail S1 1) fun v8 S7 =>
    some (v8, S7)
  else
    ob (f_X2_slotAt S1 p1) fun v10 =>
    some (v10, S1)
abbrev rm_X2_slot : Room := { frames := 2, cells := 0, slots := 0, locals := 44 }
theorem hdv_X2_slot : yX2_slot.cls = RX2 ∧ yX2_slot.cls ≠ "java/lang/invoke/MethodHandle" ∧ yX2_slot.cls ≠ "java/lang/invoke/VarHandle" ∧ (parseMethodDescriptor yX2_slot.desc).map (fun d => d.parameters.length) = some 1 := by decide +kernel
set_option maxHeartbeats 4000000 in
set_option maxRecDepth 100000 in
theorem m_X2_slot (l : Launch) (D : va_G) (Z : Nat → ClassId) (a : Nat → Nat) (S : RS) (p1 : Int32) (S' : RS) (r : Int32) (hf : f_X2_slot S p1 = some (r, S')) : RWi l yX2_slot wsX2_slot rm_X2_slot D Z [.ref (a 0), .int p1] (mwl Z a S) (mwl Z a S') r 0 0 := by
  refine RWi.of (cc := cX2_slot) (nL := 2) (ret := (some .int)) (by decide +kernel) rfl (Nat.le_of_ble_eq_true rfl) ?_
  intro p e s m below meth c A hC hA hP hK hD hS ls hl
  obtain ⟨hx, hb, hr, hml, hown, hts, hlk, -⟩ := hC
  have hown : s.vm.findClass RX2 = some m.cls := hown
  have hin : ∀ w ∈ wsX20, w ∈ wsX2_slot := fun w h => List.mem_cons_of_mem _ (List.mem_append_right _ h)
  have hl : lv_has ls 2 [(0, .ref (a 0)), (1, .int p1)] := hl
  unfold f_X2_slot at hf
  refine lv_aload_n hx hb dX2_slot_0 rfl (lv_at hl 0 rfl) ?_
  refine lv_iconst (v := 0) hx hb dX2_slot_1 (by decide) ?_
  refine va_put (D := D) (ci := 2) (v := .int 0) (ty := .int) (C := RX2) (T := TX2) (N := 7) hx hb hts hin tyX2 tyX2_ok nmX2 hown hK hP hD hS 0 rfl rfl 0 (by decide) (hts (.fieldLink RX2 22 "PodGuidewayModel" "thrown" "I") (List.mem_of_getElem? (i := 1) rfl)) (fun _ h9 => h9) rfl (by decide +kernel) rfl rfl (Nat.le_of_ble_eq_true rfl) dX2_slot_2 (fun H locs hP hD hS => ?_)
  obtain ⟨S1, eS1, hf⟩ := lt_ex hf
  have hP : va_P D vwCl (mwl Z a S1) H := by rw [eS1]; exact hP
  have hD : va_D A (mwl Z a S1) := by rw [eS1]; exact hD
  refine lv_iload_n hx hb dX2_slot_5 rfl (lv_at hl 1 rfl) ?_
  refine lv_iconst (v := 0) hx hb dX2_slot_6 (by decide) ?_
  refine lv_bipush (v := 23) hx hb dX2_slot_7 (by decide) ?_
  obtain ⟨v3, hv2, hf⟩ := ob_some hf
  refine zc_z (z_SD (As := [.int p1, .int 0, .int 23]) (rest := []) ⟨hx, hb, hml, hown, hts⟩ (m_X2_isIn l D Z p1 0 23 v3 hv2) gX2_slot_X2_isIn rfl rfl rfl hds_X2_isIn ⟨Nat.le_of_ble_eq_true rfl, Nat.le_of_ble_eq_true rfl⟩ hK (hP.sub (ws' := []) [] rfl) (hD.sub (ws' := []) [] (by decide) rfl) rfl hl.1 rfl (Nat.le_of_ble_eq_true rfl) dX2_slot_9 ⟨Nat.le_of_ble_eq_true rfl, Nat.le_of_ble_eq_true rfl⟩) hP hS hA (fun H locs hn4 hP hS => ?_)
  refine lv_if_eq (tgt := 23) hx hb dX2_slot_12 (by decide) (fun c5 => ?_) (fun c5 => ?_)
  · have hf := if_t hf c5
    refine lv_aload_n hx hb dX2_slot_23 rfl (lv_at hl 0 rfl) ?_
    refine lv_iconst (v := 1) hx hb dX2_slot_24 (by decide) ?_
    obtain ⟨v8, S7, hv6, hf⟩ := ob2_some hf
    refine zc_mi0 (z_VD (As := [.int 1]) (rest := []) (q0 := 0) (ci := 2) ⟨hx, hb, hml, hown, hts⟩ (m_X2_fail l D Z a S1 1 S7 v8 hv6) gX2_slot_X2_fail rfl rfl rfl hdv_X2_fail ⟨Nat.le_of_ble_eq_true rfl, Nat.le_of_ble_eq_true rfl⟩ hK hP hD rfl rfl rfl rfl hl.1 rfl (Nat.le_of_ble_eq_true rfl) dX2_slot_25 ⟨Nat.le_of_ble_eq_true rfl, Nat.le_of_ble_eq_true rfl⟩) hD hS hA (fun H locs hP hD hS => ?_)
    exact zw_i hx hb hr hlk hP hD hS (congrArg (fun z => ((mwl Z a z) : va_W)) (pr2 hf)) (pr1 hf) (Nat.le_of_ble_eq_true rfl) (Nat.le_of_ble_eq_true rfl) dX2_slot_28
  · have hf := if_f hf c5
    refine lv_aload_n hx hb dX2_slot_15 rfl (lv_at hl 0 rfl) ?_
    refine lv_iload_n hx hb dX2_slot_16 rfl (lv_at hl 1 rfl) ?_
    obtain ⟨v10, hv9, hf⟩ := ob_some hf
    refine zc_i (z_VD (As := [.int p1]) (rest := []) (q0 := 0) (ci := 2) ⟨hx, hb, hml, hown, hts⟩ (m_X2_slotAt l D Z a S1 p1 v10 hv9) gX2_slot_X2_slotAt rfl rfl rfl hdv_X2_slotAt ⟨Nat.le_of_ble_eq_true rfl, Nat.le_of_ble_eq_true rfl⟩ hK hP hD rfl rfl rfl rfl hl.1 rfl (Nat.le_of_ble_eq_true rfl) dX2_slot_17 ⟨Nat.le_of_ble_eq_true rfl, Nat.le_of_ble_eq_true rfl⟩) hP hS hA (fun H locs hP hS => ?_)
    refine lv_goto (tgt := 28) hx hb dX2_slot_20 (by decide) ?_
    exact zw_i hx hb hr hlk hP hD hS (congrArg (fun z => ((mwl Z a z) : va_W)) (pr2 hf)) (pr1 hf) (Nat.le_of_ble_eq_true rfl) (Nat.le_of_ble_eq_true rfl) dX2_slot_28
def f_X2_all_L4  (S : RS) : Nat → Int32 → Int32 → Int32 → Option (Int32)
  | 0, _, _, _ => none
  | n + 1, x1, x2, x3 =>
    if (S.1 1) ≤ x3 then
      some x2
    else
      ob (f_X2_stationTold S x3 x1) fun v3 =>
      f_X2_all_L4 S n x1 (x2 + v3) (x3 + 1)
def f_X2_all  (S : RS) (p1 : Int32) : Option (Int32) :=
  f_X2_all_L4 S FU p1 0 0
abbrev rm_X2_all : Room := { frames := 3, cells := 0, slots := 0, locals := 69 }
theorem hdv_X2_all : yX2_all.cls = RX2 ∧ yX2_all.cls ≠ "java/lang/invoke/MethodHandle" ∧ yX2_all.cls ≠ "java/lang/invoke/VarHandle" ∧ (parseMethodDescriptor yX2_all.desc).map (fun d => d.parameters.length) = some 1 := by decide +kernel
set_option maxHeartbeats 4000000 in
set_option maxRecDepth 100000 in
theorem m_X2_all (l : Launch) (D : va_G) (Z : Nat → ClassId) (a : Nat → Nat) (S : RS) (p1 : Int32) (r : Int32) (hf : f_X2_all S p1 = some r) : ROi l yX2_all wsX2_all rm_X2_all D Z [.ref (a 0), .int p1] (mwl Z a S) r := by
  refine ROi.of (cc := cX2_all) (nL := 4) (ret := (some .int)) (by decide +kernel) rfl (Nat.le_of_ble_eq_true rfl) ?_
  intro p e s m below meth c hC hA hP hK hD hS ls hl
  obtain ⟨hx, hb, hr, hml, hown, hts, hlk, -⟩ := hC
  have hown : s.vm.findClass RX2 = some m.cls := hown
  have hin : ∀ w ∈ wsX20, w ∈ wsX2_all := fun w h => List.mem_cons_of_mem _ (List.mem_append_right _ h)
  have hl : lv_has ls 4 [(0, .ref (a 0)), (1, .int p1)] := hl
  have L4 : ∀ (n : Nat) (x1 : Int32) (x2 : Int32) (x3 : Int32) (H : Heap) (locs : List Loc), va_P D vwCl (mwl Z a S) H → va_S (fun q : Nat => s.heap.size ≤ q) s.heap H locs → ∀ ls : Array Slot, lv_has ls 4 [(0, .ref (a 0)), (1, .int x1), (2, .int x2), (3, .int x3)] → f_X2_all_L4 S n x1 x2 x3 = some r → W p l e rm_X2_all s m ([.ref (a 0), .int p1] : List Value).toArray below meth c H locs 0 0 (MQ below (zQi r s.heap.size) ([.ref (a 0), .int p1] : List Value).toArray s 0 0 (fun q => s.heap.size ≤ q)) (F0 m 4 ls []) := by
    intro n
    induction n with
    | zero =>
      intro x1 x2 x3 H locs hP hS ls hl hf
      exact no_r hf
    | succ n ih =>
      intro x1 x2 x3 H locs hP hS ls hl hf
      rw [f_X2_all_L4] at hf
      refine lv_iload_n hx hb dX2_all_4 rfl (lv_at hl 3 rfl) ?_
      refine lv_aload_n hx hb dX2_all_5 rfl (lv_at hl 0 rfl) ?_
      refine va_get (D := D) (ci := 2) (v := .int (S.1 1)) (C := RX2) (T := TX2) (N := 7) hx hb hts hin hown hK hP 0 rfl rfl 1 (by decide) (hts (.fieldLink RX2 26 "PodGuidewayModel" "stations" "I") (List.mem_of_getElem? (i := 1) rfl)) (fun _ h9 => h9) rfl dX2_all_6 ?_
      refine lv_icmp_ge (tgt := 27) hx hb dX2_all_9 (by decide) (fun c1 => ?_) (fun c1 => ?_)
      · have hf := if_t hf c1
        refine lv_iload_n hx hb dX2_all_27 rfl (lv_at hl 2 rfl) ?_
        exact zr_i hx hb hr hlk hS (Option.some.inj hf) dX2_all_28
      · have hf := if_f hf c1
        refine lv_iload_n hx hb dX2_all_12 rfl (lv_at hl 2 rfl) ?_
        refine lv_aload_n hx hb dX2_all_13 rfl (lv_at hl 0 rfl) ?_
        refine lv_iload_n hx hb dX2_all_14 rfl (lv_at hl 3 rfl) ?_
        refine lv_iload_n hx hb dX2_all_15 rfl (lv_at hl 1 rfl) ?_
        obtain ⟨v3, hv2, hf⟩ := ob_some hf
        refine zc_i (z_VD (As := [.int x3, .int x1]) (rest := [.int x2]) (q0 := 0) (ci := 2) ⟨hx, hb, hml, hown, hts⟩ (m_X2_stationTold l D Z a S x3 x1 v3 hv2) gX2_all_X2_stationTold rfl rfl rfl hdv_X2_stationTold ⟨Nat.le_of_ble_eq_true rfl, Nat.le_of_ble_eq_true rfl⟩ hK hP hD rfl rfl rfl rfl hl.1 rfl (Nat.le_of_ble_eq_true rfl) dX2_all_16 ⟨Nat.le_of_ble_eq_true rfl, Nat.le_of_ble_eq_true rfl⟩) hP hS hA (fun H locs hP hS => ?_)
        refine lv_iadd hx hb dX2_all_19 ?_
        refine lv_istore_n (lv' := [(2, .int (x2 + v3)), (0, .ref (a 0)), (1, .int x1), (3, .int x3)]) hx hb dX2_all_20 rfl hl (by decide) rfl (fun ls hl => ?_)
        refine lv_iinc (v := (x3 + 1)) (lv' := [(3, .int (x3 + 1)), (2, .int (x2 + v3)), (0, .ref (a 0)), (1, .int x1)]) hx hb dX2_all_21 hl (k := 3) rfl rfl (by decide) rfl (fun ls hl => ?_)
        refine lv_goto (tgt := 4) hx hb dX2_all_24 (by decide) ?_
        exact ih x1 (x2 + v3) (x3 + 1) _ _ hP hS ls (lv_sub hl [2, 3, 1, 0] rfl) hf
  unfold f_X2_all at hf
  refine lv_iconst (v := 0) hx hb dX2_all_0 (by decide) ?_
  refine lv_istore_n (lv' := [(2, .int 0), (0, .ref (a 0)), (1, .int p1)]) hx hb dX2_all_1 rfl hl (by decide) rfl (fun ls hl => ?_)
  refine lv_iconst (v := 0) hx hb dX2_all_2 (by decide) ?_
  refine lv_istore_n (lv' := [(3, .int 0), (2, .int 0), (0, .ref (a 0)), (1, .int p1)]) hx hb dX2_all_3 rfl hl (by decide) rfl (fun ls hl => ?_)
  exact L4 FU p1 0 0 _ _ hP hS ls (lv_sub hl [2, 3, 1, 0] rfl) hf
def f_X2_counted_L73  (S : RS) : Nat → Int32 → Int32 → Option (Int32)
  | 0, _, _ => none
  | n + 1, x2, x3 =>
    if (S.1 2) ≤ x3 then
      some x2
    else
      ob (f_X2_po S x3 4) fun v10 =>
      if v10 ≤ 0 then
        f_X2_counted_L73 S n (x2 + 0) (x3 + 1)
      else
        f_X2_counted_L73 S n (x2 + 1) (x3 + 1)
def f_X2_counted_L115  (S : RS) : Nat → Int32 → Int32 → Option (Int32)
  | 0, _, _ => none
  | n + 1, x2, x3 =>
    if (S.1 2) ≤ x3 then
      some (24 - x2)
    else
      ob (f_X2_po S x3 0) fun v18 =>
      if v18 = (-1) then
        f_X2_counted_L115 S n (x2 + 0) (x3 + 1)
      else
        f_X2_counted_L115 S n (x2 + 1) (x3 + 1)
def f_X2_counted  (S : RS) (p1 : Int32) : Option (Int32) :=
  if p1 = 0 then
    some (S.2 3 (0 : Int32).toNatClampNeg)
  else if p1 = 1 then
    some (S.1 1)
  else if p1 = 2 then
    some (S.1 2)
  else if p1 = 3 then
    ob (f_X2_all S 3) fun v6 =>
    some v6
  else if p1 = 4 then
    f_X2_counted_L73 S FU 0 0
  else if p1 = 5 then
    ob (f_X2_all S 6) fun v14 =>
    some v14
  else if p1 = 6 then
    f_X2_counted_L115 S FU 0 0
  else if p1 = 7 then
    some (S.2 3 (1 : Int32).toNatClampNeg)
  else 
    some (S.2 3 (2 : Int32).toNatClampNeg)
abbrev rm_X2_counted : Room := { frames := 4, cells := 0, slots := 0, locals := 92 }
theorem hdv_X2_counted : yX2_counted.cls = RX2 ∧ yX2_counted.cls ≠ "java/lang/invoke/MethodHandle" ∧ yX2_counted.cls ≠ "java/lang/invoke/VarHandle" ∧ (parseMethodDescriptor yX2_counted.desc).map (fun d => d.parameters.length) = some 1 := by decide +kernel
set_option maxHeartbeats 4000000 in
set_option maxRecDepth 100000 in
theorem m_X2_counted (l : Launch) (D : va_G) (Z : Nat → ClassId) (a : Nat → Nat) (S : RS) (p1 : Int32) (r : Int32) (hf : f_X2_counted S p1 = some r) : ROi l yX2_counted wsX2_counted rm_X2_counted D Z [.ref (a 0), .int p1] (mwl Z a S) r := by
  refine ROi.of (cc := cX2_counted) (nL := 4) (ret := (some .int)) (by decide +kernel) rfl (Nat.le_of_ble_eq_true rfl) ?_
  intro p e s m below meth c hC hA hP hK hD hS ls hl
  obtain ⟨hx, hb, hr, hml, hown, hts, hlk, -⟩ := hC
  have hown : s.vm.findClass RX2 = some m.cls := hown
  have hin : ∀ w ∈ wsX20, w ∈ wsX2_counted := fun w h => List.mem_cons_of_mem _ (List.mem_append_right _ h)
  have hl : lv_has ls 4 [(0, .ref (a 0)), (1, .int p1)] := hl
  have L73 : ∀ (n : Nat) (x2 : Int32) (x3 : Int32) (H : Heap) (locs : List Loc), va_P D vwCl (mwl Z a S) H → va_S (fun q : Nat => s.heap.size ≤ q) s.heap H locs → ∀ ls : Array Slot, lv_has ls 4 [(0, .ref (a 0)), (2, .int x2), (3, .int x3)] → f_X2_counted_L73 S n x2 x3 = some r → W p l e rm_X2_counted s m ([.ref (a 0), .int p1] : List Value).toArray below meth c H locs 0 0 (MQ below (zQi r s.heap.size) ([.ref (a 0), .int p1] : List Value).toArray s 0 0 (fun q => s.heap.size ≤ q)) (F0 m 73 ls []) := by
    intro n
    induction n with
    | zero =>
      intro x2 x3 H locs hP hS ls hl hf
      exact no_r hf
    | succ n ih =>
      intro x2 x3 H locs hP hS ls hl hf
      rw [f_X2_counted_L73] at hf
      refine lv_iload_n hx hb dX2_counted_73 rfl (lv_at hl 2 rfl) ?_
      refine lv_aload_n hx hb dX2_counted_74 rfl (lv_at hl 0 rfl) ?_
      refine va_get (D := D) (ci := 2) (v := .int (S.1 2)) (C := RX2) (T := TX2) (N := 7) hx hb hts hin hown hK hP 0 rfl rfl 2 (by decide) (hts (.fieldLink RX2 33 "PodGuidewayModel" "pods" "I") (List.mem_of_getElem? (i := 3) rfl)) (fun _ h9 => h9) rfl dX2_counted_75 ?_
      refine lv_icmp_ge (tgt := 104) hx hb dX2_counted_78 (by decide) (fun c8 => ?_) (fun c8 => ?_)
      · have hf := if_t hf c8
        refine lv_iload_n hx hb dX2_counted_104 rfl (lv_at hl 1 rfl) ?_
        exact zr_i hx hb hr hlk hS (Option.some.inj hf) dX2_counted_105
      · have hf := if_f hf c8
        refine lv_iload_n hx hb dX2_counted_81 rfl (lv_at hl 1 rfl) ?_
        refine lv_aload_n hx hb dX2_counted_82 rfl (lv_at hl 0 rfl) ?_
        refine lv_iload_n hx hb dX2_counted_83 rfl (lv_at hl 2 rfl) ?_
        refine lv_iconst (v := 4) hx hb dX2_counted_84 (by decide) ?_
        obtain ⟨v10, hv9, hf⟩ := ob_some hf
        refine zc_i (z_VD (As := [.int x3, .int 4]) (rest := [.int x2]) (q0 := 0) (ci := 2) ⟨hx, hb, hml, hown, hts⟩ (m_X2_po l D Z a S x3 4 v10 hv9) gX2_counted_X2_po rfl rfl rfl hdv_X2_po ⟨Nat.le_of_ble_eq_true rfl, Nat.le_of_ble_eq_true rfl⟩ hK hP hD rfl rfl rfl rfl hl.1 rfl (Nat.le_of_ble_eq_true rfl) dX2_counted_85 ⟨Nat.le_of_ble_eq_true rfl, Nat.le_of_ble_eq_true rfl⟩) hP hS hA (fun H locs hP hS => ?_)
        refine lv_if_le (tgt := 95) hx hb dX2_counted_88 (by decide) (fun c11 => ?_) (fun c11 => ?_)
        · have hf := if_t hf c11
          refine lv_iconst (v := 0) hx hb dX2_counted_95 (by decide) ?_
          refine lv_iadd hx hb dX2_counted_96 ?_
          refine lv_istore_n (lv' := [(2, .int (x2 + 0)), (0, .ref (a 0)), (3, .int x3)]) hx hb dX2_counted_97 rfl hl (by decide) rfl (fun ls hl => ?_)
          refine lv_iinc (v := (x3 + 1)) (lv' := [(3, .int (x3 + 1)), (2, .int (x2 + 0)), (0, .ref (a 0))]) hx hb dX2_counted_98 hl (k := 2) rfl rfl (by decide) rfl (fun ls hl => ?_)
          refine lv_goto (tgt := 73) hx hb dX2_counted_101 (by decide) ?_
          exact ih (x2 + 0) (x3 + 1) _ _ hP hS ls (lv_sub hl [2, 1, 0] rfl) hf
        · have hf := if_f hf c11
          refine lv_iconst (v := 1) hx hb dX2_counted_91 (by decide) ?_
          refine lv_goto (tgt := 96) hx hb dX2_counted_92 (by decide) ?_
          refine lv_iadd hx hb dX2_counted_96 ?_
          refine lv_istore_n (lv' := [(2, .int (x2 + 1)), (0, .ref (a 0)), (3, .int x3)]) hx hb dX2_counted_97 rfl hl (by decide) rfl (fun ls hl => ?_)
          refine lv_iinc (v := (x3 + 1)) (lv' := [(3, .int (x3 + 1)), (2, .int (x2 + 1)), (0, .ref (a 0))]) hx hb dX2_counted_98 hl (k := 2) rfl rfl (by decide) rfl (fun ls hl => ?_)
          refine lv_goto (tgt := 73) hx hb dX2_counted_101 (by decide) ?_
          exact ih (x2 + 1) (x3 + 1) _ _ hP hS ls (lv_sub hl [2, 1, 0] rfl) hf
  have L115 : ∀ (n : Nat) (x2 : Int32) (x3 : Int32) (H : Heap) (locs : List Loc), va_P D vwCl (mwl Z a S) H → va_S (fun q : Nat => s.heap.size ≤ q) s.heap H locs → ∀ ls : Array Slot, lv_has ls 4 [(0, .ref (a 0)), (2, .int x2), (3, .int x3)] → f_X2_counted_L115 S n x2 x3 = some r → W p l e rm_X2_counted s m ([.ref (a 0), .int p1] : List Value).toArray below meth c H locs 0 0 (MQ below (zQi r s.heap.size) ([.ref (a 0), .int p1] : List Value).toArray s 0 0 (fun q => s.heap.size ≤ q)) (F0 m 115 ls []) := by
    intro n
    induction n with
    | zero =>
      intro x2 x3 H locs hP hS ls hl hf
      exact no_r hf
    | succ n ih =>
      intro x2 x3 H locs hP hS ls hl hf
      rw [f_X2_counted_L115] at hf
      refine lv_iload_n hx hb dX2_counted_115 rfl (lv_at hl 2 rfl) ?_
      refine lv_aload_n hx hb dX2_counted_116 rfl (lv_at hl 0 rfl) ?_
      refine va_get (D := D) (ci := 2) (v := .int (S.1 2)) (C := RX2) (T := TX2) (N := 7) hx hb hts hin hown hK hP 0 rfl rfl 2 (by decide) (hts (.fieldLink RX2 33 "PodGuidewayModel" "pods" "I") (List.mem_of_getElem? (i := 3) rfl)) (fun _ h9 => h9) rfl dX2_counted_117 ?_
      refine lv_icmp_ge (tgt := 147) hx hb dX2_counted_120 (by decide) (fun c16 => ?_) (fun c16 => ?_)
      · have hf := if_t hf c16
        refine lv_bipush (v := 24) hx hb dX2_counted_147 (by decide) ?_
        refine lv_iload_n hx hb dX2_counted_149 rfl (lv_at hl 1 rfl) ?_
        refine lv_isub hx hb dX2_counted_150 ?_
        exact zr_i hx hb hr hlk hS (Option.some.inj hf) dX2_counted_151
      · have hf := if_f hf c16
        refine lv_iload_n hx hb dX2_counted_123 rfl (lv_at hl 1 rfl) ?_
        refine lv_aload_n hx hb dX2_counted_124 rfl (lv_at hl 0 rfl) ?_
        refine lv_iload_n hx hb dX2_counted_125 rfl (lv_at hl 2 rfl) ?_
        refine lv_iconst (v := 0) hx hb dX2_counted_126 (by decide) ?_
        obtain ⟨v18, hv17, hf⟩ := ob_some hf
        refine zc_i (z_VD (As := [.int x3, .int 0]) (rest := [.int x2]) (q0 := 0) (ci := 2) ⟨hx, hb, hml, hown, hts⟩ (m_X2_po l D Z a S x3 0 v18 hv17) gX2_counted_X2_po rfl rfl rfl hdv_X2_po ⟨Nat.le_of_ble_eq_true rfl, Nat.le_of_ble_eq_true rfl⟩ hK hP hD rfl rfl rfl rfl hl.1 rfl (Nat.le_of_ble_eq_true rfl) dX2_counted_127 ⟨Nat.le_of_ble_eq_true rfl, Nat.le_of_ble_eq_true rfl⟩) hP hS hA (fun H locs hP hS => ?_)
        refine lv_iconst (v := (-1)) hx hb dX2_counted_130 (by decide) ?_
        refine lv_icmp_ne (tgt := 138) hx hb dX2_counted_131 (by decide) (fun c19 => ?_) (fun c19 => ?_)
        · have hf := if_f hf c19
          refine lv_iconst (v := 1) hx hb dX2_counted_138 (by decide) ?_
          refine lv_iadd hx hb dX2_counted_139 ?_
          refine lv_istore_n (lv' := [(2, .int (x2 + 1)), (0, .ref (a 0)), (3, .int x3)]) hx hb dX2_counted_140 rfl hl (by decide) rfl (fun ls hl => ?_)
          refine lv_iinc (v := (x3 + 1)) (lv' := [(3, .int (x3 + 1)), (2, .int (x2 + 1)), (0, .ref (a 0))]) hx hb dX2_counted_141 hl (k := 2) rfl rfl (by decide) rfl (fun ls hl => ?_)
          refine lv_goto (tgt := 115) hx hb dX2_counted_144 (by decide) ?_
          exact ih (x2 + 1) (x3 + 1) _ _ hP hS ls (lv_sub hl [2, 1, 0] rfl) hf
        · have hf := if_t hf c19
          refine lv_iconst (v := 0) hx hb dX2_counted_134 (by decide) ?_
          refine lv_goto (tgt := 139) hx hb dX2_counted_135 (by decide) ?_
          refine lv_iadd hx hb dX2_counted_139 ?_
          refine lv_istore_n (lv' := [(2, .int (x2 + 0)), (0, .ref (a 0)), (3, .int x3)]) hx hb dX2_counted_140 rfl hl (by decide) rfl (fun ls hl => ?_)
          refine lv_iinc (v := (x3 + 1)) (lv' := [(3, .int (x3 + 1)), (2, .int (x2 + 0)), (0, .ref (a 0))]) hx hb dX2_counted_141 hl (k := 2) rfl rfl (by decide) rfl (fun ls hl => ?_)
          refine lv_goto (tgt := 115) hx hb dX2_counted_144 (by decide) ?_
          exact ih (x2 + 0) (x3 + 1) _ _ hP hS ls (lv_sub hl [2, 1, 0] rfl) hf
  unfold f_X2_counted at hf
  refine lv_iconst (v := 0) hx hb dX2_counted_0 (by decide) ?_
  refine lv_istore_n (lv' := [(2, .int 0), (0, .ref (a 0)), (1, .int p1)]) hx hb dX2_counted_1 rfl hl (by decide) rfl (fun ls hl => ?_)
  refine lv_iload_n hx hb dX2_counted_2 rfl (lv_at hl 2 rfl) ?_
  by_cases c1 : p1 = 0
  · have hf := if_t hf c1
    refine lv_tableIn (tgt := 48) (off := 45) hx hb dX2_counted_3 (by rw [c1]; decide) (by rw [c1]; decide) (by rw [c1]; rfl) (by decide) ?_
    refine lv_aload_n hx hb dX2_counted_48 rfl (lv_at hl 1 rfl) ?_
    refine va_get (D := D) (ci := 2) (v := .ref (a 4)) (C := RX2) (T := TX2) (N := 7) hx hb hts hin hown hK hP 0 rfl rfl 6 (by decide) (hts (.fieldLink RX2 19 "PodGuidewayModel" "numbers" "[I") (List.mem_of_getElem? (i := 1) rfl)) (fun _ h9 => h9) rfl dX2_counted_49 ?_
    refine lv_iconst (v := 0) hx hb dX2_counted_52 (by decide) ?_
    refine va_iald hx hb hK hP 4 0 rfl rfl (vp_in_lit (by decide)) dX2_counted_53 ?_
    exact zr_i hx hb hr hlk hS (Option.some.inj hf) dX2_counted_54
  have hf := if_f hf c1
  by_cases c2 : p1 = 1
  · have hf := if_t hf c2
    refine lv_tableIn (tgt := 55) (off := 52) hx hb dX2_counted_3 (by rw [c2]; decide) (by rw [c2]; decide) (by rw [c2]; rfl) (by decide) ?_
    refine lv_aload_n hx hb dX2_counted_55 rfl (lv_at hl 1 rfl) ?_
    refine va_get (D := D) (ci := 2) (v := .int (S.1 1)) (C := RX2) (T := TX2) (N := 7) hx hb hts hin hown hK hP 0 rfl rfl 1 (by decide) (hts (.fieldLink RX2 26 "PodGuidewayModel" "stations" "I") (List.mem_of_getElem? (i := 2) rfl)) (fun _ h9 => h9) rfl dX2_counted_56 ?_
    exact zr_i hx hb hr hlk hS (Option.some.inj hf) dX2_counted_59
  have hf := if_f hf c2
  by_cases c3 : p1 = 2
  · have hf := if_t hf c3
    refine lv_tableIn (tgt := 60) (off := 57) hx hb dX2_counted_3 (by rw [c3]; decide) (by rw [c3]; decide) (by rw [c3]; rfl) (by decide) ?_
    refine lv_aload_n hx hb dX2_counted_60 rfl (lv_at hl 1 rfl) ?_
    refine va_get (D := D) (ci := 2) (v := .int (S.1 2)) (C := RX2) (T := TX2) (N := 7) hx hb hts hin hown hK hP 0 rfl rfl 2 (by decide) (hts (.fieldLink RX2 33 "PodGuidewayModel" "pods" "I") (List.mem_of_getElem? (i := 3) rfl)) (fun _ h9 => h9) rfl dX2_counted_61 ?_
    exact zr_i hx hb hr hlk hS (Option.some.inj hf) dX2_counted_64
  have hf := if_f hf c3
  by_cases c4 : p1 = 3
  · have hf := if_t hf c4
    refine lv_tableIn (tgt := 65) (off := 62) hx hb dX2_counted_3 (by rw [c4]; decide) (by rw [c4]; decide) (by rw [c4]; rfl) (by decide) ?_
    refine lv_aload_n hx hb dX2_counted_65 rfl (lv_at hl 1 rfl) ?_
    refine lv_iconst (v := 3) hx hb dX2_counted_66 (by decide) ?_
    obtain ⟨v6, hv5, hf⟩ := ob_some hf
    refine zc_i (z_VD (As := [.int 3]) (rest := []) (q0 := 0) (ci := 2) ⟨hx, hb, hml, hown, hts⟩ (m_X2_all l D Z a S 3 v6 hv5) gX2_counted_X2_all rfl rfl rfl hdv_X2_all ⟨Nat.le_of_ble_eq_true rfl, Nat.le_of_ble_eq_true rfl⟩ hK hP hD rfl rfl rfl rfl hl.1 rfl (Nat.le_of_ble_eq_true rfl) dX2_counted_67 ⟨Nat.le_of_ble_eq_true rfl, Nat.le_of_ble_eq_true rfl⟩) hP hS hA (fun H locs hP hS => ?_)
    exact zr_i hx hb hr hlk hS (Option.some.inj hf) dX2_counted_70
  have hf := if_f hf c4
  by_cases c7 : p1 = 4
  · have hf := if_t hf c7
    refine lv_tableIn (tgt := 71) (off := 68) hx hb dX2_counted_3 (by rw [c7]; decide) (by rw [c7]; decide) (by rw [c7]; rfl) (by decide) ?_
    refine lv_iconst (v := 0) hx hb dX2_counted_71 (by decide) ?_
    refine lv_istore_n (lv' := [(3, .int 0), (2, .int 0), (0, .ref (a 0)), (1, .int p1)]) hx hb dX2_counted_72 rfl hl (by decide) rfl (fun ls hl => ?_)
    exact L73 FU 0 0 _ _ hP hS ls (lv_sub hl [2, 1, 0] rfl) hf
  have hf := if_f hf c7
  by_cases c12 : p1 = 5
  · have hf := if_t hf c12
    refine lv_tableIn (tgt := 106) (off := 103) hx hb dX2_counted_3 (by rw [c12]; decide) (by rw [c12]; decide) (by rw [c12]; rfl) (by decide) ?_
    refine lv_aload_n hx hb dX2_counted_106 rfl (lv_at hl 1 rfl) ?_
    refine lv_bipush (v := 6) hx hb dX2_counted_107 (by decide) ?_
    obtain ⟨v14, hv13, hf⟩ := ob_some hf
    refine zc_i (z_VD (As := [.int 6]) (rest := []) (q0 := 0) (ci := 2) ⟨hx, hb, hml, hown, hts⟩ (m_X2_all l D Z a S 6 v14 hv13) gX2_counted_X2_all rfl rfl rfl hdv_X2_all ⟨Nat.le_of_ble_eq_true rfl, Nat.le_of_ble_eq_true rfl⟩ hK hP hD rfl rfl rfl rfl hl.1 rfl (Nat.le_of_ble_eq_true rfl) dX2_counted_109 ⟨Nat.le_of_ble_eq_true rfl, Nat.le_of_ble_eq_true rfl⟩) hP hS hA (fun H locs hP hS => ?_)
    exact zr_i hx hb hr hlk hS (Option.some.inj hf) dX2_counted_112
  have hf := if_f hf c12
  by_cases c15 : p1 = 6
  · have hf := if_t hf c15
    refine lv_tableIn (tgt := 113) (off := 110) hx hb dX2_counted_3 (by rw [c15]; decide) (by rw [c15]; decide) (by rw [c15]; rfl) (by decide) ?_
    refine lv_iconst (v := 0) hx hb dX2_counted_113 (by decide) ?_
    refine lv_istore_n (lv' := [(3, .int 0), (2, .int 0), (0, .ref (a 0)), (1, .int p1)]) hx hb dX2_counted_114 rfl hl (by decide) rfl (fun ls hl => ?_)
    exact L115 FU 0 0 _ _ hP hS ls (lv_sub hl [2, 1, 0] rfl) hf
  have hf := if_f hf c15
  by_cases c20 : p1 = 7
  · have hf := if_t hf c20
    refine lv_tableIn (tgt := 152) (off := 149) hx hb dX2_counted_3 (by rw [c20]; decide) (by rw [c20]; decide) (by rw [c20]; rfl) (by decide) ?_
    refine lv_aload_n hx hb dX2_counted_152 rfl (lv_at hl 1 rfl) ?_
    refine va_get (D := D) (ci := 2) (v := .ref (a 4)) (C := RX2) (T := TX2) (N := 7) hx hb hts hin hown hK hP 0 rfl rfl 6 (by decide) (hts (.fieldLink RX2 19 "PodGuidewayModel" "numbers" "[I") (List.mem_of_getElem? (i := 1) rfl)) (fun _ h9 => h9) rfl dX2_counted_153 ?_
    refine lv_iconst (v := 1) hx hb dX2_counted_156 (by decide) ?_
    refine va_iald hx hb hK hP 4 0 rfl rfl (vp_in_lit (by decide)) dX2_counted_157 ?_
    exact zr_i hx hb hr hlk hS (Option.some.inj hf) dX2_counted_158
  have hf := if_f hf c20
  refine lv_tableOut (tgt := 159) hx hb dX2_counted_3 (sw_out8 c1 c2 c3 c4 c7 c12 c15 c20) (by decide) ?_
  refine lv_aload_n hx hb dX2_counted_159 rfl (lv_at hl 1 rfl) ?_
  refine va_get (D := D) (ci := 2) (v := .ref (a 4)) (C := RX2) (T := TX2) (N := 7) hx hb hts hin hown hK hP 0 rfl rfl 6 (by decide) (hts (.fieldLink RX2 19 "PodGuidewayModel" "numbers" "[I") (List.mem_of_getElem? (i := 1) rfl)) (fun _ h9 => h9) rfl dX2_counted_160 ?_
  refine lv_iconst (v := 2) hx hb dX2_counted_163 (by decide) ?_
  refine va_iald hx hb hK hP 4 0 rfl rfl (vp_in_lit (by decide)) dX2_counted_164 ?_
  exact zr_i hx hb hr hlk hS (Option.some.inj hf) dX2_counted_165
def f_X2_count  (S : RS) (p1 : Int32) : Option (Int32 × RS) :=
  lt (sI S 0 0) fun (S1 : RS) =>
  ob (f_X2_isIn p1 0 8) fun v3 =>
  if v3 = 0 then
    ob2 (f_X2_fail S1 1) fun v8 S7 =>
    some (v8, S7)
  else
    ob (f_X2_counted S1 p1) fun v10 =>
    some (v10, S1)
abbrev rm_X2_count : Room := { frames := 5, cells := 0, slots := 0, locals := 115 }
theorem hdv_X2_count : yX2_count.cls = RX2 ∧ yX2_count.cls ≠ "java/lang/invoke/MethodHandle" ∧ yX2_count.cls ≠ "java/lang/invoke/VarHandle" ∧ (parseMethodDescriptor yX2_count.desc).map (fun d => d.parameters.length) = some 1 := by decide +kernel
set_option maxHeartbeats 4000000 in
set_option maxRecDepth 100000 in
theorem m_X2_count (l : Launch) (D : va_G) (Z : Nat → ClassId) (a : Nat → Nat) (S : RS) (p1 : Int32) (S' : RS) (r : Int32) (hf : f_X2_count S p1 = some (r, S')) : RWi l yX2_count wsX2_count rm_X2_count D Z [.ref (a 0), .int p1] (mwl Z a S) (mwl Z a S') r 0 0 := by
  refine RWi.of (cc := cX2_count) (nL := 2) (ret := (some .int)) (by decide +kernel) rfl (Nat.le_of_ble_eq_true rfl) ?_
  intro p e s m below meth c A hC hA hP hK hD hS ls hl
  obtain ⟨hx, hb, hr, hml, hown, hts, hlk, -⟩ := hC
  have hown : s.vm.findClass RX2 = some m.cls := hown
  have hin : ∀ w ∈ wsX20, w ∈ wsX2_count := fun w h => List.mem_cons_of_mem _ (List.mem_append_right _ h)
  have hl : lv_has ls 2 [(0, .ref (a 0)), (1, .int p1)] := hl
  unfold f_X2_count at hf
  refine lv_aload_n hx hb dX2_count_0 rfl (lv_at hl 0 rfl) ?_
  refine lv_iconst (v := 0) hx hb dX2_count_1 (by decide) ?_
  refine va_put (D := D) (ci := 2) (v := .int 0) (ty := .int) (C := RX2) (T := TX2) (N := 7) hx hb hts hin tyX2 tyX2_ok nmX2 hown hK hP hD hS 0 rfl rfl 0 (by decide) (hts (.fieldLink RX2 22 "PodGuidewayModel" "thrown" "I") (List.mem_of_getElem? (i := 1) rfl)) (fun _ h9 => h9) rfl (by decide +kernel) rfl rfl (Nat.le_of_ble_eq_true rfl) dX2_count_2 (fun H locs hP hD hS => ?_)
  obtain ⟨S1, eS1, hf⟩ := lt_ex hf
  have hP : va_P D vwCl (mwl Z a S1) H := by rw [eS1]; exact hP
  have hD : va_D A (mwl Z a S1) := by rw [eS1]; exact hD
  refine lv_iload_n hx hb dX2_count_5 rfl (lv_at hl 1 rfl) ?_
  refine lv_iconst (v := 0) hx hb dX2_count_6 (by decide) ?_
  refine lv_bipush (v := 8) hx hb dX2_count_7 (by decide) ?_
  obtain ⟨v3, hv2, hf⟩ := ob_some hf
  refine zc_z (z_SD (As := [.int p1, .int 0, .int 8]) (rest := []) ⟨hx, hb, hml, hown, hts⟩ (m_X2_isIn l D Z p1 0 8 v3 hv2) gX2_count_X2_isIn rfl rfl rfl hds_X2_isIn ⟨Nat.le_of_ble_eq_true rfl, Nat.le_of_ble_eq_true rfl⟩ hK (hP.sub (ws' := []) [] rfl) (hD.sub (ws' := []) [] (by decide) rfl) rfl hl.1 rfl (Nat.le_of_ble_eq_true rfl) dX2_count_9 ⟨Nat.le_of_ble_eq_true rfl, Nat.le_of_ble_eq_true rfl⟩) hP hS hA (fun H locs hn4 hP hS => ?_)
  refine lv_if_eq (tgt := 23) hx hb dX2_count_12 (by decide) (fun c5 => ?_) (fun c5 => ?_)
  · have hf := if_t hf c5
    refine lv_aload_n hx hb dX2_count_23 rfl (lv_at hl 0 rfl) ?_
    refine lv_iconst (v := 1) hx hb dX2_count_24 (by decide) ?_
    obtain ⟨v8, S7, hv6, hf⟩ := ob2_some hf
    refine zc_mi0 (z_VD (As := [.int 1]) (rest := []) (q0 := 0) (ci := 2) ⟨hx, hb, hml, hown, hts⟩ (m_X2_fail l D Z a S1 1 S7 v8 hv6) gX2_count_X2_fail rfl rfl rfl hdv_X2_fail ⟨Nat.le_of_ble_eq_true rfl, Nat.le_of_ble_eq_true rfl⟩ hK hP hD rfl rfl rfl rfl hl.1 rfl (Nat.le_of_ble_eq_true rfl) dX2_count_25 ⟨Nat.le_of_ble_eq_true rfl, Nat.le_of_ble_eq_true rfl⟩) hD hS hA (fun H locs hP hD hS => ?_)
    exact zw_i hx hb hr hlk hP hD hS (congrArg (fun z => ((mwl Z a z) : va_W)) (pr2 hf)) (pr1 hf) (Nat.le_of_ble_eq_true rfl) (Nat.le_of_ble_eq_true rfl) dX2_count_28
  · have hf := if_f hf c5
    refine lv_aload_n hx hb dX2_count_15 rfl (lv_at hl 0 rfl) ?_
    refine lv_iload_n hx hb dX2_count_16 rfl (lv_at hl 1 rfl) ?_
    obtain ⟨v10, hv9, hf⟩ := ob_some hf
    refine zc_i (z_VD (As := [.int p1]) (rest := []) (q0 := 0) (ci := 2) ⟨hx, hb, hml, hown, hts⟩ (m_X2_counted l D Z a S1 p1 v10 hv9) gX2_count_X2_counted rfl rfl rfl hdv_X2_counted ⟨Nat.le_of_ble_eq_true rfl, Nat.le_of_ble_eq_true rfl⟩ hK hP hD rfl rfl rfl rfl hl.1 rfl (Nat.le_of_ble_eq_true rfl) dX2_count_17 ⟨Nat.le_of_ble_eq_true rfl, Nat.le_of_ble_eq_true rfl⟩) hP hS hA (fun H locs hP hS => ?_)
    refine lv_goto (tgt := 28) hx hb dX2_count_20 (by decide) ?_
    exact zw_i hx hb hr hlk hP hD hS (congrArg (fun z => ((mwl Z a z) : va_W)) (pr2 hf)) (pr1 hf) (Nat.le_of_ble_eq_true rfl) (Nat.le_of_ble_eq_true rfl) dX2_count_28
def f_X2_off_L100   (x1 : Int32) (x2 : Int32) (x3 : Int32) (S : RS) : Option (RS) :=
  ob (f_X2_put S x2 0 (-1)) fun S19 =>
  ob (f_X2_put S19 x2 1 x1) fun S21 =>
  ob (f_X2_put S21 x2 2 x3) fun S23 =>
  ob (f_X2_put S23 x2 3 (-1)) fun S25 =>
  ob (f_X2_put S25 x2 4 0) fun S27 =>
  ob (f_X2_po S27 x2 6) fun v29 =>
  ob (f_X2_put S27 x2 6 (v29 + 1)) fun S31 =>
  some S31
def f_X2_off_L76   (x1 : Int32) (x2 : Int32) (x3 : Int32) (S : RS) : Option (RS) :=
  ob (f_X2_po S x2 4) fun v16 =>
  if v16 = 2 then
    lt (sR S 3 (upd (S.2 3) (3 : Int32).toNatClampNeg ((S.2 3 (0 : Int32).toNatClampNeg) + 1))) fun (S32 : RS) =>
    f_X2_off_L100 x1 x2 x3 S32
  else
    f_X2_off_L100 x1 x2 x3 S
def f_X2_off  (S : RS) (p1 : Int32) : Option (RS) :=
  ob (f_X2_st S p1 0) fun v2 =>
  ob (f_X2_slotAt S v2) fun v4 =>
  if v4 = (-1) then
    some S
  else
    ob (f_X2_po S v4 3) fun v7 =>
    if v7 = p1 then
      ob (f_X2_free S p1) fun v10 =>
      if v10 = (-1) then
        ob (f_X2_po S v4 5) fun v37 =>
        ob (f_X2_put S v4 5 (v37 + 1)) fun S39 =>
        some S39
      else
        ob (f_X2_po S v4 4) fun v13 =>
        if v13 ≤ 0 then
          f_X2_off_L76 p1 v4 v10 S
        else
          if ((3 * p1) + 2) < 0 ∨ 18 ≤ ((3 * p1) + 2).toNatClampNeg then none else
          if ((3 * p1) + 2) < 0 ∨ 18 ≤ ((3 * p1) + 2).toNatClampNeg then none else
          lt (sR S 1 (upd (S.2 1) ((3 * p1) + 2).toNatClampNeg ((S.2 1 ((3 * p1) + 2).toNatClampNeg) + 1))) fun (S35 : RS) =>
          f_X2_off_L76 p1 v4 v10 S35
    else
      some S
abbrev rm_X2_off : Room := { frames := 3, cells := 0, slots := 0, locals := 67 }
theorem hdv_X2_off : yX2_off.cls = RX2 ∧ yX2_off.cls ≠ "java/lang/invoke/MethodHandle" ∧ yX2_off.cls ≠ "java/lang/invoke/VarHandle" ∧ (parseMethodDescriptor yX2_off.desc).map (fun d => d.parameters.length) = some 1 := by decide +kernel
set_option maxHeartbeats 4000000 in
set_option maxRecDepth 100000 in
theorem m_X2_off (l : Launch) (D : va_G) (Z : Nat → ClassId) (a : Nat → Nat) (S : RS) (p1 : Int32) (S' : RS) (hf : f_X2_off S p1 = some S') : RWv l yX2_off wsX2_off rm_X2_off D Z [.ref (a 0), .int p1] (mwl Z a S) (mwl Z a S') 0 0 := by
  refine RWv.of (cc := cX2_off) (nL := 4) (ret := none) (by decide +kernel) rfl (Nat.le_of_ble_eq_true rfl) ?_
  intro p e s m below meth c A hC hA hP hK hD hS ls hl
  obtain ⟨hx, hb, hr, hml, hown, hts, hlk, -⟩ := hC
  have hown : s.vm.findClass RX2 = some m.cls := hown
  have hin : ∀ w ∈ wsX20, w ∈ wsX2_off := fun w h => List.mem_cons_of_mem _ (List.mem_append_right _ h)
  have hl : lv_has ls 4 [(0, .ref (a 0)), (1, .int p1)] := hl
  have L100 : ∀ (x1 : Int32) (x2 : Int32) (x3 : Int32) (S : RS) (H : Heap) (locs : List Loc), va_P D vwCl (mwl Z a S) H → va_D A (mwl Z a S) → va_S A s.heap H locs → ∀ ls : Array Slot, lv_has ls 4 [(0, .ref (a 0)), (1, .int x1), (2, .int x2), (3, .int x3)] → f_X2_off_L100 x1 x2 x3 S = some S' → W p l e rm_X2_off s m ([.ref (a 0), .int p1] : List Value).toArray below meth c H locs 0 0 (MQ below (zMv D A (mwl Z a S')) ([.ref (a 0), .int p1] : List Value).toArray s 0 0 A) (F0 m 100 ls []) := by
    intro x1 x2 x3 S H locs hP hD hS ls hl hf
    unfold f_X2_off_L100 at hf
    refine lv_aload_n hx hb dX2_off_100 rfl (lv_at hl 0 rfl) ?_
    refine lv_iload_n hx hb dX2_off_101 rfl (lv_at hl 2 rfl) ?_
    refine lv_iconst (v := 0) hx hb dX2_off_102 (by decide) ?_
    refine lv_iconst (v := (-1)) hx hb dX2_off_103 (by decide) ?_
    obtain ⟨S19, hv18, hf⟩ := ob_some hf
    refine zc_mv0 (z_VD (As := [.int x2, .int 0, .int (-1)]) (rest := []) (q0 := 0) (ci := 2) ⟨hx, hb, hml, hown, hts⟩ (m_X2_put l D Z a S x2 0 (-1) S19 hv18) gX2_off_X2_put rfl rfl rfl hdv_X2_put ⟨Nat.le_of_ble_eq_true rfl, Nat.le_of_ble_eq_true rfl⟩ hK hP hD rfl rfl rfl rfl hl.1 rfl (Nat.le_of_ble_eq_true rfl) dX2_off_104 ⟨Nat.le_of_ble_eq_true rfl, Nat.le_of_ble_eq_true rfl⟩) hD hS hA (fun H locs hP hD hS => ?_)
    refine lv_aload_n hx hb dX2_off_107 rfl (lv_at hl 0 rfl) ?_
    refine lv_iload_n hx hb dX2_off_108 rfl (lv_at hl 2 rfl) ?_
    refine lv_iconst (v := 1) hx hb dX2_off_109 (by decide) ?_
    refine lv_iload_n hx hb dX2_off_110 rfl (lv_at hl 1 rfl) ?_
    obtain ⟨S21, hv20, hf⟩ := ob_some hf
    refine zc_mv0 (z_VD (As := [.int x2, .int 1, .int x1]) (rest := []) (q0 := 0) (ci := 2) ⟨hx, hb, hml, hown, hts⟩ (m_X2_put l D Z a S19 x2 1 x1 S21 hv20) gX2_off_X2_put rfl rfl rfl hdv_X2_put ⟨Nat.le_of_ble_eq_true rfl, Nat.le_of_ble_eq_true rfl⟩ hK hP hD rfl rfl rfl rfl hl.1 rfl (Nat.le_of_ble_eq_true rfl) dX2_off_111 ⟨Nat.le_of_ble_eq_true rfl, Nat.le_of_ble_eq_true rfl⟩) hD hS hA (fun H locs hP hD hS => ?_)
    refine lv_aload_n hx hb dX2_off_114 rfl (lv_at hl 0 rfl) ?_
    refine lv_iload_n hx hb dX2_off_115 rfl (lv_at hl 2 rfl) ?_
    refine lv_iconst (v := 2) hx hb dX2_off_116 (by decide) ?_
    refine lv_iload_n hx hb dX2_off_117 rfl (lv_at hl 3 rfl) ?_
    obtain ⟨S23, hv22, hf⟩ := ob_some hf
    refine zc_mv0 (z_VD (As := [.int x2, .int 2, .int x3]) (rest := []) (q0 := 0) (ci := 2) ⟨hx, hb, hml, hown, hts⟩ (m_X2_put l D Z a S21 x2 2 x3 S23 hv22) gX2_off_X2_put rfl rfl rfl hdv_X2_put ⟨Nat.le_of_ble_eq_true rfl, Nat.le_of_ble_eq_true rfl⟩ hK hP hD rfl rfl rfl rfl hl.1 rfl (Nat.le_of_ble_eq_true rfl) dX2_off_118 ⟨Nat.le_of_ble_eq_true rfl, Nat.le_of_ble_eq_true rfl⟩) hD hS hA (fun H locs hP hD hS => ?_)
    refine lv_aload_n hx hb dX2_off_121 rfl (lv_at hl 0 rfl) ?_
    refine lv_iload_n hx hb dX2_off_122 rfl (lv_at hl 2 rfl) ?_
    refine lv_iconst (v := 3) hx hb dX2_off_123 (by decide) ?_
    refine lv_iconst (v := (-1)) hx hb dX2_off_124 (by decide) ?_
    obtain ⟨S25, hv24, hf⟩ := ob_some hf
    refine zc_mv0 (z_VD (As := [.int x2, .int 3, .int (-1)]) (rest := []) (q0 := 0) (ci := 2) ⟨hx, hb, hml, hown, hts⟩ (m_X2_put l D Z a S23 x2 3 (-1) S25 hv24) gX2_off_X2_put rfl rfl rfl hdv_X2_put ⟨Nat.le_of_ble_eq_true rfl, Nat.le_of_ble_eq_true rfl⟩ hK hP hD rfl rfl rfl rfl hl.1 rfl (Nat.le_of_ble_eq_true rfl) dX2_off_125 ⟨Nat.le_of_ble_eq_true rfl, Nat.le_of_ble_eq_true rfl⟩) hD hS hA (fun H locs hP hD hS => ?_)
    refine lv_aload_n hx hb dX2_off_128 rfl (lv_at hl 0 rfl) ?_
    refine lv_iload_n hx hb dX2_off_129 rfl (lv_at hl 2 rfl) ?_
    refine lv_iconst (v := 4) hx hb dX2_off_130 (by decide) ?_
    refine lv_iconst (v := 0) hx hb dX2_off_131 (by decide) ?_
    obtain ⟨S27, hv26, hf⟩ := ob_some hf
    refine zc_mv0 (z_VD (As := [.int x2, .int 4, .int 0]) (rest := []) (q0 := 0) (ci := 2) ⟨hx, hb, hml, hown, hts⟩ (m_X2_put l D Z a S25 x2 4 0 S27 hv26) gX2_off_X2_put rfl rfl rfl hdv_X2_put ⟨Nat.le_of_ble_eq_true rfl, Nat.le_of_ble_eq_true rfl⟩ hK hP hD rfl rfl rfl rfl hl.1 rfl (Nat.le_of_ble_eq_true rfl) dX2_off_132 ⟨Nat.le_of_ble_eq_true rfl, Nat.le_of_ble_eq_true rfl⟩) hD hS hA (fun H locs hP hD hS => ?_)
    refine lv_aload_n hx hb dX2_off_135 rfl (lv_at hl 0 rfl) ?_
    refine lv_iload_n hx hb dX2_off_136 rfl (lv_at hl 2 rfl) ?_
    refine lv_bipush (v := 6) hx hb dX2_off_137 (by decide) ?_
    refine lv_aload_n hx hb dX2_off_139 rfl (lv_at hl 0 rfl) ?_
    refine lv_iload_n hx hb dX2_off_140 rfl (lv_at hl 2 rfl) ?_
    refine lv_bipush (v := 6) hx hb dX2_off_141 (by decide) ?_
    obtain ⟨v29, hv28, hf⟩ := ob_some hf
    refine zc_i (z_VD (As := [.int x2, .int 6]) (rest := [.int 6, .int x2, .ref (a 0)]) (q0 := 0) (ci := 2) ⟨hx, hb, hml, hown, hts⟩ (m_X2_po l D Z a S27 x2 6 v29 hv28) gX2_off_X2_po rfl rfl rfl hdv_X2_po ⟨Nat.le_of_ble_eq_true rfl, Nat.le_of_ble_eq_true rfl⟩ hK hP hD rfl rfl rfl rfl hl.1 rfl (Nat.le_of_ble_eq_true rfl) dX2_off_143 ⟨Nat.le_of_ble_eq_true rfl, Nat.le_of_ble_eq_true rfl⟩) hP hS hA (fun H locs hP hS => ?_)
    refine lv_iconst (v := 1) hx hb dX2_off_146 (by decide) ?_
    refine lv_iadd hx hb dX2_off_147 ?_
    obtain ⟨S31, hv30, hf⟩ := ob_some hf
    refine zc_mv0 (z_VD (As := [.int x2, .int 6, .int (v29 + 1)]) (rest := []) (q0 := 0) (ci := 2) ⟨hx, hb, hml, hown, hts⟩ (m_X2_put l D Z a S27 x2 6 (v29 + 1) S31 hv30) gX2_off_X2_put rfl rfl rfl hdv_X2_put ⟨Nat.le_of_ble_eq_true rfl, Nat.le_of_ble_eq_true rfl⟩ hK hP hD rfl rfl rfl rfl hl.1 rfl (Nat.le_of_ble_eq_true rfl) dX2_off_148 ⟨Nat.le_of_ble_eq_true rfl, Nat.le_of_ble_eq_true rfl⟩) hD hS hA (fun H locs hP hD hS => ?_)
    exact zw_v hx hb hr hlk hP hD hS (congrArg (fun z => ((mwl Z a z) : va_W)) (Option.some.inj hf)) (Nat.le_of_ble_eq_true rfl) (Nat.le_of_ble_eq_true rfl) dX2_off_151
  have L76 : ∀ (x1 : Int32) (x2 : Int32) (x3 : Int32) (S : RS) (H : Heap) (locs : List Loc), va_P D vwCl (mwl Z a S) H → va_D A (mwl Z a S) → va_S A s.heap H locs → ∀ ls : Array Slot, lv_has ls 4 [(0, .ref (a 0)), (1, .int x1), (2, .int x2), (3, .int x3)] → f_X2_off_L76 x1 x2 x3 S = some S' → W p l e rm_X2_off s m ([.ref (a 0), .int p1] : List Value).toArray below meth c H locs 0 0 (MQ below (zMv D A (mwl Z a S')) ([.ref (a 0), .int p1] : List Value).toArray s 0 0 A) (F0 m 76 ls []) := by
    intro x1 x2 x3 S H locs hP hD hS ls hl hf
    unfold f_X2_off_L76 at hf
    refine lv_aload_n hx hb dX2_off_76 rfl (lv_at hl 0 rfl) ?_
    refine lv_iload_n hx hb dX2_off_77 rfl (lv_at hl 2 rfl) ?_
    refine lv_iconst (v := 4) hx hb dX2_off_78 (by decide) ?_
    obtain ⟨v16, hv15, hf⟩ := ob_some hf
    refine zc_i (z_VD (As := [.int x2, .int 4]) (rest := []) (q0 := 0) (ci := 2) ⟨hx, hb, hml, hown, hts⟩ (m_X2_po l D Z a S x2 4 v16 hv15) gX2_off_X2_po rfl rfl rfl hdv_X2_po ⟨Nat.le_of_ble_eq_true rfl, Nat.le_of_ble_eq_true rfl⟩ hK hP hD rfl rfl rfl rfl hl.1 rfl (Nat.le_of_ble_eq_true rfl) dX2_off_79 ⟨Nat.le_of_ble_eq_true rfl, Nat.le_of_ble_eq_true rfl⟩) hP hS hA (fun H locs hP hS => ?_)
    refine lv_iconst (v := 2) hx hb dX2_off_82 (by decide) ?_
    refine lv_icmp_ne (tgt := 100) hx hb dX2_off_83 (by decide) (fun c17 => ?_) (fun c17 => ?_)
    · have hf := if_f hf c17
      exact L100 x1 x2 x3 S _ _ hP hD hS ls (lv_sub hl [0, 1, 2, 3] rfl) hf
    · have hf := if_t hf c17
      refine lv_aload_n hx hb dX2_off_86 rfl (lv_at hl 0 rfl) ?_
      refine va_get (D := D) (ci := 2) (v := .ref (a 4)) (C := RX2) (T := TX2) (N := 7) hx hb hts hin hown hK hP 0 rfl rfl 6 (by decide) (hts (.fieldLink RX2 19 "PodGuidewayModel" "numbers" "[I") (List.mem_of_getElem? (i := 2) rfl)) (fun _ h9 => h9) rfl dX2_off_87 ?_
      refine lv_iconst (v := 3) hx hb dX2_off_90 (by decide) ?_
      refine lv_aload_n hx hb dX2_off_91 rfl (lv_at hl 0 rfl) ?_
      refine va_get (D := D) (ci := 2) (v := .ref (a 4)) (C := RX2) (T := TX2) (N := 7) hx hb hts hin hown hK hP 0 rfl rfl 6 (by decide) (hts (.fieldLink RX2 19 "PodGuidewayModel" "numbers" "[I") (List.mem_of_getElem? (i := 2) rfl)) (fun _ h9 => h9) rfl dX2_off_92 ?_
      refine lv_iconst (v := 0) hx hb dX2_off_95 (by decide) ?_
      refine va_iald hx hb hK hP 4 0 rfl rfl (vp_in_lit (by decide)) dX2_off_96 ?_
      refine lv_iconst (v := 1) hx hb dX2_off_97 (by decide) ?_
      refine lv_iadd hx hb dX2_off_98 ?_
      refine va_iast hx hb hK hP hD hS 4 0 rfl rfl (vp_in_lit (by decide)) dX2_off_99 (fun H locs hP hD hS => ?_)
      obtain ⟨S32, eS32, hf⟩ := lt_ex hf
      have hP : va_P D vwCl (mwl Z a S32) H := by rw [eS32]; exact hP
      have hD : va_D A (mwl Z a S32) := by rw [eS32]; exact hD
      exact L100 x1 x2 x3 S32 _ _ hP hD hS ls (lv_sub hl [0, 1, 2, 3] rfl) hf
  unfold f_X2_off at hf
  refine lv_aload_n hx hb dX2_off_0 rfl (lv_at hl 0 rfl) ?_
  refine lv_aload_n hx hb dX2_off_1 rfl (lv_at hl 0 rfl) ?_
  refine lv_iload_n hx hb dX2_off_2 rfl (lv_at hl 1 rfl) ?_
  refine lv_iconst (v := 0) hx hb dX2_off_3 (by decide) ?_
  obtain ⟨v2, hv1, hf⟩ := ob_some hf
  refine zc_i (z_VD (As := [.int p1, .int 0]) (rest := [.ref (a 0)]) (q0 := 0) (ci := 2) ⟨hx, hb, hml, hown, hts⟩ (m_X2_st l D Z a S p1 0 v2 hv1) gX2_off_X2_st rfl rfl rfl hdv_X2_st ⟨Nat.le_of_ble_eq_true rfl, Nat.le_of_ble_eq_true rfl⟩ hK hP hD rfl rfl rfl rfl hl.1 rfl (Nat.le_of_ble_eq_true rfl) dX2_off_4 ⟨Nat.le_of_ble_eq_true rfl, Nat.le_of_ble_eq_true rfl⟩) hP hS hA (fun H locs hP hS => ?_)
  obtain ⟨v4, hv3, hf⟩ := ob_some hf
  refine zc_i (z_VD (As := [.int v2]) (rest := []) (q0 := 0) (ci := 2) ⟨hx, hb, hml, hown, hts⟩ (m_X2_slotAt l D Z a S v2 v4 hv3) gX2_off_X2_slotAt rfl rfl rfl hdv_X2_slotAt ⟨Nat.le_of_ble_eq_true rfl, Nat.le_of_ble_eq_true rfl⟩ hK hP hD rfl rfl rfl rfl hl.1 rfl (Nat.le_of_ble_eq_true rfl) dX2_off_7 ⟨Nat.le_of_ble_eq_true rfl, Nat.le_of_ble_eq_true rfl⟩) hP hS hA (fun H locs hP hS => ?_)
  refine lv_istore_n (lv' := [(2, .int v4), (0, .ref (a 0)), (1, .int p1)]) hx hb dX2_off_10 rfl hl (by decide) rfl (fun ls hl => ?_)
  refine lv_iload_n hx hb dX2_off_11 rfl (lv_at hl 0 rfl) ?_
  refine lv_iconst (v := (-1)) hx hb dX2_off_12 (by decide) ?_
  refine lv_icmp_eq (tgt := 26) hx hb dX2_off_13 (by decide) (fun c5 => ?_) (fun c5 => ?_)
  · have hf := if_t hf c5
    exact zw_v hx hb hr hlk hP hD hS (congrArg (fun z => ((mwl Z a z) : va_W)) (Option.some.inj hf)) (Nat.le_of_ble_eq_true rfl) (Nat.le_of_ble_eq_true rfl) dX2_off_26
  · have hf := if_f hf c5
    refine lv_aload_n hx hb dX2_off_16 rfl (lv_at hl 1 rfl) ?_
    refine lv_iload_n hx hb dX2_off_17 rfl (lv_at hl 0 rfl) ?_
    refine lv_iconst (v := 3) hx hb dX2_off_18 (by decide) ?_
    obtain ⟨v7, hv6, hf⟩ := ob_some hf
    refine zc_i (z_VD (As := [.int v4, .int 3]) (rest := []) (q0 := 0) (ci := 2) ⟨hx, hb, hml, hown, hts⟩ (m_X2_po l D Z a S v4 3 v7 hv6) gX2_off_X2_po rfl rfl rfl hdv_X2_po ⟨Nat.le_of_ble_eq_true rfl, Nat.le_of_ble_eq_true rfl⟩ hK hP hD rfl rfl rfl rfl hl.1 rfl (Nat.le_of_ble_eq_true rfl) dX2_off_19 ⟨Nat.le_of_ble_eq_true rfl, Nat.le_of_ble_eq_true rfl⟩) hP hS hA (fun H locs hP hS => ?_)
    refine lv_iload_n hx hb dX2_off_22 rfl (lv_at hl 2 rfl) ?_
    refine lv_icmp_eq (tgt := 27) hx hb dX2_off_23 (by decide) (fun c8 => ?_) (fun c8 => ?_)
    · have hf := if_t hf c8
      refine lv_aload_n hx hb dX2_off_27 rfl (lv_at hl 1 rfl) ?_
      refine lv_iload_n hx hb dX2_off_28 rfl (lv_at hl 2 rfl) ?_
      obtain ⟨v10, hv9, hf⟩ := ob_some hf
      refine zc_i (z_VD (As := [.int p1]) (rest := []) (q0 := 0) (ci := 2) ⟨hx, hb, hml, hown, hts⟩ (m_X2_free l D Z a S p1 v10 hv9) gX2_off_X2_free rfl rfl rfl hdv_X2_free ⟨Nat.le_of_ble_eq_true rfl, Nat.le_of_ble_eq_true rfl⟩ hK hP hD rfl rfl rfl rfl hl.1 rfl (Nat.le_of_ble_eq_true rfl) dX2_off_29 ⟨Nat.le_of_ble_eq_true rfl, Nat.le_of_ble_eq_true rfl⟩) hP hS hA (fun H locs hP hS => ?_)
      refine lv_istore_n (lv' := [(3, .int v10), (2, .int v4), (0, .ref (a 0)), (1, .int p1)]) hx hb dX2_off_32 rfl hl (by decide) rfl (fun ls hl => ?_)
      refine lv_iload_n hx hb dX2_off_33 rfl (lv_at hl 0 rfl) ?_
      refine lv_iconst (v := (-1)) hx hb dX2_off_34 (by decide) ?_
      refine lv_icmp_ne (tgt := 53) hx hb dX2_off_35 (by decide) (fun c11 => ?_) (fun c11 => ?_)
      · have hf := if_f hf c11
        refine lv_aload_n hx hb dX2_off_53 rfl (lv_at hl 2 rfl) ?_
        refine lv_iload_n hx hb dX2_off_54 rfl (lv_at hl 1 rfl) ?_
        refine lv_iconst (v := 4) hx hb dX2_off_55 (by decide) ?_
        obtain ⟨v13, hv12, hf⟩ := ob_some hf
        refine zc_i (z_VD (As := [.int v4, .int 4]) (rest := []) (q0 := 0) (ci := 2) ⟨hx, hb, hml, hown, hts⟩ (m_X2_po l D Z a S v4 4 v13 hv12) gX2_off_X2_po rfl rfl rfl hdv_X2_po ⟨Nat.le_of_ble_eq_true rfl, Nat.le_of_ble_eq_true rfl⟩ hK hP hD rfl rfl rfl rfl hl.1 rfl (Nat.le_of_ble_eq_true rfl) dX2_off_56 ⟨Nat.le_of_ble_eq_true rfl, Nat.le_of_ble_eq_true rfl⟩) hP hS hA (fun H locs hP hS => ?_)
        refine lv_if_le (tgt := 76) hx hb dX2_off_59 (by decide) (fun c14 => ?_) (fun c14 => ?_)
        · have hf := if_t hf c14
          exact L76 p1 v4 v10 S _ _ hP hD hS ls (lv_sub hl [2, 3, 1, 0] rfl) hf
        · have hf := if_f hf c14
          refine lv_aload_n hx hb dX2_off_62 rfl (lv_at hl 2 rfl) ?_
          refine va_get (D := D) (ci := 2) (v := .ref (a 2)) (C := RX2) (T := TX2) (N := 7) hx hb hts hin hown hK hP 0 rfl rfl 4 (by decide) (hts (.fieldLink RX2 13 "PodGuidewayModel" "halts" "[I") (List.mem_of_getElem? (i := 1) rfl)) (fun _ h9 => h9) rfl dX2_off_63 ?_
          refine lv_iconst (v := 3) hx hb dX2_off_66 (by decide) ?_
          refine lv_iload_n hx hb dX2_off_67 rfl (lv_at hl 3 rfl) ?_
          refine lv_imul hx hb dX2_off_68 ?_
          refine lv_iconst (v := 2) hx hb dX2_off_69 (by decide) ?_
          refine lv_iadd hx hb dX2_off_70 ?_
          refine lv_dup2_11 hx hb dX2_off_71 rfl rfl ?_
          obtain ⟨hg33, hf⟩ := if_g hf
          refine va_iald hx hb hK hP 2 0 rfl rfl hg33 dX2_off_72 ?_
          refine lv_iconst (v := 1) hx hb dX2_off_73 (by decide) ?_
          refine lv_iadd hx hb dX2_off_74 ?_
          obtain ⟨hg34, hf⟩ := if_g hf
          refine va_iast hx hb hK hP hD hS 2 0 rfl rfl hg34 dX2_off_75 (fun H locs hP hD hS => ?_)
          obtain ⟨S35, eS35, hf⟩ := lt_ex hf
          have hP : va_P D vwCl (mwl Z a S35) H := by rw [eS35]; exact hP
          have hD : va_D A (mwl Z a S35) := by rw [eS35]; exact hD
          exact L76 p1 v4 v10 S35 _ _ hP hD hS ls (lv_sub hl [2, 3, 1, 0] rfl) hf
      · have hf := if_t hf c11
        refine lv_aload_n hx hb dX2_off_38 rfl (lv_at hl 2 rfl) ?_
        refine lv_iload_n hx hb dX2_off_39 rfl (lv_at hl 1 rfl) ?_
        refine lv_iconst (v := 5) hx hb dX2_off_40 (by decide) ?_
        refine lv_aload_n hx hb dX2_off_41 rfl (lv_at hl 2 rfl) ?_
        refine lv_iload_n hx hb dX2_off_42 rfl (lv_at hl 1 rfl) ?_
        refine lv_iconst (v := 5) hx hb dX2_off_43 (by decide) ?_
        obtain ⟨v37, hv36, hf⟩ := ob_some hf
        refine zc_i (z_VD (As := [.int v4, .int 5]) (rest := [.int 5, .int v4, .ref (a 0)]) (q0 := 0) (ci := 2) ⟨hx, hb, hml, hown, hts⟩ (m_X2_po l D Z a S v4 5 v37 hv36) gX2_off_X2_po rfl rfl rfl hdv_X2_po ⟨Nat.le_of_ble_eq_true rfl, Nat.le_of_ble_eq_true rfl⟩ hK hP hD rfl rfl rfl rfl hl.1 rfl (Nat.le_of_ble_eq_true rfl) dX2_off_44 ⟨Nat.le_of_ble_eq_true rfl, Nat.le_of_ble_eq_true rfl⟩) hP hS hA (fun H locs hP hS => ?_)
        refine lv_iconst (v := 1) hx hb dX2_off_47 (by decide) ?_
        refine lv_iadd hx hb dX2_off_48 ?_
        obtain ⟨S39, hv38, hf⟩ := ob_some hf
        refine zc_mv0 (z_VD (As := [.int v4, .int 5, .int (v37 + 1)]) (rest := []) (q0 := 0) (ci := 2) ⟨hx, hb, hml, hown, hts⟩ (m_X2_put l D Z a S v4 5 (v37 + 1) S39 hv38) gX2_off_X2_put rfl rfl rfl hdv_X2_put ⟨Nat.le_of_ble_eq_true rfl, Nat.le_of_ble_eq_true rfl⟩ hK hP hD rfl rfl rfl rfl hl.1 rfl (Nat.le_of_ble_eq_true rfl) dX2_off_49 ⟨Nat.le_of_ble_eq_true rfl, Nat.le_of_ble_eq_true rfl⟩) hD hS hA (fun H locs hP hD hS => ?_)
        exact zw_v hx hb hr hlk hP hD hS (congrArg (fun z => ((mwl Z a z) : va_W)) (Option.some.inj hf)) (Nat.le_of_ble_eq_true rfl) (Nat.le_of_ble_eq_true rfl) dX2_off_52
    · have hf := if_f hf c8
      exact zw_v hx hb hr hlk hP hD hS (congrArg (fun z => ((mwl Z a z) : va_W)) (Option.some.inj hf)) (Nat.le_of_ble_eq_true rfl) (Nat.le_of_ble_eq_true rfl) dX2_off_26
def f_X2_board_L0   : Nat → Int32 → RS → Option (RS)
  | 0, _, _ => none
  | n + 1, x1, S =>
    ob (f_X2_st S x1 1) fun v2 =>
    if v2 ≤ 0 then
      some S
    else
      ob (f_X2_first S x1 1) fun v5 =>
      if v5 = (-1) then
        some S
      else
        ob (f_X2_first S x1 1) fun v8 =>
        ob (f_X2_pe S x1 0 0) fun v10 =>
        ob (f_X2_put S v8 3 v10) fun S12 =>
        ob (f_X2_pe S12 x1 0 2) fun v14 =>
        ob (f_X2_put S12 v8 4 (1 + v14)) fun S16 =>
        ob (f_X2_pe S16 x1 0 1) fun v18 =>
        lt (sR S16 3 (upd (S16.2 3) (2 : Int32).toNatClampNeg ((S16.2 3 (2 : Int32).toNatClampNeg) + v18))) fun (S19 : RS) =>
        ob (f_X2_st S19 x1 1) fun v21 =>
        if ((3 * x1) + 1) < 0 ∨ 18 ≤ ((3 * x1) + 1).toNatClampNeg then none else
        lt (sR S19 1 (upd (S19.2 1) ((3 * x1) + 1).toNatClampNeg (v21 - 1))) fun (S23 : RS) =>
        if cpbad (3 * ((9 * x1) + 1)) (27 * x1) (3 * (v21 - 1)) 162 162 then none else
        lt (sR S23 2 (va_cpy (S23.2 2) (S23.2 2) (3 * ((9 * x1) + 1)).toNatClampNeg (27 * x1).toNatClampNeg (3 * (v21 - 1)).toNatClampNeg)) fun (S24 : RS) =>
        f_X2_board_L0 n x1 S24
def f_X2_board  (S : RS) (p1 : Int32) : Option (RS) :=
  f_X2_board_L0 FU p1 S
abbrev rm_X2_board : Room := { frames := 3, cells := 0, slots := 0, locals := 80 }
theorem hdv_X2_board : yX2_board.cls = RX2 ∧ yX2_board.cls ≠ "java/lang/invoke/MethodHandle" ∧ yX2_board.cls ≠ "java/lang/invoke/VarHandle" ∧ (parseMethodDescriptor yX2_board.desc).map (fun d => d.parameters.length) = some 1 := by decide +kernel
set_option maxHeartbeats 4000000 in
set_option maxRecDepth 100000 in
theorem m_X2_board (l : Launch) (D : va_G) (Z : Nat → ClassId) (a : Nat → Nat) (S : RS) (p1 : Int32) (S' : RS) (hf : f_X2_board S p1 = some S') : RWv l yX2_board wsX2_board rm_X2_board D Z [.ref (a 0), .int p1] (mwl Z a S) (mwl Z a S') 0 0 := by
  refine RWv.of (cc := cX2_board) (nL := 4) (ret := none) (by decide +kernel) rfl (Nat.le_of_ble_eq_true rfl) ?_
  intro p e s m below meth c A hC hA hP hK hD hS ls hl
  obtain ⟨hx, hb, hr, hml, hown, hts, hlk, -⟩ := hC
  have hown : s.vm.findClass RX2 = some m.cls := hown
  have hin : ∀ w ∈ wsX20, w ∈ wsX2_board := fun w h => List.mem_cons_of_mem _ (List.mem_append_right _ h)
  have hl : lv_has ls 4 [(0, .ref (a 0)), (1, .int p1)] := hl
  have L0 : ∀ (n : Nat) (x1 : Int32) (S : RS) (H : Heap) (locs : List Loc), va_P D vwCl (mwl Z a S) H → va_D A (mwl Z a S) → va_S A s.heap H locs → ∀ ls : Array Slot, lv_has ls 4 [(0, .ref (a 0)), (1, .int x1)] → f_X2_board_L0 n x1 S = some S' → W p l e rm_X2_board s m ([.ref (a 0), .int p1] : List Value).toArray below meth c H locs 0 0 (MQ below (zMv D A (mwl Z a S')) ([.ref (a 0), .int p1] : List Value).toArray s 0 0 A) (F0 m 0 ls []) := by
    intro n
    induction n with
    | zero =>
      intro x1 S H locs hP hD hS ls hl hf
      exact no_r hf
    | succ n ih =>
      intro x1 S H locs hP hD hS ls hl hf
      rw [f_X2_board_L0] at hf
      refine lv_aload_n hx hb dX2_board_0 rfl (lv_at hl 0 rfl) ?_
      refine lv_iload_n hx hb dX2_board_1 rfl (lv_at hl 1 rfl) ?_
      refine lv_iconst (v := 1) hx hb dX2_board_2 (by decide) ?_
      obtain ⟨v2, hv1, hf⟩ := ob_some hf
      refine zc_i (z_VD (As := [.int x1, .int 1]) (rest := []) (q0 := 0) (ci := 2) ⟨hx, hb, hml, hown, hts⟩ (m_X2_st l D Z a S x1 1 v2 hv1) gX2_board_X2_st rfl rfl rfl hdv_X2_st ⟨Nat.le_of_ble_eq_true rfl, Nat.le_of_ble_eq_true rfl⟩ hK hP hD rfl rfl rfl rfl hl.1 rfl (Nat.le_of_ble_eq_true rfl) dX2_board_3 ⟨Nat.le_of_ble_eq_true rfl, Nat.le_of_ble_eq_true rfl⟩) hP hS hA (fun H locs hP hS => ?_)
      refine lv_if_le (tgt := 119) hx hb dX2_board_6 (by decide) (fun c3 => ?_) (fun c3 => ?_)
      · have hf := if_t hf c3
        exact zw_v hx hb hr hlk hP hD hS (congrArg (fun z => ((mwl Z a z) : va_W)) (Option.some.inj hf)) (Nat.le_of_ble_eq_true rfl) (Nat.le_of_ble_eq_true rfl) dX2_board_119
      · have hf := if_f hf c3
        refine lv_aload_n hx hb dX2_board_9 rfl (lv_at hl 0 rfl) ?_
        refine lv_iload_n hx hb dX2_board_10 rfl (lv_at hl 1 rfl) ?_
        refine lv_iconst (v := 1) hx hb dX2_board_11 (by decide) ?_
        obtain ⟨v5, hv4, hf⟩ := ob_some hf
        refine zc_i (z_VD (As := [.int x1, .int 1]) (rest := []) (q0 := 0) (ci := 2) ⟨hx, hb, hml, hown, hts⟩ (m_X2_first l D Z a S x1 1 v5 hv4) gX2_board_X2_first rfl rfl rfl hdv_X2_first ⟨Nat.le_of_ble_eq_true rfl, Nat.le_of_ble_eq_true rfl⟩ hK hP hD rfl rfl rfl rfl hl.1 rfl (Nat.le_of_ble_eq_true rfl) dX2_board_12 ⟨Nat.le_of_ble_eq_true rfl, Nat.le_of_ble_eq_true rfl⟩) hP hS hA (fun H locs hP hS => ?_)
        refine lv_iconst (v := (-1)) hx hb dX2_board_15 (by decide) ?_
        refine lv_icmp_eq (tgt := 119) hx hb dX2_board_16 (by decide) (fun c6 => ?_) (fun c6 => ?_)
        · have hf := if_t hf c6
          exact zw_v hx hb hr hlk hP hD hS (congrArg (fun z => ((mwl Z a z) : va_W)) (Option.some.inj hf)) (Nat.le_of_ble_eq_true rfl) (Nat.le_of_ble_eq_true rfl) dX2_board_119
        · have hf := if_f hf c6
          refine lv_aload_n hx hb dX2_board_19 rfl (lv_at hl 0 rfl) ?_
          refine lv_iload_n hx hb dX2_board_20 rfl (lv_at hl 1 rfl) ?_
          refine lv_iconst (v := 1) hx hb dX2_board_21 (by decide) ?_
          obtain ⟨v8, hv7, hf⟩ := ob_some hf
          refine zc_i (z_VD (As := [.int x1, .int 1]) (rest := []) (q0 := 0) (ci := 2) ⟨hx, hb, hml, hown, hts⟩ (m_X2_first l D Z a S x1 1 v8 hv7) gX2_board_X2_first rfl rfl rfl hdv_X2_first ⟨Nat.le_of_ble_eq_true rfl, Nat.le_of_ble_eq_true rfl⟩ hK hP hD rfl rfl rfl rfl hl.1 rfl (Nat.le_of_ble_eq_true rfl) dX2_board_22 ⟨Nat.le_of_ble_eq_true rfl, Nat.le_of_ble_eq_true rfl⟩) hP hS hA (fun H locs hP hS => ?_)
          refine lv_istore_n (lv' := [(2, .int v8), (0, .ref (a 0)), (1, .int x1)]) hx hb dX2_board_25 rfl hl (by decide) rfl (fun ls hl => ?_)
          refine lv_aload_n hx hb dX2_board_26 rfl (lv_at hl 1 rfl) ?_
          refine lv_iload_n hx hb dX2_board_27 rfl (lv_at hl 0 rfl) ?_
          refine lv_iconst (v := 3) hx hb dX2_board_28 (by decide) ?_
          refine lv_aload_n hx hb dX2_board_29 rfl (lv_at hl 1 rfl) ?_
          refine lv_iload_n hx hb dX2_board_30 rfl (lv_at hl 2 rfl) ?_
          refine lv_iconst (v := 0) hx hb dX2_board_31 (by decide) ?_
          refine lv_iconst (v := 0) hx hb dX2_board_32 (by decide) ?_
          obtain ⟨v10, hv9, hf⟩ := ob_some hf
          refine zc_i (z_VD (As := [.int x1, .int 0, .int 0]) (rest := [.int 3, .int v8, .ref (a 0)]) (q0 := 0) (ci := 2) ⟨hx, hb, hml, hown, hts⟩ (m_X2_pe l D Z a S x1 0 0 v10 hv9) gX2_board_X2_pe rfl rfl rfl hdv_X2_pe ⟨Nat.le_of_ble_eq_true rfl, Nat.le_of_ble_eq_true rfl⟩ hK hP hD rfl rfl rfl rfl hl.1 rfl (Nat.le_of_ble_eq_true rfl) dX2_board_33 ⟨Nat.le_of_ble_eq_true rfl, Nat.le_of_ble_eq_true rfl⟩) hP hS hA (fun H locs hP hS => ?_)
          obtain ⟨S12, hv11, hf⟩ := ob_some hf
          refine zc_mv0 (z_VD (As := [.int v8, .int 3, .int v10]) (rest := []) (q0 := 0) (ci := 2) ⟨hx, hb, hml, hown, hts⟩ (m_X2_put l D Z a S v8 3 v10 S12 hv11) gX2_board_X2_put rfl rfl rfl hdv_X2_put ⟨Nat.le_of_ble_eq_true rfl, Nat.le_of_ble_eq_true rfl⟩ hK hP hD rfl rfl rfl rfl hl.1 rfl (Nat.le_of_ble_eq_true rfl) dX2_board_36 ⟨Nat.le_of_ble_eq_true rfl, Nat.le_of_ble_eq_true rfl⟩) hD hS hA (fun H locs hP hD hS => ?_)
          refine lv_aload_n hx hb dX2_board_39 rfl (lv_at hl 1 rfl) ?_
          refine lv_iload_n hx hb dX2_board_40 rfl (lv_at hl 0 rfl) ?_
          refine lv_iconst (v := 4) hx hb dX2_board_41 (by decide) ?_
          refine lv_iconst (v := 1) hx hb dX2_board_42 (by decide) ?_
          refine lv_aload_n hx hb dX2_board_43 rfl (lv_at hl 1 rfl) ?_
          refine lv_iload_n hx hb dX2_board_44 rfl (lv_at hl 2 rfl) ?_
          refine lv_iconst (v := 0) hx hb dX2_board_45 (by decide) ?_
          refine lv_iconst (v := 2) hx hb dX2_board_46 (by decide) ?_
          obtain ⟨v14, hv13, hf⟩ := ob_some hf
          refine zc_i (z_VD (As := [.int x1, .int 0, .int 2]) (rest := [.int 1, .int 4, .int v8, .ref (a 0)]) (q0 := 0) (ci := 2) ⟨hx, hb, hml, hown, hts⟩ (m_X2_pe l D Z a S12 x1 0 2 v14 hv13) gX2_board_X2_pe rfl rfl rfl hdv_X2_pe ⟨Nat.le_of_ble_eq_true rfl, Nat.le_of_ble_eq_true rfl⟩ hK hP hD rfl rfl rfl rfl hl.1 rfl (Nat.le_of_ble_eq_true rfl) dX2_board_47 ⟨Nat.le_of_ble_eq_true rfl, Nat.le_of_ble_eq_true rfl⟩) hP hS hA (fun H locs hP hS => ?_)
          refine lv_iadd hx hb dX2_board_50 ?_
          obtain ⟨S16, hv15, hf⟩ := ob_some hf
          refine zc_mv0 (z_VD (As := [.int v8, .int 4, .int (1 + v14)]) (rest := []) (q0 := 0) (ci := 2) ⟨hx, hb, hml, hown, hts⟩ (m_X2_put l D Z a S12 v8 4 (1 + v14) S16 hv15) gX2_board_X2_put rfl rfl rfl hdv_X2_put ⟨Nat.le_of_ble_eq_true rfl, Nat.le_of_ble_eq_true rfl⟩ hK hP hD rfl rfl rfl rfl hl.1 rfl (Nat.le_of_ble_eq_true rfl) dX2_board_51 ⟨Nat.le_of_ble_eq_true rfl, Nat.le_of_ble_eq_true rfl⟩) hD hS hA (fun H locs hP hD hS => ?_)
          refine lv_aload_n hx hb dX2_board_54 rfl (lv_at hl 1 rfl) ?_
          refine va_get (D := D) (ci := 2) (v := .ref (a 4)) (C := RX2) (T := TX2) (N := 7) hx hb hts hin hown hK hP 0 rfl rfl 6 (by decide) (hts (.fieldLink RX2 19 "PodGuidewayModel" "numbers" "[I") (List.mem_of_getElem? (i := 1) rfl)) (fun _ h9 => h9) rfl dX2_board_55 ?_
          refine lv_iconst (v := 2) hx hb dX2_board_58 (by decide) ?_
          refine lv_dup2_11 hx hb dX2_board_59 rfl rfl ?_
          refine va_iald hx hb hK hP 4 0 rfl rfl (vp_in_lit (by decide)) dX2_board_60 ?_
          refine lv_aload_n hx hb dX2_board_61 rfl (lv_at hl 1 rfl) ?_
          refine lv_iload_n hx hb dX2_board_62 rfl (lv_at hl 2 rfl) ?_
          refine lv_iconst (v := 0) hx hb dX2_board_63 (by decide) ?_
          refine lv_iconst (v := 1) hx hb dX2_board_64 (by decide) ?_
          obtain ⟨v18, hv17, hf⟩ := ob_some hf
          refine zc_i (z_VD (As := [.int x1, .int 0, .int 1]) (rest := [.int (S16.2 3 (2 : Int32).toNatClampNeg), .int 2, .ref (a 4)]) (q0 := 0) (ci := 2) ⟨hx, hb, hml, hown, hts⟩ (m_X2_pe l D Z a S16 x1 0 1 v18 hv17) gX2_board_X2_pe rfl rfl rfl hdv_X2_pe ⟨Nat.le_of_ble_eq_true rfl, Nat.le_of_ble_eq_true rfl⟩ hK hP hD rfl rfl rfl rfl hl.1 rfl (Nat.le_of_ble_eq_true rfl) dX2_board_65 ⟨Nat.le_of_ble_eq_true rfl, Nat.le_of_ble_eq_true rfl⟩) hP hS hA (fun H locs hP hS => ?_)
          refine lv_iadd hx hb dX2_board_68 ?_
          refine va_iast hx hb hK hP hD hS 4 0 rfl rfl (vp_in_lit (by decide)) dX2_board_69 (fun H locs hP hD hS => ?_)
          obtain ⟨S19, eS19, hf⟩ := lt_ex hf
          have hP : va_P D vwCl (mwl Z a S19) H := by rw [eS19]; exact hP
          have hD : va_D A (mwl Z a S19) := by rw [eS19]; exact hD
          refine lv_aload_n hx hb dX2_board_70 rfl (lv_at hl 1 rfl) ?_
          refine lv_iload_n hx hb dX2_board_71 rfl (lv_at hl 2 rfl) ?_
          refine lv_iconst (v := 1) hx hb dX2_board_72 (by decide) ?_
          obtain ⟨v21, hv20, hf⟩ := ob_some hf
          refine zc_i (z_VD (As := [.int x1, .int 1]) (rest := []) (q0 := 0) (ci := 2) ⟨hx, hb, hml, hown, hts⟩ (m_X2_st l D Z a S19 x1 1 v21 hv20) gX2_board_X2_st rfl rfl rfl hdv_X2_st ⟨Nat.le_of_ble_eq_true rfl, Nat.le_of_ble_eq_true rfl⟩ hK hP hD rfl rfl rfl rfl hl.1 rfl (Nat.le_of_ble_eq_true rfl) dX2_board_73 ⟨Nat.le_of_ble_eq_true rfl, Nat.le_of_ble_eq_true rfl⟩) hP hS hA (fun H locs hP hS => ?_)
          refine lv_iconst (v := 1) hx hb dX2_board_76 (by decide) ?_
          refine lv_isub hx hb dX2_board_77 ?_
          refine lv_istore_n (lv' := [(3, .int (v21 - 1)), (2, .int v8), (0, .ref (a 0)), (1, .int x1)]) hx hb dX2_board_78 rfl hl (by decide) rfl (fun ls hl => ?_)
          refine lv_aload_n hx hb dX2_board_79 rfl (lv_at hl 2 rfl) ?_
          refine va_get (D := D) (ci := 2) (v := .ref (a 2)) (C := RX2) (T := TX2) (N := 7) hx hb hts hin hown hK hP 0 rfl rfl 4 (by decide) (hts (.fieldLink RX2 13 "PodGuidewayModel" "halts" "[I") (List.mem_of_getElem? (i := 2) rfl)) (fun _ h9 => h9) rfl dX2_board_80 ?_
          refine lv_iconst (v := 3) hx hb dX2_board_83 (by decide) ?_
          refine lv_iload_n hx hb dX2_board_84 rfl (lv_at hl 3 rfl) ?_
          refine lv_imul hx hb dX2_board_85 ?_
          refine lv_iconst (v := 1) hx hb dX2_board_86 (by decide) ?_
          refine lv_iadd hx hb dX2_board_87 ?_
          refine lv_iload_n hx hb dX2_board_88 rfl (lv_at hl 0 rfl) ?_
          obtain ⟨hg22, hf⟩ := if_g hf
          refine va_iast hx hb hK hP hD hS 2 0 rfl rfl hg22 dX2_board_89 (fun H locs hP hD hS => ?_)
          obtain ⟨S23, eS23, hf⟩ := lt_ex hf
          have hP : va_P D vwCl (mwl Z a S23) H := by rw [eS23]; exact hP
          have hD : va_D A (mwl Z a S23) := by rw [eS23]; exact hD
          refine lv_aload_n hx hb dX2_board_90 rfl (lv_at hl 2 rfl) ?_
          refine va_get (D := D) (ci := 2) (v := .ref (a 3)) (C := RX2) (T := TX2) (N := 7) hx hb hts hin hown hK hP 0 rfl rfl 5 (by decide) (hts (.fieldLink RX2 16 "PodGuidewayModel" "people" "[I") (List.mem_of_getElem? (i := 3) rfl)) (fun _ h9 => h9) rfl dX2_board_91 ?_
          refine lv_iconst (v := 3) hx hb dX2_board_94 (by decide) ?_
          refine lv_bipush (v := 9) hx hb dX2_board_95 (by decide) ?_
          refine lv_iload_n hx hb dX2_board_97 rfl (lv_at hl 3 rfl) ?_
          refine lv_imul hx hb dX2_board_98 ?_
          refine lv_iconst (v := 1) hx hb dX2_board_99 (by decide) ?_
          refine lv_iadd hx hb dX2_board_100 ?_
          refine lv_imul hx hb dX2_board_101 ?_
          refine lv_aload_n hx hb dX2_board_102 rfl (lv_at hl 2 rfl) ?_
          refine va_get (D := D) (ci := 2) (v := .ref (a 3)) (C := RX2) (T := TX2) (N := 7) hx hb hts hin hown hK hP 0 rfl rfl 5 (by decide) (hts (.fieldLink RX2 16 "PodGuidewayModel" "people" "[I") (List.mem_of_getElem? (i := 3) rfl)) (fun _ h9 => h9) rfl dX2_board_103 ?_
          refine lv_bipush (v := 27) hx hb dX2_board_106 (by decide) ?_
          refine lv_iload_n hx hb dX2_board_108 rfl (lv_at hl 3 rfl) ?_
          refine lv_imul hx hb dX2_board_109 ?_
          refine lv_iconst (v := 3) hx hb dX2_board_110 (by decide) ?_
          refine lv_iload_n hx hb dX2_board_111 rfl (lv_at hl 0 rfl) ?_
          refine lv_imul hx hb dX2_board_112 ?_
          obtain ⟨hcp, hf⟩ := if_g hf
          refine va_copyi (sp := (3 * ((9 * x1) + 1))) (dp := (27 * x1)) (n := (3 * (v21 - 1))) hx hb (hml.trans hl.1.symm) hown (hts (.methodLink RX2 57 arraycopyName) (List.mem_of_getElem? (i := 4) rfl)) (hts (.native arraycopyName) (List.mem_of_getElem? (i := 5) rfl)) (hts (.static arraycopyName) (List.mem_of_getElem? (i := 6) rfl)) (hts (.initialized "java/lang/System") (List.mem_of_getElem? (i := 7) rfl)) hK hP hD hS 3 3 0 0 rfl rfl rfl rfl rfl (cp_1 hcp) (cp_2 hcp) (cp_3 hcp) (cp_4 hcp) (cp_5 hcp) (fun _ _ => rfl) (Nat.le_of_ble_eq_true rfl) (by decide) dX2_board_113 (fun H locs hP hD hS => ?_)
          obtain ⟨S24, eS24, hf⟩ := lt_ex hf
          have hP : va_P D vwCl (mwl Z a S24) H := by rw [eS24]; exact hP
          have hD : va_D A (mwl Z a S24) := by rw [eS24]; exact hD
          refine lv_goto (tgt := 0) hx hb dX2_board_116 (by decide) ?_
          exact ih x1 S24 _ _ hP hD hS ls (lv_sub hl [2, 3] rfl) hf
  unfold f_X2_board at hf
  exact L0 FU p1 S _ _ hP hD hS ls (lv_sub hl [0, 1] rfl) hf
def f_X2_answer_L4  (S : RS) : Nat → Int32 → Int32 → Int32 → Option (Int32)
  | 0, _, _, _ => none
  | n + 1, x1, x2, x3 =>
    if (S.1 1) ≤ x3 then
      some x2
    else
      if x3 = x1 then
        f_X2_answer_L4 S n x1 x2 (x3 + 1)
      else
        ob (f_X2_st S x3 1) fun v4 =>
        if v4 = 0 then
          ob (f_X2_first S x3 1) fun v7 =>
          if v7 = (-1) then
            f_X2_answer_L4 S n x1 x2 (x3 + 1)
          else
            if x2 = (-1) then
              f_X2_answer_L4 S n x1 x3 (x3 + 1)
            else
              ob (f_X2_on S x3 x1) fun v11 =>
              ob (f_X2_on S x2 x1) fun v13 =>
              if v13 ≤ v11 then
                f_X2_answer_L4 S n x1 x2 (x3 + 1)
              else
                f_X2_answer_L4 S n x1 x3 (x3 + 1)
        else
          f_X2_answer_L4 S n x1 x2 (x3 + 1)
def f_X2_answer  (S : RS) (p1 : Int32) : Option (Int32) :=
  f_X2_answer_L4 S FU p1 (-1) 0
abbrev rm_X2_answer : Room := { frames := 3, cells := 0, slots := 0, locals := 68 }
theorem hdv_X2_answer : yX2_answer.cls = RX2 ∧ yX2_answer.cls ≠ "java/lang/invoke/MethodHandle" ∧ yX2_answer.cls ≠ "java/lang/invoke/VarHandle" ∧ (parseMethodDescriptor yX2_answer.desc).map (fun d => d.parameters.length) = some 1 := by decide +kernel
set_option maxHeartbeats 4000000 in
set_option maxRecDepth 100000 in
theorem m_X2_answer (l : Launch) (D : va_G) (Z : Nat → ClassId) (a : Nat → Nat) (S : RS) (p1 : Int32) (r : Int32) (hf : f_X2_answer S p1 = some r) : ROi l yX2_answer wsX2_answer rm_X2_answer D Z [.ref (a 0), .int p1] (mwl Z a S) r := by
  refine ROi.of (cc := cX2_answer) (nL := 4) (ret := (some .int)) (by decide +kernel) rfl (Nat.le_of_ble_eq_true rfl) ?_
  intro p e s m below meth c hC hA hP hK hD hS ls hl
  obtain ⟨hx, hb, hr, hml, hown, hts, hlk, -⟩ := hC
  have hown : s.vm.findClass RX2 = some m.cls := hown
  have hin : ∀ w ∈ wsX20, w ∈ wsX2_answer := fun w h => List.mem_cons_of_mem _ (List.mem_append_right _ h)
  have hl : lv_has ls 4 [(0, .ref (a 0)), (1, .int p1)] := hl
  have L4 : ∀ (n : Nat) (x1 : Int32) (x2 : Int32) (x3 : Int32) (H : Heap) (locs : List Loc), va_P D vwCl (mwl Z a S) H → va_S (fun q : Nat => s.heap.size ≤ q) s.heap H locs → ∀ ls : Array Slot, lv_has ls 4 [(0, .ref (a 0)), (1, .int x1), (2, .int x2), (3, .int x3)] → f_X2_answer_L4 S n x1 x2 x3 = some r → W p l e rm_X2_answer s m ([.ref (a 0), .int p1] : List Value).toArray below meth c H locs 0 0 (MQ below (zQi r s.heap.size) ([.ref (a 0), .int p1] : List Value).toArray s 0 0 (fun q => s.heap.size ≤ q)) (F0 m 4 ls []) := by
    intro n
    induction n with
    | zero =>
      intro x1 x2 x3 H locs hP hS ls hl hf
      exact no_r hf
    | succ n ih =>
      intro x1 x2 x3 H locs hP hS ls hl hf
      rw [f_X2_answer_L4] at hf
      refine lv_iload_n hx hb dX2_answer_4 rfl (lv_at hl 3 rfl) ?_
      refine lv_aload_n hx hb dX2_answer_5 rfl (lv_at hl 0 rfl) ?_
      refine va_get (D := D) (ci := 2) (v := .int (S.1 1)) (C := RX2) (T := TX2) (N := 7) hx hb hts hin hown hK hP 0 rfl rfl 1 (by decide) (hts (.fieldLink RX2 26 "PodGuidewayModel" "stations" "I") (List.mem_of_getElem? (i := 1) rfl)) (fun _ h9 => h9) rfl dX2_answer_6 ?_
      refine lv_icmp_ge (tgt := 64) hx hb dX2_answer_9 (by decide) (fun c1 => ?_) (fun c1 => ?_)
      · have hf := if_t hf c1
        refine lv_iload_n hx hb dX2_answer_64 rfl (lv_at hl 2 rfl) ?_
        exact zr_i hx hb hr hlk hS (Option.some.inj hf) dX2_answer_65
      · have hf := if_f hf c1
        refine lv_iload_n hx hb dX2_answer_12 rfl (lv_at hl 3 rfl) ?_
        refine lv_iload_n hx hb dX2_answer_13 rfl (lv_at hl 1 rfl) ?_
        refine lv_icmp_eq (tgt := 58) hx hb dX2_answer_14 (by decide) (fun c2 => ?_) (fun c2 => ?_)
        · have hf := if_t hf c2
          refine lv_iinc (v := (x3 + 1)) (lv' := [(3, .int (x3 + 1)), (0, .ref (a 0)), (1, .int x1), (2, .int x2)]) hx hb dX2_answer_58 hl (k := 3) rfl rfl (by decide) rfl (fun ls hl => ?_)
          refine lv_goto (tgt := 4) hx hb dX2_answer_61 (by decide) ?_
          exact ih x1 x2 (x3 + 1) _ _ hP hS ls (lv_sub hl [1, 2, 3, 0] rfl) hf
        · have hf := if_f hf c2
          refine lv_aload_n hx hb dX2_answer_17 rfl (lv_at hl 0 rfl) ?_
          refine lv_iload_n hx hb dX2_answer_18 rfl (lv_at hl 3 rfl) ?_
          refine lv_iconst (v := 1) hx hb dX2_answer_19 (by decide) ?_
          obtain ⟨v4, hv3, hf⟩ := ob_some hf
          refine zc_i (z_VD (As := [.int x3, .int 1]) (rest := []) (q0 := 0) (ci := 2) ⟨hx, hb, hml, hown, hts⟩ (m_X2_st l D Z a S x3 1 v4 hv3) gX2_answer_X2_st rfl rfl rfl hdv_X2_st ⟨Nat.le_of_ble_eq_true rfl, Nat.le_of_ble_eq_true rfl⟩ hK hP hD rfl rfl rfl rfl hl.1 rfl (Nat.le_of_ble_eq_true rfl) dX2_answer_20 ⟨Nat.le_of_ble_eq_true rfl, Nat.le_of_ble_eq_true rfl⟩) hP hS hA (fun H locs hP hS => ?_)
          refine lv_if_ne (tgt := 58) hx hb dX2_answer_23 (by decide) (fun c5 => ?_) (fun c5 => ?_)
          · have hf := if_f hf c5
            refine lv_iinc (v := (x3 + 1)) (lv' := [(3, .int (x3 + 1)), (0, .ref (a 0)), (1, .int x1), (2, .int x2)]) hx hb dX2_answer_58 hl (k := 3) rfl rfl (by decide) rfl (fun ls hl => ?_)
            refine lv_goto (tgt := 4) hx hb dX2_answer_61 (by decide) ?_
            exact ih x1 x2 (x3 + 1) _ _ hP hS ls (lv_sub hl [1, 2, 3, 0] rfl) hf
          · have hf := if_t hf c5
            refine lv_aload_n hx hb dX2_answer_26 rfl (lv_at hl 0 rfl) ?_
            refine lv_iload_n hx hb dX2_answer_27 rfl (lv_at hl 3 rfl) ?_
            refine lv_iconst (v := 1) hx hb dX2_answer_28 (by decide) ?_
            obtain ⟨v7, hv6, hf⟩ := ob_some hf
            refine zc_i (z_VD (As := [.int x3, .int 1]) (rest := []) (q0 := 0) (ci := 2) ⟨hx, hb, hml, hown, hts⟩ (m_X2_first l D Z a S x3 1 v7 hv6) gX2_answer_X2_first rfl rfl rfl hdv_X2_first ⟨Nat.le_of_ble_eq_true rfl, Nat.le_of_ble_eq_true rfl⟩ hK hP hD rfl rfl rfl rfl hl.1 rfl (Nat.le_of_ble_eq_true rfl) dX2_answer_29 ⟨Nat.le_of_ble_eq_true rfl, Nat.le_of_ble_eq_true rfl⟩) hP hS hA (fun H locs hP hS => ?_)
            refine lv_iconst (v := (-1)) hx hb dX2_answer_32 (by decide) ?_
            refine lv_icmp_eq (tgt := 58) hx hb dX2_answer_33 (by decide) (fun c8 => ?_) (fun c8 => ?_)
            · have hf := if_t hf c8
              refine lv_iinc (v := (x3 + 1)) (lv' := [(3, .int (x3 + 1)), (0, .ref (a 0)), (1, .int x1), (2, .int x2)]) hx hb dX2_answer_58 hl (k := 3) rfl rfl (by decide) rfl (fun ls hl => ?_)
              refine lv_goto (tgt := 4) hx hb dX2_answer_61 (by decide) ?_
              exact ih x1 x2 (x3 + 1) _ _ hP hS ls (lv_sub hl [1, 2, 3, 0] rfl) hf
            · have hf := if_f hf c8
              refine lv_iload_n hx hb dX2_answer_36 rfl (lv_at hl 2 rfl) ?_
              refine lv_iconst (v := (-1)) hx hb dX2_answer_37 (by decide) ?_
              refine lv_icmp_eq (tgt := 56) hx hb dX2_answer_38 (by decide) (fun c9 => ?_) (fun c9 => ?_)
              · have hf := if_t hf c9
                refine lv_iload_n hx hb dX2_answer_56 rfl (lv_at hl 3 rfl) ?_
                refine lv_istore_n (lv' := [(2, .int x3), (0, .ref (a 0)), (1, .int x1), (3, .int x3)]) hx hb dX2_answer_57 rfl hl (by decide) rfl (fun ls hl => ?_)
                refine lv_iinc (v := (x3 + 1)) (lv' := [(3, .int (x3 + 1)), (2, .int x3), (0, .ref (a 0)), (1, .int x1)]) hx hb dX2_answer_58 hl (k := 3) rfl rfl (by decide) rfl (fun ls hl => ?_)
                refine lv_goto (tgt := 4) hx hb dX2_answer_61 (by decide) ?_
                exact ih x1 x3 (x3 + 1) _ _ hP hS ls (lv_sub hl [2, 3, 1, 0] rfl) hf
              · have hf := if_f hf c9
                refine lv_aload_n hx hb dX2_answer_41 rfl (lv_at hl 0 rfl) ?_
                refine lv_iload_n hx hb dX2_answer_42 rfl (lv_at hl 3 rfl) ?_
                refine lv_iload_n hx hb dX2_answer_43 rfl (lv_at hl 1 rfl) ?_
                obtain ⟨v11, hv10, hf⟩ := ob_some hf
                refine zc_i (z_VD (As := [.int x3, .int x1]) (rest := []) (q0 := 0) (ci := 2) ⟨hx, hb, hml, hown, hts⟩ (m_X2_on l D Z a S x3 x1 v11 hv10) gX2_answer_X2_on rfl rfl rfl hdv_X2_on ⟨Nat.le_of_ble_eq_true rfl, Nat.le_of_ble_eq_true rfl⟩ hK hP hD rfl rfl rfl rfl hl.1 rfl (Nat.le_of_ble_eq_true rfl) dX2_answer_44 ⟨Nat.le_of_ble_eq_true rfl, Nat.le_of_ble_eq_true rfl⟩) hP hS hA (fun H locs hP hS => ?_)
                refine lv_aload_n hx hb dX2_answer_47 rfl (lv_at hl 0 rfl) ?_
                refine lv_iload_n hx hb dX2_answer_48 rfl (lv_at hl 2 rfl) ?_
                refine lv_iload_n hx hb dX2_answer_49 rfl (lv_at hl 1 rfl) ?_
                obtain ⟨v13, hv12, hf⟩ := ob_some hf
                refine zc_i (z_VD (As := [.int x2, .int x1]) (rest := [.int v11]) (q0 := 0) (ci := 2) ⟨hx, hb, hml, hown, hts⟩ (m_X2_on l D Z a S x2 x1 v13 hv12) gX2_answer_X2_on rfl rfl rfl hdv_X2_on ⟨Nat.le_of_ble_eq_true rfl, Nat.le_of_ble_eq_true rfl⟩ hK hP hD rfl rfl rfl rfl hl.1 rfl (Nat.le_of_ble_eq_true rfl) dX2_answer_50 ⟨Nat.le_of_ble_eq_true rfl, Nat.le_of_ble_eq_true rfl⟩) hP hS hA (fun H locs hP hS => ?_)
                refine lv_icmp_ge (tgt := 58) hx hb dX2_answer_53 (by decide) (fun c14 => ?_) (fun c14 => ?_)
                · have hf := if_t hf c14
                  refine lv_iinc (v := (x3 + 1)) (lv' := [(3, .int (x3 + 1)), (0, .ref (a 0)), (1, .int x1), (2, .int x2)]) hx hb dX2_answer_58 hl (k := 3) rfl rfl (by decide) rfl (fun ls hl => ?_)
                  refine lv_goto (tgt := 4) hx hb dX2_answer_61 (by decide) ?_
                  exact ih x1 x2 (x3 + 1) _ _ hP hS ls (lv_sub hl [1, 2, 3, 0] rfl) hf
                · have hf := if_f hf c14
                  refine lv_iload_n hx hb dX2_answer_56 rfl (lv_at hl 3 rfl) ?_
                  refine lv_istore_n (lv' := [(2, .int x3), (0, .ref (a 0)), (1, .int x1), (3, .int x3)]) hx hb dX2_answer_57 rfl hl (by decide) rfl (fun ls hl => ?_)
                  refine lv_iinc (v := (x3 + 1)) (lv' := [(3, .int (x3 + 1)), (2, .int x3), (0, .ref (a 0)), (1, .int x1)]) hx hb dX2_answer_58 hl (k := 3) rfl rfl (by decide) rfl (fun ls hl => ?_)
                  refine lv_goto (tgt := 4) hx hb dX2_answer_61 (by decide) ?_
                  exact ih x1 x3 (x3 + 1) _ _ hP hS ls (lv_sub hl [2, 3, 1, 0] rfl) hf
  unfold f_X2_answer at hf
  refine lv_iconst (v := (-1)) hx hb dX2_answer_0 (by decide) ?_
  refine lv_istore_n (lv' := [(2, .int (-1)), (0, .ref (a 0)), (1, .int p1)]) hx hb dX2_answer_1 rfl hl (by decide) rfl (fun ls hl => ?_)
  refine lv_iconst (v := 0) hx hb dX2_answer_2 (by decide) ?_
  refine lv_istore_n (lv' := [(3, .int 0), (2, .int (-1)), (0, .ref (a 0)), (1, .int p1)]) hx hb dX2_answer_3 rfl hl (by decide) rfl (fun ls hl => ?_)
  exact L4 FU p1 (-1) 0 _ _ hP hS ls (lv_sub hl [2, 3, 1, 0] rfl) hf
def f_X2_call  (S : RS) (p1 : Int32) : Option (RS) :=
  ob (f_X2_st S p1 1) fun v2 =>
  ob (f_X2_coming S p1) fun v4 =>
  if v2 ≤ v4 then
    some S
  else
    ob (f_X2_answer S p1) fun v7 =>
    if v7 = (-1) then
      some S
    else
      ob (f_X2_answer S p1) fun v10 =>
      ob (f_X2_first S v10 1) fun v12 =>
      ob (f_X2_put S v12 3 p1) fun S14 =>
      lt (sR S14 3 (upd (S14.2 3) (1 : Int32).toNatClampNeg ((S14.2 3 (1 : Int32).toNatClampNeg) + 1))) fun (S15 : RS) =>
      some S15
abbrev rm_X2_call : Room := { frames := 4, cells := 0, slots := 0, locals := 91 }
theorem hdv_X2_call : yX2_call.cls = RX2 ∧ yX2_call.cls ≠ "java/lang/invoke/MethodHandle" ∧ yX2_call.cls ≠ "java/lang/invoke/VarHandle" ∧ (parseMethodDescriptor yX2_call.desc).map (fun d => d.parameters.length) = some 1 := by decide +kernel
set_option maxHeartbeats 4000000 in
set_option maxRecDepth 100000 in
theorem m_X2_call (l : Launch) (D : va_G) (Z : Nat → ClassId) (a : Nat → Nat) (S : RS) (p1 : Int32) (S' : RS) (hf : f_X2_call S p1 = some S') : RWv l yX2_call wsX2_call rm_X2_call D Z [.ref (a 0), .int p1] (mwl Z a S) (mwl Z a S') 0 0 := by
  refine RWv.of (cc := cX2_call) (nL := 2) (ret := none) (by decide +kernel) rfl (Nat.le_of_ble_eq_true rfl) ?_
  intro p e s m below meth c A hC hA hP hK hD hS ls hl
  obtain ⟨hx, hb, hr, hml, hown, hts, hlk, -⟩ := hC
  have hown : s.vm.findClass RX2 = some m.cls := hown
  have hin : ∀ w ∈ wsX20, w ∈ wsX2_call := fun w h => List.mem_cons_of_mem _ (List.mem_append_right _ h)
  have hl : lv_has ls 2 [(0, .ref (a 0)), (1, .int p1)] := hl
  unfold f_X2_call at hf
  refine lv_aload_n hx hb dX2_call_0 rfl (lv_at hl 0 rfl) ?_
  refine lv_iload_n hx hb dX2_call_1 rfl (lv_at hl 1 rfl) ?_
  refine lv_iconst (v := 1) hx hb dX2_call_2 (by decide) ?_
  obtain ⟨v2, hv1, hf⟩ := ob_some hf
  refine zc_i (z_VD (As := [.int p1, .int 1]) (rest := []) (q0 := 0) (ci := 2) ⟨hx, hb, hml, hown, hts⟩ (m_X2_st l D Z a S p1 1 v2 hv1) gX2_call_X2_st rfl rfl rfl hdv_X2_st ⟨Nat.le_of_ble_eq_true rfl, Nat.le_of_ble_eq_true rfl⟩ hK hP hD rfl rfl rfl rfl hl.1 rfl (Nat.le_of_ble_eq_true rfl) dX2_call_3 ⟨Nat.le_of_ble_eq_true rfl, Nat.le_of_ble_eq_true rfl⟩) hP hS hA (fun H locs hP hS => ?_)
  refine lv_aload_n hx hb dX2_call_6 rfl (lv_at hl 0 rfl) ?_
  refine lv_iload_n hx hb dX2_call_7 rfl (lv_at hl 1 rfl) ?_
  obtain ⟨v4, hv3, hf⟩ := ob_some hf
  refine zc_i (z_VD (As := [.int p1]) (rest := [.int v2]) (q0 := 0) (ci := 2) ⟨hx, hb, hml, hown, hts⟩ (m_X2_coming l D Z a S p1 v4 hv3) gX2_call_X2_coming rfl rfl rfl hdv_X2_coming ⟨Nat.le_of_ble_eq_true rfl, Nat.le_of_ble_eq_true rfl⟩ hK hP hD rfl rfl rfl rfl hl.1 rfl (Nat.le_of_ble_eq_true rfl) dX2_call_8 ⟨Nat.le_of_ble_eq_true rfl, Nat.le_of_ble_eq_true rfl⟩) hP hS hA (fun H locs hP hS => ?_)
  refine lv_icmp_le (tgt := 23) hx hb dX2_call_11 (by decide) (fun c5 => ?_) (fun c5 => ?_)
  · have hf := if_t hf c5
    exact zw_v hx hb hr hlk hP hD hS (congrArg (fun z => ((mwl Z a z) : va_W)) (Option.some.inj hf)) (Nat.le_of_ble_eq_true rfl) (Nat.le_of_ble_eq_true rfl) dX2_call_23
  · have hf := if_f hf c5
    refine lv_aload_n hx hb dX2_call_14 rfl (lv_at hl 0 rfl) ?_
    refine lv_iload_n hx hb dX2_call_15 rfl (lv_at hl 1 rfl) ?_
    obtain ⟨v7, hv6, hf⟩ := ob_some hf
    refine zc_i (z_VD (As := [.int p1]) (rest := []) (q0 := 0) (ci := 2) ⟨hx, hb, hml, hown, hts⟩ (m_X2_answer l D Z a S p1 v7 hv6) gX2_call_X2_answer rfl rfl rfl hdv_X2_answer ⟨Nat.le_of_ble_eq_true rfl, Nat.le_of_ble_eq_true rfl⟩ hK hP hD rfl rfl rfl rfl hl.1 rfl (Nat.le_of_ble_eq_true rfl) dX2_call_16 ⟨Nat.le_of_ble_eq_true rfl, Nat.le_of_ble_eq_true rfl⟩) hP hS hA (fun H locs hP hS => ?_)
    refine lv_iconst (v := (-1)) hx hb dX2_call_19 (by decide) ?_
    refine lv_icmp_ne (tgt := 24) hx hb dX2_call_20 (by decide) (fun c8 => ?_) (fun c8 => ?_)
    · have hf := if_f hf c8
      refine lv_aload_n hx hb dX2_call_24 rfl (lv_at hl 0 rfl) ?_
      refine lv_aload_n hx hb dX2_call_25 rfl (lv_at hl 0 rfl) ?_
      refine lv_aload_n hx hb dX2_call_26 rfl (lv_at hl 0 rfl) ?_
      refine lv_iload_n hx hb dX2_call_27 rfl (lv_at hl 1 rfl) ?_
      obtain ⟨v10, hv9, hf⟩ := ob_some hf
      refine zc_i (z_VD (As := [.int p1]) (rest := [.ref (a 0), .ref (a 0)]) (q0 := 0) (ci := 2) ⟨hx, hb, hml, hown, hts⟩ (m_X2_answer l D Z a S p1 v10 hv9) gX2_call_X2_answer rfl rfl rfl hdv_X2_answer ⟨Nat.le_of_ble_eq_true rfl, Nat.le_of_ble_eq_true rfl⟩ hK hP hD rfl rfl rfl rfl hl.1 rfl (Nat.le_of_ble_eq_true rfl) dX2_call_28 ⟨Nat.le_of_ble_eq_true rfl, Nat.le_of_ble_eq_true rfl⟩) hP hS hA (fun H locs hP hS => ?_)
      refine lv_iconst (v := 1) hx hb dX2_call_31 (by decide) ?_
      obtain ⟨v12, hv11, hf⟩ := ob_some hf
      refine zc_i (z_VD (As := [.int v10, .int 1]) (rest := [.ref (a 0)]) (q0 := 0) (ci := 2) ⟨hx, hb, hml, hown, hts⟩ (m_X2_first l D Z a S v10 1 v12 hv11) gX2_call_X2_first rfl rfl rfl hdv_X2_first ⟨Nat.le_of_ble_eq_true rfl, Nat.le_of_ble_eq_true rfl⟩ hK hP hD rfl rfl rfl rfl hl.1 rfl (Nat.le_of_ble_eq_true rfl) dX2_call_32 ⟨Nat.le_of_ble_eq_true rfl, Nat.le_of_ble_eq_true rfl⟩) hP hS hA (fun H locs hP hS => ?_)
      refine lv_iconst (v := 3) hx hb dX2_call_35 (by decide) ?_
      refine lv_iload_n hx hb dX2_call_36 rfl (lv_at hl 1 rfl) ?_
      obtain ⟨S14, hv13, hf⟩ := ob_some hf
      refine zc_mv0 (z_VD (As := [.int v12, .int 3, .int p1]) (rest := []) (q0 := 0) (ci := 2) ⟨hx, hb, hml, hown, hts⟩ (m_X2_put l D Z a S v12 3 p1 S14 hv13) gX2_call_X2_put rfl rfl rfl hdv_X2_put ⟨Nat.le_of_ble_eq_true rfl, Nat.le_of_ble_eq_true rfl⟩ hK hP hD rfl rfl rfl rfl hl.1 rfl (Nat.le_of_ble_eq_true rfl) dX2_call_37 ⟨Nat.le_of_ble_eq_true rfl, Nat.le_of_ble_eq_true rfl⟩) hD hS hA (fun H locs hP hD hS => ?_)
      refine lv_aload_n hx hb dX2_call_40 rfl (lv_at hl 0 rfl) ?_
      refine va_get (D := D) (ci := 2) (v := .ref (a 4)) (C := RX2) (T := TX2) (N := 7) hx hb hts hin hown hK hP 0 rfl rfl 6 (by decide) (hts (.fieldLink RX2 19 "PodGuidewayModel" "numbers" "[I") (List.mem_of_getElem? (i := 1) rfl)) (fun _ h9 => h9) rfl dX2_call_41 ?_
      refine lv_iconst (v := 1) hx hb dX2_call_44 (by decide) ?_
      refine lv_dup2_11 hx hb dX2_call_45 rfl rfl ?_
      refine va_iald hx hb hK hP 4 0 rfl rfl (vp_in_lit (by decide)) dX2_call_46 ?_
      refine lv_iconst (v := 1) hx hb dX2_call_47 (by decide) ?_
      refine lv_iadd hx hb dX2_call_48 ?_
      refine va_iast hx hb hK hP hD hS 4 0 rfl rfl (vp_in_lit (by decide)) dX2_call_49 (fun H locs hP hD hS => ?_)
      obtain ⟨S15, eS15, hf⟩ := lt_ex hf
      have hP : va_P D vwCl (mwl Z a S15) H := by rw [eS15]; exact hP
      have hD : va_D A (mwl Z a S15) := by rw [eS15]; exact hD
      exact zw_v hx hb hr hlk hP hD hS (congrArg (fun z => ((mwl Z a z) : va_W)) (Option.some.inj hf)) (Nat.le_of_ble_eq_true rfl) (Nat.le_of_ble_eq_true rfl) dX2_call_50
    · have hf := if_t hf c8
      exact zw_v hx hb hr hlk hP hD hS (congrArg (fun z => ((mwl Z a z) : va_W)) (Option.some.inj hf)) (Nat.le_of_ble_eq_true rfl) (Nat.le_of_ble_eq_true rfl) dX2_call_23
def f_X2_merge  (S : RS) (p1 : Int32) : Option (RS) :=
  ob (f_X2_first S p1 0) fun v2 =>
  if v2 = (-1) then
    some S
  else
    ob (f_X2_st S p1 0) fun v5 =>
    ob (f_X2_slotAt S v5) fun v7 =>
    if v7 = (-1) then
      ob (f_X2_st S p1 0) fun v10 =>
      ob (f_X2_put S v2 0 v10) fun S12 =>
      ob (f_X2_put S12 v2 1 (-1)) fun S14 =>
      ob (f_X2_put S14 v2 2 (-1)) fun S16 =>
      some S16
    else
      some S
abbrev rm_X2_merge : Room := { frames := 3, cells := 0, slots := 0, locals := 68 }
theorem hdv_X2_merge : yX2_merge.cls = RX2 ∧ yX2_merge.cls ≠ "java/lang/invoke/MethodHandle" ∧ yX2_merge.cls ≠ "java/lang/invoke/VarHandle" ∧ (parseMethodDescriptor yX2_merge.desc).map (fun d => d.parameters.length) = some 1 := by decide +kernel
set_option maxHeartbeats 4000000 in
set_option maxRecDepth 100000 in
theorem m_X2_merge (l : Launch) (D : va_G) (Z : Nat → ClassId) (a : Nat → Nat) (S : RS) (p1 : Int32) (S' : RS) (hf : f_X2_merge S p1 = some S') : RWv l yX2_merge wsX2_merge rm_X2_merge D Z [.ref (a 0), .int p1] (mwl Z a S) (mwl Z a S') 0 0 := by
  refine RWv.of (cc := cX2_merge) (nL := 3) (ret := none) (by decide +kernel) rfl (Nat.le_of_ble_eq_true rfl) ?_
  intro p e s m below meth c A hC hA hP hK hD hS ls hl
  obtain ⟨hx, hb, hr, hml, hown, hts, hlk, -⟩ := hC
  have hown : s.vm.findClass RX2 = some m.cls := hown
  have hl : lv_has ls 3 [(0, .ref (a 0)), (1, .int p1)] := hl
  unfold f_X2_merge at hf
  refine lv_aload_n hx hb dX2_merge_0 rfl (lv_at hl 0 rfl) ?_
  refine lv_iload_n hx hb dX2_merge_1 rfl (lv_at hl 1 rfl) ?_
  refine lv_iconst (v := 0) hx hb dX2_merge_2 (by decide) ?_
  obtain ⟨v2, hv1, hf⟩ := ob_some hf
  refine zc_i (z_VD (As := [.int p1, .int 0]) (rest := []) (q0 := 0) (ci := 2) ⟨hx, hb, hml, hown, hts⟩ (m_X2_first l D Z a S p1 0 v2 hv1) gX2_merge_X2_first rfl rfl rfl hdv_X2_first ⟨Nat.le_of_ble_eq_true rfl, Nat.le_of_ble_eq_true rfl⟩ hK hP hD rfl rfl rfl rfl hl.1 rfl (Nat.le_of_ble_eq_true rfl) dX2_merge_3 ⟨Nat.le_of_ble_eq_true rfl, Nat.le_of_ble_eq_true rfl⟩) hP hS hA (fun H locs hP hS => ?_)
  refine lv_istore_n (lv' := [(2, .int v2), (0, .ref (a 0)), (1, .int p1)]) hx hb dX2_merge_6 rfl hl (by decide) rfl (fun ls hl => ?_)
  refine lv_iload_n hx hb dX2_merge_7 rfl (lv_at hl 0 rfl) ?_
  refine lv_iconst (v := (-1)) hx hb dX2_merge_8 (by decide) ?_
  refine lv_icmp_eq (tgt := 26) hx hb dX2_merge_9 (by decide) (fun c3 => ?_) (fun c3 => ?_)
  · have hf := if_t hf c3
    exact zw_v hx hb hr hlk hP hD hS (congrArg (fun z => ((mwl Z a z) : va_W)) (Option.some.inj hf)) (Nat.le_of_ble_eq_true rfl) (Nat.le_of_ble_eq_true rfl) dX2_merge_26
  · have hf := if_f hf c3
    refine lv_aload_n hx hb dX2_merge_12 rfl (lv_at hl 1 rfl) ?_
    refine lv_aload_n hx hb dX2_merge_13 rfl (lv_at hl 1 rfl) ?_
    refine lv_iload_n hx hb dX2_merge_14 rfl (lv_at hl 2 rfl) ?_
    refine lv_iconst (v := 0) hx hb dX2_merge_15 (by decide) ?_
    obtain ⟨v5, hv4, hf⟩ := ob_some hf
    refine zc_i (z_VD (As := [.int p1, .int 0]) (rest := [.ref (a 0)]) (q0 := 0) (ci := 2) ⟨hx, hb, hml, hown, hts⟩ (m_X2_st l D Z a S p1 0 v5 hv4) gX2_merge_X2_st rfl rfl rfl hdv_X2_st ⟨Nat.le_of_ble_eq_true rfl, Nat.le_of_ble_eq_true rfl⟩ hK hP hD rfl rfl rfl rfl hl.1 rfl (Nat.le_of_ble_eq_true rfl) dX2_merge_16 ⟨Nat.le_of_ble_eq_true rfl, Nat.le_of_ble_eq_true rfl⟩) hP hS hA (fun H locs hP hS => ?_)
    obtain ⟨v7, hv6, hf⟩ := ob_some hf
    refine zc_i (z_VD (As := [.int v5]) (rest := []) (q0 := 0) (ci := 2) ⟨hx, hb, hml, hown, hts⟩ (m_X2_slotAt l D Z a S v5 v7 hv6) gX2_merge_X2_slotAt rfl rfl rfl hdv_X2_slotAt ⟨Nat.le_of_ble_eq_true rfl, Nat.le_of_ble_eq_true rfl⟩ hK hP hD rfl rfl rfl rfl hl.1 rfl (Nat.le_of_ble_eq_true rfl) dX2_merge_19 ⟨Nat.le_of_ble_eq_true rfl, Nat.le_of_ble_eq_true rfl⟩) hP hS hA (fun H locs hP hS => ?_)
    refine lv_iconst (v := (-1)) hx hb dX2_merge_22 (by decide) ?_
    refine lv_icmp_eq (tgt := 27) hx hb dX2_merge_23 (by decide) (fun c8 => ?_) (fun c8 => ?_)
    · have hf := if_t hf c8
      refine lv_aload_n hx hb dX2_merge_27 rfl (lv_at hl 1 rfl) ?_
      refine lv_iload_n hx hb dX2_merge_28 rfl (lv_at hl 0 rfl) ?_
      refine lv_iconst (v := 0) hx hb dX2_merge_29 (by decide) ?_
      refine lv_aload_n hx hb dX2_merge_30 rfl (lv_at hl 1 rfl) ?_
      refine lv_iload_n hx hb dX2_merge_31 rfl (lv_at hl 2 rfl) ?_
      refine lv_iconst (v := 0) hx hb dX2_merge_32 (by decide) ?_
      obtain ⟨v10, hv9, hf⟩ := ob_some hf
      refine zc_i (z_VD (As := [.int p1, .int 0]) (rest := [.int 0, .int v2, .ref (a 0)]) (q0 := 0) (ci := 2) ⟨hx, hb, hml, hown, hts⟩ (m_X2_st l D Z a S p1 0 v10 hv9) gX2_merge_X2_st rfl rfl rfl hdv_X2_st ⟨Nat.le_of_ble_eq_true rfl, Nat.le_of_ble_eq_true rfl⟩ hK hP hD rfl rfl rfl rfl hl.1 rfl (Nat.le_of_ble_eq_true rfl) dX2_merge_33 ⟨Nat.le_of_ble_eq_true rfl, Nat.le_of_ble_eq_true rfl⟩) hP hS hA (fun H locs hP hS => ?_)
      obtain ⟨S12, hv11, hf⟩ := ob_some hf
      refine zc_mv0 (z_VD (As := [.int v2, .int 0, .int v10]) (rest := []) (q0 := 0) (ci := 2) ⟨hx, hb, hml, hown, hts⟩ (m_X2_put l D Z a S v2 0 v10 S12 hv11) gX2_merge_X2_put rfl rfl rfl hdv_X2_put ⟨Nat.le_of_ble_eq_true rfl, Nat.le_of_ble_eq_true rfl⟩ hK hP hD rfl rfl rfl rfl hl.1 rfl (Nat.le_of_ble_eq_true rfl) dX2_merge_36 ⟨Nat.le_of_ble_eq_true rfl, Nat.le_of_ble_eq_true rfl⟩) hD hS hA (fun H locs hP hD hS => ?_)
      refine lv_aload_n hx hb dX2_merge_39 rfl (lv_at hl 1 rfl) ?_
      refine lv_iload_n hx hb dX2_merge_40 rfl (lv_at hl 0 rfl) ?_
      refine lv_iconst (v := 1) hx hb dX2_merge_41 (by decide) ?_
      refine lv_iconst (v := (-1)) hx hb dX2_merge_42 (by decide) ?_
      obtain ⟨S14, hv13, hf⟩ := ob_some hf
      refine zc_mv0 (z_VD (As := [.int v2, .int 1, .int (-1)]) (rest := []) (q0 := 0) (ci := 2) ⟨hx, hb, hml, hown, hts⟩ (m_X2_put l D Z a S12 v2 1 (-1) S14 hv13) gX2_merge_X2_put rfl rfl rfl hdv_X2_put ⟨Nat.le_of_ble_eq_true rfl, Nat.le_of_ble_eq_true rfl⟩ hK hP hD rfl rfl rfl rfl hl.1 rfl (Nat.le_of_ble_eq_true rfl) dX2_merge_43 ⟨Nat.le_of_ble_eq_true rfl, Nat.le_of_ble_eq_true rfl⟩) hD hS hA (fun H locs hP hD hS => ?_)
      refine lv_aload_n hx hb dX2_merge_46 rfl (lv_at hl 1 rfl) ?_
      refine lv_iload_n hx hb dX2_merge_47 rfl (lv_at hl 0 rfl) ?_
      refine lv_iconst (v := 2) hx hb dX2_merge_48 (by decide) ?_
      refine lv_iconst (v := (-1)) hx hb dX2_merge_49 (by decide) ?_
      obtain ⟨S16, hv15, hf⟩ := ob_some hf
      refine zc_mv0 (z_VD (As := [.int v2, .int 2, .int (-1)]) (rest := []) (q0 := 0) (ci := 2) ⟨hx, hb, hml, hown, hts⟩ (m_X2_put l D Z a S14 v2 2 (-1) S16 hv15) gX2_merge_X2_put rfl rfl rfl hdv_X2_put ⟨Nat.le_of_ble_eq_true rfl, Nat.le_of_ble_eq_true rfl⟩ hK hP hD rfl rfl rfl rfl hl.1 rfl (Nat.le_of_ble_eq_true rfl) dX2_merge_50 ⟨Nat.le_of_ble_eq_true rfl, Nat.le_of_ble_eq_true rfl⟩) hD hS hA (fun H locs hP hD hS => ?_)
      exact zw_v hx hb hr hlk hP hD hS (congrArg (fun z => ((mwl Z a z) : va_W)) (Option.some.inj hf)) (Nat.le_of_ble_eq_true rfl) (Nat.le_of_ble_eq_true rfl) dX2_merge_53
    · have hf := if_f hf c8
      exact zw_v hx hb hr hlk hP hD hS (congrArg (fun z => ((mwl Z a z) : va_W)) (Option.some.inj hf)) (Nat.le_of_ble_eq_true rfl) (Nat.le_of_ble_eq_true rfl) dX2_merge_26
def f_X2_minuteOn_L139 (κ129 : Int32 → RS → Option (RS))  : Nat → Int32 → Int32 → RS → Option (RS)
  | 0, _, _, _ => none
  | n + 1, x1, x2, S =>
    ob (f_X2_st S x1 1) fun v9 =>
    if v9 ≤ x2 then
      κ129 (x1 + 1) S
    else
      if ((3 * ((9 * x1) + x2)) + 1) < 0 ∨ 162 ≤ ((3 * ((9 * x1) + x2)) + 1).toNatClampNeg then none else
      if ((3 * ((9 * x1) + x2)) + 1) < 0 ∨ 162 ≤ ((3 * ((9 * x1) + x2)) + 1).toNatClampNeg then none else
      lt (sR S 2 (upd (S.2 2) ((3 * ((9 * x1) + x2)) + 1).toNatClampNeg ((S.2 2 ((3 * ((9 * x1) + x2)) + 1).toNatClampNeg) + 1))) fun (S13 : RS) =>
      f_X2_minuteOn_L139 κ129 n x1 (x2 + 1) S13
def f_X2_minuteOn_L129   : Nat → Int32 → RS → Option (RS)
  | 0, _, _ => none
  | n + 1, x1, S =>
    if (S.1 1) ≤ x1 then
      lt (sR S 3 (upd (S.2 3) (0 : Int32).toNatClampNeg ((S.2 3 (0 : Int32).toNatClampNeg) + 1))) fun (S7 : RS) =>
      some S7
    else
      f_X2_minuteOn_L139 (fun x1 S => f_X2_minuteOn_L129 n x1 S) FU x1 0 S
def f_X2_minuteOn_L108   : Nat → Int32 → RS → Option (RS)
  | 0, _, _ => none
  | n + 1, x1, S =>
    if (S.1 1) ≤ x1 then
      f_X2_minuteOn_L129 FU 0 S
    else
      ob (f_X2_merge S x1) fun S15 =>
      f_X2_minuteOn_L108 n (x1 + 1) S15
def f_X2_minuteOn_L87   : Nat → Int32 → RS → Option (RS)
  | 0, _, _ => none
  | n + 1, x1, S =>
    if (S.1 1) ≤ x1 then
      f_X2_minuteOn_L108 FU 0 S
    else
      ob (f_X2_call S x1) fun S17 =>
      f_X2_minuteOn_L87 n (x1 + 1) S17
def f_X2_minuteOn_L66   : Nat → Int32 → RS → Option (RS)
  | 0, _, _ => none
  | n + 1, x1, S =>
    if (S.1 1) ≤ x1 then
      f_X2_minuteOn_L87 FU 0 S
    else
      ob (f_X2_board S x1) fun S19 =>
      f_X2_minuteOn_L66 n (x1 + 1) S19
def f_X2_minuteOn_L45   : Nat → Int32 → RS → Option (RS)
  | 0, _, _ => none
  | n + 1, x1, S =>
    if (S.1 1) ≤ x1 then
      f_X2_minuteOn_L66 FU 0 S
    else
      ob (f_X2_off S x1) fun S21 =>
      f_X2_minuteOn_L45 n (x1 + 1) S21
def f_X2_minuteOn_L2   : Nat → Int32 → RS → Option (RS)
  | 0, _, _ => none
  | n + 1, x1, S =>
    if (S.1 2) ≤ x1 then
      f_X2_minuteOn_L45 FU 0 S
    else
      ob (f_X2_po S x1 0) fun v23 =>
      if v23 = (-1) then
        f_X2_minuteOn_L2 n (x1 + 1) S
      else
        ob (f_X2_po S x1 0) fun v26 =>
        ob (f_X2_put S x1 0 ((v26 + 1) - (v26 + 1) / 24 * 24)) fun S28 =>
        f_X2_minuteOn_L2 n (x1 + 1) S28
def f_X2_minuteOn  (S : RS)  : Option (RS) :=
  f_X2_minuteOn_L2 FU 0 S
abbrev rm_X2_minuteOn : Room := { frames := 5, cells := 0, slots := 0, locals := 112 }
theorem hdv_X2_minuteOn : yX2_minuteOn.cls = RX2 ∧ yX2_minuteOn.cls ≠ "java/lang/invoke/MethodHandle" ∧ yX2_minuteOn.cls ≠ "java/lang/invoke/VarHandle" ∧ (parseMethodDescriptor yX2_minuteOn.desc).map (fun d => d.parameters.length) = some 0 := by decide +kernel
set_option maxHeartbeats 4000000 in
set_option maxRecDepth 100000 in
theorem m_X2_minuteOn (l : Launch) (D : va_G) (Z : Nat → ClassId) (a : Nat → Nat) (S : RS)  (S' : RS) (hf : f_X2_minuteOn S = some S') : RWv l yX2_minuteOn wsX2_minuteOn rm_X2_minuteOn D Z [.ref (a 0)] (mwl Z a S) (mwl Z a S') 0 0 := by
  refine RWv.of (cc := cX2_minuteOn) (nL := 3) (ret := none) (by decide +kernel) rfl (Nat.le_of_ble_eq_true rfl) ?_
  intro p e s m below meth c A hC hA hP hK hD hS ls hl
  obtain ⟨hx, hb, hr, hml, hown, hts, hlk, -⟩ := hC
  have hown : s.vm.findClass RX2 = some m.cls := hown
  have hin : ∀ w ∈ wsX20, w ∈ wsX2_minuteOn := fun w h => List.mem_cons_of_mem _ (List.mem_append_right _ h)
  have hl : lv_has ls 3 [(0, .ref (a 0))] := hl
  have L139 : ∀ (κ129 : Int32 → RS → Option (RS)), (∀ (x1 : Int32) (S : RS) (H : Heap) (locs : List Loc), va_P D vwCl (mwl Z a S) H → va_D A (mwl Z a S) → va_S A s.heap H locs → ∀ ls : Array Slot, lv_has ls 3 [(0, .ref (a 0)), (1, .int x1)] → κ129 x1 S = some S' → W p l e rm_X2_minuteOn s m ([.ref (a 0)] : List Value).toArray below meth c H locs 0 0 (MQ below (zMv D A (mwl Z a S')) ([.ref (a 0)] : List Value).toArray s 0 0 A) (F0 m 129 ls [])) → ∀ (n : Nat) (x1 : Int32) (x2 : Int32) (S : RS) (H : Heap) (locs : List Loc), va_P D vwCl (mwl Z a S) H → va_D A (mwl Z a S) → va_S A s.heap H locs → ∀ ls : Array Slot, lv_has ls 3 [(0, .ref (a 0)), (1, .int x1), (2, .int x2)] → f_X2_minuteOn_L139 κ129 n x1 x2 S = some S' → W p l e rm_X2_minuteOn s m ([.ref (a 0)] : List Value).toArray below meth c H locs 0 0 (MQ below (zMv D A (mwl Z a S')) ([.ref (a 0)] : List Value).toArray s 0 0 A) (F0 m 139 ls []) := by
    intro κ129 hκ129 n
    induction n with
    | zero =>
      intro x1 x2 S H locs hP hD hS ls hl hf
      exact no_r hf
    | succ n ih =>
      intro x1 x2 S H locs hP hD hS ls hl hf
      rw [f_X2_minuteOn_L139] at hf
      refine lv_iload_n hx hb dX2_minuteOn_139 rfl (lv_at hl 2 rfl) ?_
      refine lv_aload_n hx hb dX2_minuteOn_140 rfl (lv_at hl 0 rfl) ?_
      refine lv_iload_n hx hb dX2_minuteOn_141 rfl (lv_at hl 1 rfl) ?_
      refine lv_iconst (v := 1) hx hb dX2_minuteOn_142 (by decide) ?_
      obtain ⟨v9, hv8, hf⟩ := ob_some hf
      refine zc_i (z_VD (As := [.int x1, .int 1]) (rest := [.int x2]) (q0 := 0) (ci := 2) ⟨hx, hb, hml, hown, hts⟩ (m_X2_st l D Z a S x1 1 v9 hv8) gX2_minuteOn_X2_st rfl rfl rfl hdv_X2_st ⟨Nat.le_of_ble_eq_true rfl, Nat.le_of_ble_eq_true rfl⟩ hK hP hD rfl rfl rfl rfl hl.1 rfl (Nat.le_of_ble_eq_true rfl) dX2_minuteOn_143 ⟨Nat.le_of_ble_eq_true rfl, Nat.le_of_ble_eq_true rfl⟩) hP hS hA (fun H locs hP hS => ?_)
      refine lv_icmp_ge (tgt := 174) hx hb dX2_minuteOn_146 (by decide) (fun c10 => ?_) (fun c10 => ?_)
      · have hf := if_t hf c10
        refine lv_iinc (v := (x1 + 1)) (lv' := [(1, .int (x1 + 1)), (0, .ref (a 0)), (2, .int x2)]) hx hb dX2_minuteOn_174 hl (k := 1) rfl rfl (by decide) rfl (fun ls hl => ?_)
        refine lv_goto (tgt := 129) hx hb dX2_minuteOn_177 (by decide) ?_
        exact hκ129 (x1 + 1) S _ _ hP hD hS ls (lv_sub hl [1, 0] rfl) hf
      · have hf := if_f hf c10
        refine lv_aload_n hx hb dX2_minuteOn_149 rfl (lv_at hl 0 rfl) ?_
        refine va_get (D := D) (ci := 2) (v := .ref (a 3)) (C := RX2) (T := TX2) (N := 7) hx hb hts hin hown hK hP 0 rfl rfl 5 (by decide) (hts (.fieldLink RX2 16 "PodGuidewayModel" "people" "[I") (List.mem_of_getElem? (i := 3) rfl)) (fun _ h9 => h9) rfl dX2_minuteOn_150 ?_
        refine lv_iconst (v := 3) hx hb dX2_minuteOn_153 (by decide) ?_
        refine lv_bipush (v := 9) hx hb dX2_minuteOn_154 (by decide) ?_
        refine lv_iload_n hx hb dX2_minuteOn_156 rfl (lv_at hl 1 rfl) ?_
        refine lv_imul hx hb dX2_minuteOn_157 ?_
        refine lv_iload_n hx hb dX2_minuteOn_158 rfl (lv_at hl 2 rfl) ?_
        refine lv_iadd hx hb dX2_minuteOn_159 ?_
        refine lv_imul hx hb dX2_minuteOn_160 ?_
        refine lv_iconst (v := 1) hx hb dX2_minuteOn_161 (by decide) ?_
        refine lv_iadd hx hb dX2_minuteOn_162 ?_
        refine lv_dup2_11 hx hb dX2_minuteOn_163 rfl rfl ?_
        obtain ⟨hg11, hf⟩ := if_g hf
        refine va_iald hx hb hK hP 3 0 rfl rfl hg11 dX2_minuteOn_164 ?_
        refine lv_iconst (v := 1) hx hb dX2_minuteOn_165 (by decide) ?_
        refine lv_iadd hx hb dX2_minuteOn_166 ?_
        obtain ⟨hg12, hf⟩ := if_g hf
        refine va_iast hx hb hK hP hD hS 3 0 rfl rfl hg12 dX2_minuteOn_167 (fun H locs hP hD hS => ?_)
        obtain ⟨S13, eS13, hf⟩ := lt_ex hf
        have hP : va_P D vwCl (mwl Z a S13) H := by rw [eS13]; exact hP
        have hD : va_D A (mwl Z a S13) := by rw [eS13]; exact hD
        refine lv_iinc (v := (x2 + 1)) (lv' := [(2, .int (x2 + 1)), (0, .ref (a 0)), (1, .int x1)]) hx hb dX2_minuteOn_168 hl (k := 2) rfl rfl (by decide) rfl (fun ls hl => ?_)
        refine lv_goto (tgt := 139) hx hb dX2_minuteOn_171 (by decide) ?_
        exact ih x1 (x2 + 1) S13 _ _ hP hD hS ls (lv_sub hl [1, 2, 0] rfl) hf
  have L129 : ∀ (n : Nat) (x1 : Int32) (S : RS) (H : Heap) (locs : List Loc), va_P D vwCl (mwl Z a S) H → va_D A (mwl Z a S) → va_S A s.heap H locs → ∀ ls : Array Slot, lv_has ls 3 [(0, .ref (a 0)), (1, .int x1)] → f_X2_minuteOn_L129 n x1 S = some S' → W p l e rm_X2_minuteOn s m ([.ref (a 0)] : List Value).toArray below meth c H locs 0 0 (MQ below (zMv D A (mwl Z a S')) ([.ref (a 0)] : List Value).toArray s 0 0 A) (F0 m 129 ls []) := by
    intro n
    induction n with
    | zero =>
      intro x1 S H locs hP hD hS ls hl hf
      exact no_r hf
    | succ n ih =>
      intro x1 S H locs hP hD hS ls hl hf
      rw [f_X2_minuteOn_L129] at hf
      refine lv_iload_n hx hb dX2_minuteOn_129 rfl (lv_at hl 1 rfl) ?_
      refine lv_aload_n hx hb dX2_minuteOn_130 rfl (lv_at hl 0 rfl) ?_
      refine va_get (D := D) (ci := 2) (v := .int (S.1 1)) (C := RX2) (T := TX2) (N := 7) hx hb hts hin hown hK hP 0 rfl rfl 1 (by decide) (hts (.fieldLink RX2 26 "PodGuidewayModel" "stations" "I") (List.mem_of_getElem? (i := 2) rfl)) (fun _ h9 => h9) rfl dX2_minuteOn_131 ?_
      refine lv_icmp_ge (tgt := 180) hx hb dX2_minuteOn_134 (by decide) (fun c6 => ?_) (fun c6 => ?_)
      · have hf := if_t hf c6
        refine lv_aload_n hx hb dX2_minuteOn_180 rfl (lv_at hl 0 rfl) ?_
        refine va_get (D := D) (ci := 2) (v := .ref (a 4)) (C := RX2) (T := TX2) (N := 7) hx hb hts hin hown hK hP 0 rfl rfl 6 (by decide) (hts (.fieldLink RX2 19 "PodGuidewayModel" "numbers" "[I") (List.mem_of_getElem? (i := 4) rfl)) (fun _ h9 => h9) rfl dX2_minuteOn_181 ?_
        refine lv_iconst (v := 0) hx hb dX2_minuteOn_184 (by decide) ?_
        refine lv_dup2_11 hx hb dX2_minuteOn_185 rfl rfl ?_
        refine va_iald hx hb hK hP 4 0 rfl rfl (vp_in_lit (by decide)) dX2_minuteOn_186 ?_
        refine lv_iconst (v := 1) hx hb dX2_minuteOn_187 (by decide) ?_
        refine lv_iadd hx hb dX2_minuteOn_188 ?_
        refine va_iast hx hb hK hP hD hS 4 0 rfl rfl (vp_in_lit (by decide)) dX2_minuteOn_189 (fun H locs hP hD hS => ?_)
        obtain ⟨S7, eS7, hf⟩ := lt_ex hf
        have hP : va_P D vwCl (mwl Z a S7) H := by rw [eS7]; exact hP
        have hD : va_D A (mwl Z a S7) := by rw [eS7]; exact hD
        exact zw_v hx hb hr hlk hP hD hS (congrArg (fun z => ((mwl Z a z) : va_W)) (Option.some.inj hf)) (Nat.le_of_ble_eq_true rfl) (Nat.le_of_ble_eq_true rfl) dX2_minuteOn_190
      · have hf := if_f hf c6
        refine lv_iconst (v := 0) hx hb dX2_minuteOn_137 (by decide) ?_
        refine lv_istore_n (lv' := [(2, .int 0), (0, .ref (a 0)), (1, .int x1)]) hx hb dX2_minuteOn_138 rfl hl (by decide) rfl (fun ls hl => ?_)
        exact L139 _ ih FU x1 0 S _ _ hP hD hS ls (lv_sub hl [1, 2, 0] rfl) hf
  have L108 : ∀ (n : Nat) (x1 : Int32) (S : RS) (H : Heap) (locs : List Loc), va_P D vwCl (mwl Z a S) H → va_D A (mwl Z a S) → va_S A s.heap H locs → ∀ ls : Array Slot, lv_has ls 3 [(0, .ref (a 0)), (1, .int x1)] → f_X2_minuteOn_L108 n x1 S = some S' → W p l e rm_X2_minuteOn s m ([.ref (a 0)] : List Value).toArray below meth c H locs 0 0 (MQ below (zMv D A (mwl Z a S')) ([.ref (a 0)] : List Value).toArray s 0 0 A) (F0 m 108 ls []) := by
    intro n
    induction n with
    | zero =>
      intro x1 S H locs hP hD hS ls hl hf
      exact no_r hf
    | succ n ih =>
      intro x1 S H locs hP hD hS ls hl hf
      rw [f_X2_minuteOn_L108] at hf
      refine lv_iload_n hx hb dX2_minuteOn_108 rfl (lv_at hl 1 rfl) ?_
      refine lv_aload_n hx hb dX2_minuteOn_109 rfl (lv_at hl 0 rfl) ?_
      refine va_get (D := D) (ci := 2) (v := .int (S.1 1)) (C := RX2) (T := TX2) (N := 7) hx hb hts hin hown hK hP 0 rfl rfl 1 (by decide) (hts (.fieldLink RX2 26 "PodGuidewayModel" "stations" "I") (List.mem_of_getElem? (i := 2) rfl)) (fun _ h9 => h9) rfl dX2_minuteOn_110 ?_
      refine lv_icmp_ge (tgt := 127) hx hb dX2_minuteOn_113 (by decide) (fun c5 => ?_) (fun c5 => ?_)
      · have hf := if_t hf c5
        refine lv_iconst (v := 0) hx hb dX2_minuteOn_127 (by decide) ?_
        refine lv_istore_n (lv' := [(1, .int 0), (0, .ref (a 0))]) hx hb dX2_minuteOn_128 rfl hl (by decide) rfl (fun ls hl => ?_)
        exact L129 FU 0 S _ _ hP hD hS ls (lv_sub hl [1, 0] rfl) hf
      · have hf := if_f hf c5
        refine lv_aload_n hx hb dX2_minuteOn_116 rfl (lv_at hl 0 rfl) ?_
        refine lv_iload_n hx hb dX2_minuteOn_117 rfl (lv_at hl 1 rfl) ?_
        obtain ⟨S15, hv14, hf⟩ := ob_some hf
        refine zc_mv0 (z_VD (As := [.int x1]) (rest := []) (q0 := 0) (ci := 2) ⟨hx, hb, hml, hown, hts⟩ (m_X2_merge l D Z a S x1 S15 hv14) gX2_minuteOn_X2_merge rfl rfl rfl hdv_X2_merge ⟨Nat.le_of_ble_eq_true rfl, Nat.le_of_ble_eq_true rfl⟩ hK hP hD rfl rfl rfl rfl hl.1 rfl (Nat.le_of_ble_eq_true rfl) dX2_minuteOn_118 ⟨Nat.le_of_ble_eq_true rfl, Nat.le_of_ble_eq_true rfl⟩) hD hS hA (fun H locs hP hD hS => ?_)
        refine lv_iinc (v := (x1 + 1)) (lv' := [(1, .int (x1 + 1)), (0, .ref (a 0))]) hx hb dX2_minuteOn_121 hl (k := 1) rfl rfl (by decide) rfl (fun ls hl => ?_)
        refine lv_goto (tgt := 108) hx hb dX2_minuteOn_124 (by decide) ?_
        exact ih (x1 + 1) S15 _ _ hP hD hS ls (lv_sub hl [1, 0] rfl) hf
  have L87 : ∀ (n : Nat) (x1 : Int32) (S : RS) (H : Heap) (locs : List Loc), va_P D vwCl (mwl Z a S) H → va_D A (mwl Z a S) → va_S A s.heap H locs → ∀ ls : Array Slot, lv_has ls 3 [(0, .ref (a 0)), (1, .int x1)] → f_X2_minuteOn_L87 n x1 S = some S' → W p l e rm_X2_minuteOn s m ([.ref (a 0)] : List Value).toArray below meth c H locs 0 0 (MQ below (zMv D A (mwl Z a S')) ([.ref (a 0)] : List Value).toArray s 0 0 A) (F0 m 87 ls []) := by
    intro n
    induction n with
    | zero =>
      intro x1 S H locs hP hD hS ls hl hf
      exact no_r hf
    | succ n ih =>
      intro x1 S H locs hP hD hS ls hl hf
      rw [f_X2_minuteOn_L87] at hf
      refine lv_iload_n hx hb dX2_minuteOn_87 rfl (lv_at hl 1 rfl) ?_
      refine lv_aload_n hx hb dX2_minuteOn_88 rfl (lv_at hl 0 rfl) ?_
      refine va_get (D := D) (ci := 2) (v := .int (S.1 1)) (C := RX2) (T := TX2) (N := 7) hx hb hts hin hown hK hP 0 rfl rfl 1 (by decide) (hts (.fieldLink RX2 26 "PodGuidewayModel" "stations" "I") (List.mem_of_getElem? (i := 2) rfl)) (fun _ h9 => h9) rfl dX2_minuteOn_89 ?_
      refine lv_icmp_ge (tgt := 106) hx hb dX2_minuteOn_92 (by decide) (fun c4 => ?_) (fun c4 => ?_)
      · have hf := if_t hf c4
        refine lv_iconst (v := 0) hx hb dX2_minuteOn_106 (by decide) ?_
        refine lv_istore_n (lv' := [(1, .int 0), (0, .ref (a 0))]) hx hb dX2_minuteOn_107 rfl hl (by decide) rfl (fun ls hl => ?_)
        exact L108 FU 0 S _ _ hP hD hS ls (lv_sub hl [1, 0] rfl) hf
      · have hf := if_f hf c4
        refine lv_aload_n hx hb dX2_minuteOn_95 rfl (lv_at hl 0 rfl) ?_
        refine lv_iload_n hx hb dX2_minuteOn_96 rfl (lv_at hl 1 rfl) ?_
        obtain ⟨S17, hv16, hf⟩ := ob_some hf
        refine zc_mv0 (z_VD (As := [.int x1]) (rest := []) (q0 := 0) (ci := 2) ⟨hx, hb, hml, hown, hts⟩ (m_X2_call l D Z a S x1 S17 hv16) gX2_minuteOn_X2_call rfl rfl rfl hdv_X2_call ⟨Nat.le_of_ble_eq_true rfl, Nat.le_of_ble_eq_true rfl⟩ hK hP hD rfl rfl rfl rfl hl.1 rfl (Nat.le_of_ble_eq_true rfl) dX2_minuteOn_97 ⟨Nat.le_of_ble_eq_true rfl, Nat.le_of_ble_eq_true rfl⟩) hD hS hA (fun H locs hP hD hS => ?_)
        refine lv_iinc (v := (x1 + 1)) (lv' := [(1, .int (x1 + 1)), (0, .ref (a 0))]) hx hb dX2_minuteOn_100 hl (k := 1) rfl rfl (by decide) rfl (fun ls hl => ?_)
        refine lv_goto (tgt := 87) hx hb dX2_minuteOn_103 (by decide) ?_
        exact ih (x1 + 1) S17 _ _ hP hD hS ls (lv_sub hl [1, 0] rfl) hf
  have L66 : ∀ (n : Nat) (x1 : Int32) (S : RS) (H : Heap) (locs : List Loc), va_P D vwCl (mwl Z a S) H → va_D A (mwl Z a S) → va_S A s.heap H locs → ∀ ls : Array Slot, lv_has ls 3 [(0, .ref (a 0)), (1, .int x1)] → f_X2_minuteOn_L66 n x1 S = some S' → W p l e rm_X2_minuteOn s m ([.ref (a 0)] : List Value).toArray below meth c H locs 0 0 (MQ below (zMv D A (mwl Z a S')) ([.ref (a 0)] : List Value).toArray s 0 0 A) (F0 m 66 ls []) := by
    intro n
    induction n with
    | zero =>
      intro x1 S H locs hP hD hS ls hl hf
      exact no_r hf
    | succ n ih =>
      intro x1 S H locs hP hD hS ls hl hf
      rw [f_X2_minuteOn_L66] at hf
      refine lv_iload_n hx hb dX2_minuteOn_66 rfl (lv_at hl 1 rfl) ?_
      refine lv_aload_n hx hb dX2_minuteOn_67 rfl (lv_at hl 0 rfl) ?_
      refine va_get (D := D) (ci := 2) (v := .int (S.1 1)) (C := RX2) (T := TX2) (N := 7) hx hb hts hin hown hK hP 0 rfl rfl 1 (by decide) (hts (.fieldLink RX2 26 "PodGuidewayModel" "stations" "I") (List.mem_of_getElem? (i := 2) rfl)) (fun _ h9 => h9) rfl dX2_minuteOn_68 ?_
      refine lv_icmp_ge (tgt := 85) hx hb dX2_minuteOn_71 (by decide) (fun c3 => ?_) (fun c3 => ?_)
      · have hf := if_t hf c3
        refine lv_iconst (v := 0) hx hb dX2_minuteOn_85 (by decide) ?_
        refine lv_istore_n (lv' := [(1, .int 0), (0, .ref (a 0))]) hx hb dX2_minuteOn_86 rfl hl (by decide) rfl (fun ls hl => ?_)
        exact L87 FU 0 S _ _ hP hD hS ls (lv_sub hl [1, 0] rfl) hf
      · have hf := if_f hf c3
        refine lv_aload_n hx hb dX2_minuteOn_74 rfl (lv_at hl 0 rfl) ?_
        refine lv_iload_n hx hb dX2_minuteOn_75 rfl (lv_at hl 1 rfl) ?_
        obtain ⟨S19, hv18, hf⟩ := ob_some hf
        refine zc_mv0 (z_VD (As := [.int x1]) (rest := []) (q0 := 0) (ci := 2) ⟨hx, hb, hml, hown, hts⟩ (m_X2_board l D Z a S x1 S19 hv18) gX2_minuteOn_X2_board rfl rfl rfl hdv_X2_board ⟨Nat.le_of_ble_eq_true rfl, Nat.le_of_ble_eq_true rfl⟩ hK hP hD rfl rfl rfl rfl hl.1 rfl (Nat.le_of_ble_eq_true rfl) dX2_minuteOn_76 ⟨Nat.le_of_ble_eq_true rfl, Nat.le_of_ble_eq_true rfl⟩) hD hS hA (fun H locs hP hD hS => ?_)
        refine lv_iinc (v := (x1 + 1)) (lv' := [(1, .int (x1 + 1)), (0, .ref (a 0))]) hx hb dX2_minuteOn_79 hl (k := 1) rfl rfl (by decide) rfl (fun ls hl => ?_)
        refine lv_goto (tgt := 66) hx hb dX2_minuteOn_82 (by decide) ?_
        exact ih (x1 + 1) S19 _ _ hP hD hS ls (lv_sub hl [1, 0] rfl) hf
  have L45 : ∀ (n : Nat) (x1 : Int32) (S : RS) (H : Heap) (locs : List Loc), va_P D vwCl (mwl Z a S) H → va_D A (mwl Z a S) → va_S A s.heap H locs → ∀ ls : Array Slot, lv_has ls 3 [(0, .ref (a 0)), (1, .int x1)] → f_X2_minuteOn_L45 n x1 S = some S' → W p l e rm_X2_minuteOn s m ([.ref (a 0)] : List Value).toArray below meth c H locs 0 0 (MQ below (zMv D A (mwl Z a S')) ([.ref (a 0)] : List Value).toArray s 0 0 A) (F0 m 45 ls []) := by
    intro n
    induction n with
    | zero =>
      intro x1 S H locs hP hD hS ls hl hf
      exact no_r hf
    | succ n ih =>
      intro x1 S H locs hP hD hS ls hl hf
      rw [f_X2_minuteOn_L45] at hf
      refine lv_iload_n hx hb dX2_minuteOn_45 rfl (lv_at hl 1 rfl) ?_
      refine lv_aload_n hx hb dX2_minuteOn_46 rfl (lv_at hl 0 rfl) ?_
      refine va_get (D := D) (ci := 2) (v := .int (S.1 1)) (C := RX2) (T := TX2) (N := 7) hx hb hts hin hown hK hP 0 rfl rfl 1 (by decide) (hts (.fieldLink RX2 26 "PodGuidewayModel" "stations" "I") (List.mem_of_getElem? (i := 2) rfl)) (fun _ h9 => h9) rfl dX2_minuteOn_47 ?_
      refine lv_icmp_ge (tgt := 64) hx hb dX2_minuteOn_50 (by decide) (fun c2 => ?_) (fun c2 => ?_)
      · have hf := if_t hf c2
        refine lv_iconst (v := 0) hx hb dX2_minuteOn_64 (by decide) ?_
        refine lv_istore_n (lv' := [(1, .int 0), (0, .ref (a 0))]) hx hb dX2_minuteOn_65 rfl hl (by decide) rfl (fun ls hl => ?_)
        exact L66 FU 0 S _ _ hP hD hS ls (lv_sub hl [1, 0] rfl) hf
      · have hf := if_f hf c2
        refine lv_aload_n hx hb dX2_minuteOn_53 rfl (lv_at hl 0 rfl) ?_
        refine lv_iload_n hx hb dX2_minuteOn_54 rfl (lv_at hl 1 rfl) ?_
        obtain ⟨S21, hv20, hf⟩ := ob_some hf
        refine zc_mv0 (z_VD (As := [.int x1]) (rest := []) (q0 := 0) (ci := 2) ⟨hx, hb, hml, hown, hts⟩ (m_X2_off l D Z a S x1 S21 hv20) gX2_minuteOn_X2_off rfl rfl rfl hdv_X2_off ⟨Nat.le_of_ble_eq_true rfl, Nat.le_of_ble_eq_true rfl⟩ hK hP hD rfl rfl rfl rfl hl.1 rfl (Nat.le_of_ble_eq_true rfl) dX2_minuteOn_55 ⟨Nat.le_of_ble_eq_true rfl, Nat.le_of_ble_eq_true rfl⟩) hD hS hA (fun H locs hP hD hS => ?_)
        refine lv_iinc (v := (x1 + 1)) (lv' := [(1, .int (x1 + 1)), (0, .ref (a 0))]) hx hb dX2_minuteOn_58 hl (k := 1) rfl rfl (by decide) rfl (fun ls hl => ?_)
        refine lv_goto (tgt := 45) hx hb dX2_minuteOn_61 (by decide) ?_
        exact ih (x1 + 1) S21 _ _ hP hD hS ls (lv_sub hl [1, 0] rfl) hf
  have L2 : ∀ (n : Nat) (x1 : Int32) (S : RS) (H : Heap) (locs : List Loc), va_P D vwCl (mwl Z a S) H → va_D A (mwl Z a S) → va_S A s.heap H locs → ∀ ls : Array Slot, lv_has ls 3 [(0, .ref (a 0)), (1, .int x1)] → f_X2_minuteOn_L2 n x1 S = some S' → W p l e rm_X2_minuteOn s m ([.ref (a 0)] : List Value).toArray below meth c H locs 0 0 (MQ below (zMv D A (mwl Z a S')) ([.ref (a 0)] : List Value).toArray s 0 0 A) (F0 m 2 ls []) := by
    intro n
    induction n with
    | zero =>
      intro x1 S H locs hP hD hS ls hl hf
      exact no_r hf
    | succ n ih =>
      intro x1 S H locs hP hD hS ls hl hf
      rw [f_X2_minuteOn_L2] at hf
      refine lv_iload_n hx hb dX2_minuteOn_2 rfl (lv_at hl 1 rfl) ?_
      refine lv_aload_n hx hb dX2_minuteOn_3 rfl (lv_at hl 0 rfl) ?_
      refine va_get (D := D) (ci := 2) (v := .int (S.1 2)) (C := RX2) (T := TX2) (N := 7) hx hb hts hin hown hK hP 0 rfl rfl 2 (by decide) (hts (.fieldLink RX2 33 "PodGuidewayModel" "pods" "I") (List.mem_of_getElem? (i := 1) rfl)) (fun _ h9 => h9) rfl dX2_minuteOn_4 ?_
      refine lv_icmp_ge (tgt := 43) hx hb dX2_minuteOn_7 (by decide) (fun c1 => ?_) (fun c1 => ?_)
      · have hf := if_t hf c1
        refine lv_iconst (v := 0) hx hb dX2_minuteOn_43 (by decide) ?_
        refine lv_istore_n (lv' := [(1, .int 0), (0, .ref (a 0))]) hx hb dX2_minuteOn_44 rfl hl (by decide) rfl (fun ls hl => ?_)
        exact L45 FU 0 S _ _ hP hD hS ls (lv_sub hl [1, 0] rfl) hf
      · have hf := if_f hf c1
        refine lv_aload_n hx hb dX2_minuteOn_10 rfl (lv_at hl 0 rfl) ?_
        refine lv_iload_n hx hb dX2_minuteOn_11 rfl (lv_at hl 1 rfl) ?_
        refine lv_iconst (v := 0) hx hb dX2_minuteOn_12 (by decide) ?_
        obtain ⟨v23, hv22, hf⟩ := ob_some hf
        refine zc_i (z_VD (As := [.int x1, .int 0]) (rest := []) (q0 := 0) (ci := 2) ⟨hx, hb, hml, hown, hts⟩ (m_X2_po l D Z a S x1 0 v23 hv22) gX2_minuteOn_X2_po rfl rfl rfl hdv_X2_po ⟨Nat.le_of_ble_eq_true rfl, Nat.le_of_ble_eq_true rfl⟩ hK hP hD rfl rfl rfl rfl hl.1 rfl (Nat.le_of_ble_eq_true rfl) dX2_minuteOn_13 ⟨Nat.le_of_ble_eq_true rfl, Nat.le_of_ble_eq_true rfl⟩) hP hS hA (fun H locs hP hS => ?_)
        refine lv_iconst (v := (-1)) hx hb dX2_minuteOn_16 (by decide) ?_
        refine lv_icmp_eq (tgt := 37) hx hb dX2_minuteOn_17 (by decide) (fun c24 => ?_) (fun c24 => ?_)
        · have hf := if_t hf c24
          refine lv_iinc (v := (x1 + 1)) (lv' := [(1, .int (x1 + 1)), (0, .ref (a 0))]) hx hb dX2_minuteOn_37 hl (k := 1) rfl rfl (by decide) rfl (fun ls hl => ?_)
          refine lv_goto (tgt := 2) hx hb dX2_minuteOn_40 (by decide) ?_
          exact ih (x1 + 1) S _ _ hP hD hS ls (lv_sub hl [1, 0] rfl) hf
        · have hf := if_f hf c24
          refine lv_aload_n hx hb dX2_minuteOn_20 rfl (lv_at hl 0 rfl) ?_
          refine lv_iload_n hx hb dX2_minuteOn_21 rfl (lv_at hl 1 rfl) ?_
          refine lv_iconst (v := 0) hx hb dX2_minuteOn_22 (by decide) ?_
          refine lv_aload_n hx hb dX2_minuteOn_23 rfl (lv_at hl 0 rfl) ?_
          refine lv_iload_n hx hb dX2_minuteOn_24 rfl (lv_at hl 1 rfl) ?_
          refine lv_iconst (v := 0) hx hb dX2_minuteOn_25 (by decide) ?_
          obtain ⟨v26, hv25, hf⟩ := ob_some hf
          refine zc_i (z_VD (As := [.int x1, .int 0]) (rest := [.int 0, .int x1, .ref (a 0)]) (q0 := 0) (ci := 2) ⟨hx, hb, hml, hown, hts⟩ (m_X2_po l D Z a S x1 0 v26 hv25) gX2_minuteOn_X2_po rfl rfl rfl hdv_X2_po ⟨Nat.le_of_ble_eq_true rfl, Nat.le_of_ble_eq_true rfl⟩ hK hP hD rfl rfl rfl rfl hl.1 rfl (Nat.le_of_ble_eq_true rfl) dX2_minuteOn_26 ⟨Nat.le_of_ble_eq_true rfl, Nat.le_of_ble_eq_true rfl⟩) hP hS hA (fun H locs hP hS => ?_)
          refine lv_iconst (v := 1) hx hb dX2_minuteOn_29 (by decide) ?_
          refine lv_iadd hx hb dX2_minuteOn_30 ?_
          refine lv_bipush (v := 24) hx hb dX2_minuteOn_31 (by decide) ?_
          refine lv_irem hx hb dX2_minuteOn_33 (by decide) ?_
          obtain ⟨S28, hv27, hf⟩ := ob_some hf
          refine zc_mv0 (z_VD (As := [.int x1, .int 0, .int ((v26 + 1) - (v26 + 1) / 24 * 24)]) (rest := []) (q0 := 0) (ci := 2) ⟨hx, hb, hml, hown, hts⟩ (m_X2_put l D Z a S x1 0 ((v26 + 1) - (v26 + 1) / 24 * 24) S28 hv27) gX2_minuteOn_X2_put rfl rfl rfl hdv_X2_put ⟨Nat.le_of_ble_eq_true rfl, Nat.le_of_ble_eq_true rfl⟩ hK hP hD rfl rfl rfl rfl hl.1 rfl (Nat.le_of_ble_eq_true rfl) dX2_minuteOn_34 ⟨Nat.le_of_ble_eq_true rfl, Nat.le_of_ble_eq_true rfl⟩) hD hS hA (fun H locs hP hD hS => ?_)
          refine lv_iinc (v := (x1 + 1)) (lv' := [(1, .int (x1 + 1)), (0, .ref (a 0))]) hx hb dX2_minuteOn_37 hl (k := 1) rfl rfl (by decide) rfl (fun ls hl => ?_)
          refine lv_goto (tgt := 2) hx hb dX2_minuteOn_40 (by decide) ?_
          exact ih (x1 + 1) S28 _ _ hP hD hS ls (lv_sub hl [1, 0] rfl) hf
  unfold f_X2_minuteOn at hf
  refine lv_iconst (v := 0) hx hb dX2_minuteOn_0 (by decide) ?_
  refine lv_istore_n (lv' := [(1, .int 0), (0, .ref (a 0))]) hx hb dX2_minuteOn_1 rfl hl (by decide) rfl (fun ls hl => ?_)
  exact L2 FU 0 S _ _ hP hD hS ls (lv_sub hl [1, 0] rfl) hf
def f_X2_minutesOn_L9   : Nat → Int32 → Int32 → Int32 → RS → Option (Int32 × RS)
  | 0, _, _, _, _ => none
  | n + 1, x1, x2, x3, S =>
    if x1 ≤ x3 then
      ob (f_X2_all S 6) fun v5 =>
      some ((v5 - x2), S)
    else
      ob (f_X2_minuteOn S) fun S7 =>
      f_X2_minutesOn_L9 n x1 x2 (x3 + 1) S7
def f_X2_minutesOn  (S : RS) (p1 : Int32) : Option (Int32 × RS) :=
  ob (f_X2_all S 6) fun v2 =>
  f_X2_minutesOn_L9 FU p1 v2 0 S
abbrev rm_X2_minutesOn : Room := { frames := 6, cells := 0, slots := 0, locals := 134 }
theorem hdv_X2_minutesOn : yX2_minutesOn.cls = RX2 ∧ yX2_minutesOn.cls ≠ "java/lang/invoke/MethodHandle" ∧ yX2_minutesOn.cls ≠ "java/lang/invoke/VarHandle" ∧ (parseMethodDescriptor yX2_minutesOn.desc).map (fun d => d.parameters.length) = some 1 := by decide +kernel
set_option maxHeartbeats 4000000 in
set_option maxRecDepth 100000 in
theorem m_X2_minutesOn (l : Launch) (D : va_G) (Z : Nat → ClassId) (a : Nat → Nat) (S : RS) (p1 : Int32) (S' : RS) (r : Int32) (hf : f_X2_minutesOn S p1 = some (r, S')) : RWi l yX2_minutesOn wsX2_minutesOn rm_X2_minutesOn D Z [.ref (a 0), .int p1] (mwl Z a S) (mwl Z a S') r 0 0 := by
  refine RWi.of (cc := cX2_minutesOn) (nL := 4) (ret := (some .int)) (by decide +kernel) rfl (Nat.le_of_ble_eq_true rfl) ?_
  intro p e s m below meth c A hC hA hP hK hD hS ls hl
  obtain ⟨hx, hb, hr, hml, hown, hts, hlk, -⟩ := hC
  have hown : s.vm.findClass RX2 = some m.cls := hown
  have hl : lv_has ls 4 [(0, .ref (a 0)), (1, .int p1)] := hl
  have L9 : ∀ (n : Nat) (x1 : Int32) (x2 : Int32) (x3 : Int32) (S : RS) (H : Heap) (locs : List Loc), va_P D vwCl (mwl Z a S) H → va_D A (mwl Z a S) → va_S A s.heap H locs → ∀ ls : Array Slot, lv_has ls 4 [(0, .ref (a 0)), (1, .int x1), (2, .int x2), (3, .int x3)] → f_X2_minutesOn_L9 n x1 x2 x3 S = some (r, S') → W p l e rm_X2_minutesOn s m ([.ref (a 0), .int p1] : List Value).toArray below meth c H locs 0 0 (MQ below (zMi D A (mwl Z a S') r) ([.ref (a 0), .int p1] : List Value).toArray s 0 0 A) (F0 m 9 ls []) := by
    intro n
    induction n with
    | zero =>
      intro x1 x2 x3 S H locs hP hD hS ls hl hf
      exact no_r hf
    | succ n ih =>
      intro x1 x2 x3 S H locs hP hD hS ls hl hf
      rw [f_X2_minutesOn_L9] at hf
      refine lv_iload_n hx hb dX2_minutesOn_9 rfl (lv_at hl 3 rfl) ?_
      refine lv_iload_n hx hb dX2_minutesOn_10 rfl (lv_at hl 1 rfl) ?_
      refine lv_icmp_ge (tgt := 24) hx hb dX2_minutesOn_11 (by decide) (fun c3 => ?_) (fun c3 => ?_)
      · have hf := if_t hf c3
        refine lv_aload_n hx hb dX2_minutesOn_24 rfl (lv_at hl 0 rfl) ?_
        refine lv_bipush (v := 6) hx hb dX2_minutesOn_25 (by decide) ?_
        obtain ⟨v5, hv4, hf⟩ := ob_some hf
        refine zc_i (z_VD (As := [.int 6]) (rest := []) (q0 := 0) (ci := 2) ⟨hx, hb, hml, hown, hts⟩ (m_X2_all l D Z a S 6 v5 hv4) gX2_minutesOn_X2_all rfl rfl rfl hdv_X2_all ⟨Nat.le_of_ble_eq_true rfl, Nat.le_of_ble_eq_true rfl⟩ hK hP hD rfl rfl rfl rfl hl.1 rfl (Nat.le_of_ble_eq_true rfl) dX2_minutesOn_27 ⟨Nat.le_of_ble_eq_true rfl, Nat.le_of_ble_eq_true rfl⟩) hP hS hA (fun H locs hP hS => ?_)
        refine lv_iload_n hx hb dX2_minutesOn_30 rfl (lv_at hl 2 rfl) ?_
        refine lv_isub hx hb dX2_minutesOn_31 ?_
        exact zw_i hx hb hr hlk hP hD hS (congrArg (fun z => ((mwl Z a z) : va_W)) (pr2 hf)) (pr1 hf) (Nat.le_of_ble_eq_true rfl) (Nat.le_of_ble_eq_true rfl) dX2_minutesOn_32
      · have hf := if_f hf c3
        refine lv_aload_n hx hb dX2_minutesOn_14 rfl (lv_at hl 0 rfl) ?_
        obtain ⟨S7, hv6, hf⟩ := ob_some hf
        refine zc_mv0 (z_VD (As := []) (rest := []) (q0 := 0) (ci := 2) ⟨hx, hb, hml, hown, hts⟩ (m_X2_minuteOn l D Z a S S7 hv6) gX2_minutesOn_X2_minuteOn rfl rfl rfl hdv_X2_minuteOn ⟨Nat.le_of_ble_eq_true rfl, Nat.le_of_ble_eq_true rfl⟩ hK hP hD rfl rfl rfl rfl hl.1 rfl (Nat.le_of_ble_eq_true rfl) dX2_minutesOn_15 ⟨Nat.le_of_ble_eq_true rfl, Nat.le_of_ble_eq_true rfl⟩) hD hS hA (fun H locs hP hD hS => ?_)
        refine lv_iinc (v := (x3 + 1)) (lv' := [(3, .int (x3 + 1)), (0, .ref (a 0)), (1, .int x1), (2, .int x2)]) hx hb dX2_minutesOn_18 hl (k := 3) rfl rfl (by decide) rfl (fun ls hl => ?_)
        refine lv_goto (tgt := 9) hx hb dX2_minutesOn_21 (by decide) ?_
        exact ih x1 x2 (x3 + 1) S7 _ _ hP hD hS ls (lv_sub hl [1, 2, 3, 0] rfl) hf
  unfold f_X2_minutesOn at hf
  refine lv_aload_n hx hb dX2_minutesOn_0 rfl (lv_at hl 0 rfl) ?_
  refine lv_bipush (v := 6) hx hb dX2_minutesOn_1 (by decide) ?_
  obtain ⟨v2, hv1, hf⟩ := ob_some hf
  refine zc_i (z_VD (As := [.int 6]) (rest := []) (q0 := 0) (ci := 2) ⟨hx, hb, hml, hown, hts⟩ (m_X2_all l D Z a S 6 v2 hv1) gX2_minutesOn_X2_all rfl rfl rfl hdv_X2_all ⟨Nat.le_of_ble_eq_true rfl, Nat.le_of_ble_eq_true rfl⟩ hK hP hD rfl rfl rfl rfl hl.1 rfl (Nat.le_of_ble_eq_true rfl) dX2_minutesOn_3 ⟨Nat.le_of_ble_eq_true rfl, Nat.le_of_ble_eq_true rfl⟩) hP hS hA (fun H locs hP hS => ?_)
  refine lv_istore_n (lv' := [(2, .int v2), (0, .ref (a 0)), (1, .int p1)]) hx hb dX2_minutesOn_6 rfl hl (by decide) rfl (fun ls hl => ?_)
  refine lv_iconst (v := 0) hx hb dX2_minutesOn_7 (by decide) ?_
  refine lv_istore_n (lv' := [(3, .int 0), (2, .int v2), (0, .ref (a 0)), (1, .int p1)]) hx hb dX2_minutesOn_8 rfl hl (by decide) rfl (fun ls hl => ?_)
  exact L9 FU p1 v2 0 S _ _ hP hD hS ls (lv_sub hl [2, 3, 1, 0] rfl) hf
def f_X2_pass  (S : RS) (p1 : Int32) : Option (Int32 × RS) :=
  lt (sI S 0 0) fun (S1 : RS) =>
  ob (f_X2_isIn p1 1 100) fun v3 =>
  if v3 = 0 then
    ob2 (f_X2_fail S1 1) fun v8 S7 =>
    some (v8, S7)
  else
    ob2 (f_X2_minutesOn S1 p1) fun v11 S10 =>
    some (v11, S10)
abbrev rm_X2_pass : Room := { frames := 7, cells := 0, slots := 0, locals := 157 }
theorem hdv_X2_pass : yX2_pass.cls = RX2 ∧ yX2_pass.cls ≠ "java/lang/invoke/MethodHandle" ∧ yX2_pass.cls ≠ "java/lang/invoke/VarHandle" ∧ (parseMethodDescriptor yX2_pass.desc).map (fun d => d.parameters.length) = some 1 := by decide +kernel
set_option maxHeartbeats 4000000 in
set_option maxRecDepth 100000 in
theorem m_X2_pass (l : Launch) (D : va_G) (Z : Nat → ClassId) (a : Nat → Nat) (S : RS) (p1 : Int32) (S' : RS) (r : Int32) (hf : f_X2_pass S p1 = some (r, S')) : RWi l yX2_pass wsX2_pass rm_X2_pass D Z [.ref (a 0), .int p1] (mwl Z a S) (mwl Z a S') r 0 0 := by
  refine RWi.of (cc := cX2_pass) (nL := 2) (ret := (some .int)) (by decide +kernel) rfl (Nat.le_of_ble_eq_true rfl) ?_
  intro p e s m below meth c A hC hA hP hK hD hS ls hl
  obtain ⟨hx, hb, hr, hml, hown, hts, hlk, -⟩ := hC
  have hown : s.vm.findClass RX2 = some m.cls := hown
  have hin : ∀ w ∈ wsX20, w ∈ wsX2_pass := fun w h => List.mem_cons_of_mem _ (List.mem_append_right _ h)
  have hl : lv_has ls 2 [(0, .ref (a 0)), (1, .int p1)] := hl
  unfold f_X2_pass at hf
  refine lv_aload_n hx hb dX2_pass_0 rfl (lv_at hl 0 rfl) ?_
  refine lv_iconst (v := 0) hx hb dX2_pass_1 (by decide) ?_
  refine va_put (D := D) (ci := 2) (v := .int 0) (ty := .int) (C := RX2) (T := TX2) (N := 7) hx hb hts hin tyX2 tyX2_ok nmX2 hown hK hP hD hS 0 rfl rfl 0 (by decide) (hts (.fieldLink RX2 22 "PodGuidewayModel" "thrown" "I") (List.mem_of_getElem? (i := 1) rfl)) (fun _ h9 => h9) rfl (by decide +kernel) rfl rfl (Nat.le_of_ble_eq_true rfl) dX2_pass_2 (fun H locs hP hD hS => ?_)
  obtain ⟨S1, eS1, hf⟩ := lt_ex hf
  have hP : va_P D vwCl (mwl Z a S1) H := by rw [eS1]; exact hP
  have hD : va_D A (mwl Z a S1) := by rw [eS1]; exact hD
  refine lv_iload_n hx hb dX2_pass_5 rfl (lv_at hl 1 rfl) ?_
  refine lv_iconst (v := 1) hx hb dX2_pass_6 (by decide) ?_
  refine lv_bipush (v := 100) hx hb dX2_pass_7 (by decide) ?_
  obtain ⟨v3, hv2, hf⟩ := ob_some hf
  refine zc_z (z_SD (As := [.int p1, .int 1, .int 100]) (rest := []) ⟨hx, hb, hml, hown, hts⟩ (m_X2_isIn l D Z p1 1 100 v3 hv2) gX2_pass_X2_isIn rfl rfl rfl hds_X2_isIn ⟨Nat.le_of_ble_eq_true rfl, Nat.le_of_ble_eq_true rfl⟩ hK (hP.sub (ws' := []) [] rfl) (hD.sub (ws' := []) [] (by decide) rfl) rfl hl.1 rfl (Nat.le_of_ble_eq_true rfl) dX2_pass_9 ⟨Nat.le_of_ble_eq_true rfl, Nat.le_of_ble_eq_true rfl⟩) hP hS hA (fun H locs hn4 hP hS => ?_)
  refine lv_if_eq (tgt := 23) hx hb dX2_pass_12 (by decide) (fun c5 => ?_) (fun c5 => ?_)
  · have hf := if_t hf c5
    refine lv_aload_n hx hb dX2_pass_23 rfl (lv_at hl 0 rfl) ?_
    refine lv_iconst (v := 1) hx hb dX2_pass_24 (by decide) ?_
    obtain ⟨v8, S7, hv6, hf⟩ := ob2_some hf
    refine zc_mi0 (z_VD (As := [.int 1]) (rest := []) (q0 := 0) (ci := 2) ⟨hx, hb, hml, hown, hts⟩ (m_X2_fail l D Z a S1 1 S7 v8 hv6) gX2_pass_X2_fail rfl rfl rfl hdv_X2_fail ⟨Nat.le_of_ble_eq_true rfl, Nat.le_of_ble_eq_true rfl⟩ hK hP hD rfl rfl rfl rfl hl.1 rfl (Nat.le_of_ble_eq_true rfl) dX2_pass_25 ⟨Nat.le_of_ble_eq_true rfl, Nat.le_of_ble_eq_true rfl⟩) hD hS hA (fun H locs hP hD hS => ?_)
    exact zw_i hx hb hr hlk hP hD hS (congrArg (fun z => ((mwl Z a z) : va_W)) (pr2 hf)) (pr1 hf) (Nat.le_of_ble_eq_true rfl) (Nat.le_of_ble_eq_true rfl) dX2_pass_28
  · have hf := if_f hf c5
    refine lv_aload_n hx hb dX2_pass_15 rfl (lv_at hl 0 rfl) ?_
    refine lv_iload_n hx hb dX2_pass_16 rfl (lv_at hl 1 rfl) ?_
    obtain ⟨v11, S10, hv9, hf⟩ := ob2_some hf
    refine zc_mi0 (z_VD (As := [.int p1]) (rest := []) (q0 := 0) (ci := 2) ⟨hx, hb, hml, hown, hts⟩ (m_X2_minutesOn l D Z a S1 p1 S10 v11 hv9) gX2_pass_X2_minutesOn rfl rfl rfl hdv_X2_minutesOn ⟨Nat.le_of_ble_eq_true rfl, Nat.le_of_ble_eq_true rfl⟩ hK hP hD rfl rfl rfl rfl hl.1 rfl (Nat.le_of_ble_eq_true rfl) dX2_pass_17 ⟨Nat.le_of_ble_eq_true rfl, Nat.le_of_ble_eq_true rfl⟩) hD hS hA (fun H locs hP hD hS => ?_)
    refine lv_goto (tgt := 28) hx hb dX2_pass_20 (by decide) ?_
    exact zw_i hx hb hr hlk hP hD hS (congrArg (fun z => ((mwl Z a z) : va_W)) (pr2 hf)) (pr1 hf) (Nat.le_of_ble_eq_true rfl) (Nat.le_of_ble_eq_true rfl) dX2_pass_28
def f_X2_answers  (S : RS) (p1 : Int32) : Option (Int32 × RS) :=
  lt (sI S 0 0) fun (S1 : RS) =>
  ob (f_X2_isStation S1 p1) fun v3 =>
  if v3 = 0 then
    ob2 (f_X2_fail S1 1) fun v8 S7 =>
    some (v8, S7)
  else
    ob (f_X2_answer S1 p1) fun v10 =>
    some (v10, S1)
abbrev rm_X2_answers : Room := { frames := 4, cells := 0, slots := 0, locals := 91 }
theorem hdv_X2_answers : yX2_answers.cls = RX2 ∧ yX2_answers.cls ≠ "java/lang/invoke/MethodHandle" ∧ yX2_answers.cls ≠ "java/lang/invoke/VarHandle" ∧ (parseMethodDescriptor yX2_answers.desc).map (fun d => d.parameters.length) = some 1 := by decide +kernel
set_option maxHeartbeats 4000000 in
set_option maxRecDepth 100000 in
theorem m_X2_answers (l : Launch) (D : va_G) (Z : Nat → ClassId) (a : Nat → Nat) (S : RS) (p1 : Int32) (S' : RS) (r : Int32) (hf : f_X2_answers S p1 = some (r, S')) : RWi l yX2_answers wsX2_answers rm_X2_answers D Z [.ref (a 0), .int p1] (mwl Z a S) (mwl Z a S') r 0 0 := by
  refine RWi.of (cc := cX2_answers) (nL := 2) (ret := (some .int)) (by decide +kernel) rfl (Nat.le_of_ble_eq_true rfl) ?_
  intro p e s m below meth c A hC hA hP hK hD hS ls hl
  obtain ⟨hx, hb, hr, hml, hown, hts, hlk, -⟩ := hC
  have hown : s.vm.findClass RX2 = some m.cls := hown
  have hin : ∀ w ∈ wsX20, w ∈ wsX2_answers := fun w h => List.mem_cons_of_mem _ (List.mem_append_right _ h)
  have hl : lv_has ls 2 [(0, .ref (a 0)), (1, .int p1)] := hl
  unfold f_X2_answers at hf
  refine lv_aload_n hx hb dX2_answers_0 rfl (lv_at hl 0 rfl) ?_
  refine lv_iconst (v := 0) hx hb dX2_answers_1 (by decide) ?_
  refine va_put (D := D) (ci := 2) (v := .int 0) (ty := .int) (C := RX2) (T := TX2) (N := 7) hx hb hts hin tyX2 tyX2_ok nmX2 hown hK hP hD hS 0 rfl rfl 0 (by decide) (hts (.fieldLink RX2 22 "PodGuidewayModel" "thrown" "I") (List.mem_of_getElem? (i := 1) rfl)) (fun _ h9 => h9) rfl (by decide +kernel) rfl rfl (Nat.le_of_ble_eq_true rfl) dX2_answers_2 (fun H locs hP hD hS => ?_)
  obtain ⟨S1, eS1, hf⟩ := lt_ex hf
  have hP : va_P D vwCl (mwl Z a S1) H := by rw [eS1]; exact hP
  have hD : va_D A (mwl Z a S1) := by rw [eS1]; exact hD
  refine lv_aload_n hx hb dX2_answers_5 rfl (lv_at hl 0 rfl) ?_
  refine lv_iload_n hx hb dX2_answers_6 rfl (lv_at hl 1 rfl) ?_
  obtain ⟨v3, hv2, hf⟩ := ob_some hf
  refine zc_z (z_VD (As := [.int p1]) (rest := []) (q0 := 0) (ci := 2) ⟨hx, hb, hml, hown, hts⟩ (m_X2_isStation l D Z a S1 p1 v3 hv2) gX2_answers_X2_isStation rfl rfl rfl hdv_X2_isStation ⟨Nat.le_of_ble_eq_true rfl, Nat.le_of_ble_eq_true rfl⟩ hK hP hD rfl rfl rfl rfl hl.1 rfl (Nat.le_of_ble_eq_true rfl) dX2_answers_7 ⟨Nat.le_of_ble_eq_true rfl, Nat.le_of_ble_eq_true rfl⟩) hP hS hA (fun H locs hn4 hP hS => ?_)
  refine lv_if_eq (tgt := 21) hx hb dX2_answers_10 (by decide) (fun c5 => ?_) (fun c5 => ?_)
  · have hf := if_t hf c5
    refine lv_aload_n hx hb dX2_answers_21 rfl (lv_at hl 0 rfl) ?_
    refine lv_iconst (v := 1) hx hb dX2_answers_22 (by decide) ?_
    obtain ⟨v8, S7, hv6, hf⟩ := ob2_some hf
    refine zc_mi0 (z_VD (As := [.int 1]) (rest := []) (q0 := 0) (ci := 2) ⟨hx, hb, hml, hown, hts⟩ (m_X2_fail l D Z a S1 1 S7 v8 hv6) gX2_answers_X2_fail rfl rfl rfl hdv_X2_fail ⟨Nat.le_of_ble_eq_true rfl, Nat.le_of_ble_eq_true rfl⟩ hK hP hD rfl rfl rfl rfl hl.1 rfl (Nat.le_of_ble_eq_true rfl) dX2_answers_23 ⟨Nat.le_of_ble_eq_true rfl, Nat.le_of_ble_eq_true rfl⟩) hD hS hA (fun H locs hP hD hS => ?_)
    exact zw_i hx hb hr hlk hP hD hS (congrArg (fun z => ((mwl Z a z) : va_W)) (pr2 hf)) (pr1 hf) (Nat.le_of_ble_eq_true rfl) (Nat.le_of_ble_eq_true rfl) dX2_answers_26
  · have hf := if_f hf c5
    refine lv_aload_n hx hb dX2_answers_13 rfl (lv_at hl 0 rfl) ?_
    refine lv_iload_n hx hb dX2_answers_14 rfl (lv_at hl 1 rfl) ?_
    obtain ⟨v10, hv9, hf⟩ := ob_some hf
    refine zc_i (z_VD (As := [.int p1]) (rest := []) (q0 := 0) (ci := 2) ⟨hx, hb, hml, hown, hts⟩ (m_X2_answer l D Z a S1 p1 v10 hv9) gX2_answers_X2_answer rfl rfl rfl hdv_X2_answer ⟨Nat.le_of_ble_eq_true rfl, Nat.le_of_ble_eq_true rfl⟩ hK hP hD rfl rfl rfl rfl hl.1 rfl (Nat.le_of_ble_eq_true rfl) dX2_answers_15 ⟨Nat.le_of_ble_eq_true rfl, Nat.le_of_ble_eq_true rfl⟩) hP hS hA (fun H locs hP hS => ?_)
    refine lv_goto (tgt := 26) hx hb dX2_answers_18 (by decide) ?_
    exact zw_i hx hb hr hlk hP hD hS (congrArg (fun z => ((mwl Z a z) : va_W)) (pr2 hf)) (pr1 hf) (Nat.le_of_ble_eq_true rfl) (Nat.le_of_ble_eq_true rfl) dX2_answers_26
def f_X2_digest_L167   : Nat → Int64 → Int32 → RS → Option (Int64 × RS)
  | 0, _, _, _ => none
  | n + 1, x1, x3, S =>
    if 24 ≤ x3 then
      some (x1, S)
    else
      ob (f_X2_slotAt S x3) fun v7 =>
      f_X2_digest_L167 n ((x1 * 31) + (v7).toInt64) (x3 + 1) S
def f_X2_digest_L131 (κ120 : Int64 → Int32 → RS → Option (Int64 × RS))  : Nat → Int64 → Int32 → Int32 → RS → Option (Int64 × RS)
  | 0, _, _, _, _ => none
  | n + 1, x1, x3, x4, S =>
    if 6 ≤ x4 then
      κ120 x1 (x3 + 1) S
    else
      ob (f_X2_podTold S x3 x4) fun v10 =>
      f_X2_digest_L131 κ120 n ((x1 * 31) + (v10).toInt64) x3 (x4 + 1) S
def f_X2_digest_L120   : Nat → Int64 → Int32 → RS → Option (Int64 × RS)
  | 0, _, _, _ => none
  | n + 1, x1, x3, S =>
    if (S.1 2) ≤ x3 then
      f_X2_digest_L167 FU x1 0 S
    else
      f_X2_digest_L131 (fun x1 x3 S => f_X2_digest_L120 n x1 x3 S) FU x1 x3 0 S
def f_X2_digest_L80 (κ38 : Int64 → Int32 → RS → Option (Int64 × RS))  : Nat → Int64 → Int32 → Int32 → RS → Option (Int64 × RS)
  | 0, _, _, _, _ => none
  | n + 1, x1, x3, x4, S =>
    ob (f_X2_st S x3 1) fun v13 =>
    if v13 ≤ x4 then
      κ38 x1 (x3 + 1) S
    else
      ob (f_X2_rider S x3 x4) fun v16 =>
      f_X2_digest_L80 κ38 n ((x1 * 31) + (v16).toInt64) x3 (x4 + 1) S
def f_X2_digest_L49 (κ38 : Int64 → Int32 → RS → Option (Int64 × RS))  : Nat → Int64 → Int32 → Int32 → RS → Option (Int64 × RS)
  | 0, _, _, _, _ => none
  | n + 1, x1, x3, x4, S =>
    if 7 ≤ x4 then
      f_X2_digest_L80 κ38 FU x1 x3 0 S
    else
      ob (f_X2_stationTold S x3 x4) fun v18 =>
      f_X2_digest_L49 κ38 n ((x1 * 31) + (v18).toInt64) x3 (x4 + 1) S
def f_X2_digest_L38   : Nat → Int64 → Int32 → RS → Option (Int64 × RS)
  | 0, _, _, _ => none
  | n + 1, x1, x3, S =>
    if (S.1 1) ≤ x3 then
      f_X2_digest_L120 FU x1 0 S
    else
      f_X2_digest_L49 (fun x1 x3 S => f_X2_digest_L38 n x1 x3 S) FU x1 x3 0 S
def f_X2_digest_L11   : Nat → Int64 → Int32 → RS → Option (Int64 × RS)
  | 0, _, _, _ => none
  | n + 1, x1, x3, S =>
    if 9 ≤ x3 then
      f_X2_digest_L38 FU x1 0 S
    else
      ob (f_X2_counted S x3) fun v20 =>
      f_X2_digest_L11 n ((x1 * 31) + (v20).toInt64) (x3 + 1) S
def f_X2_digest  (S : RS)  : Option (Int64 × RS) :=
  lt (sI S 0 0) fun (S1 : RS) =>
  f_X2_digest_L11 FU 1399 0 S1
abbrev rm_X2_digest : Room := { frames := 5, cells := 0, slots := 0, locals := 115 }
theorem hdv_X2_digest : yX2_digest.cls = RX2 ∧ yX2_digest.cls ≠ "java/lang/invoke/MethodHandle" ∧ yX2_digest.cls ≠ "java/lang/invoke/VarHandle" ∧ (parseMethodDescriptor yX2_digest.desc).map (fun d => d.parameters.length) = some 0 := by decide +kernel
set_option maxHeartbeats 4000000 in
set_option maxRecDepth 100000 in
theorem m_X2_digest (l : Launch) (D : va_G) (Z : Nat → ClassId) (a : Nat → Nat) (S : RS)  (S' : RS) (r : Int64) (hf : f_X2_digest S = some (r, S')) : RWl l yX2_digest wsX2_digest rm_X2_digest D Z [.ref (a 0)] (mwl Z a S) (mwl Z a S') r 0 0 := by
  refine RWl.of (cc := cX2_digest) (nL := 5) (ret := (some .long)) (by decide +kernel) rfl (Nat.le_of_ble_eq_true rfl) ?_
  intro p e s m below meth c A hC hA hP hK hD hS ls hl
  obtain ⟨hx, hb, hr, hml, hown, hts, hlk, -⟩ := hC
  have hown : s.vm.findClass RX2 = some m.cls := hown
  have hin : ∀ w ∈ wsX20, w ∈ wsX2_digest := fun w h => List.mem_cons_of_mem _ (List.mem_append_right _ h)
  have hl : lv_has ls 5 [(0, .ref (a 0))] := hl
  have L167 : ∀ (n : Nat) (x1 : Int64) (x3 : Int32) (S : RS) (H : Heap) (locs : List Loc), va_P D vwCl (mwl Z a S) H → va_D A (mwl Z a S) → va_S A s.heap H locs → ∀ ls : Array Slot, lv_has ls 5 [(0, .ref (a 0)), (1, .long x1), (3, .int x3)] → f_X2_digest_L167 n x1 x3 S = some (r, S') → W p l e rm_X2_digest s m ([.ref (a 0)] : List Value).toArray below meth c H locs 0 0 (MQ below (zMl D A (mwl Z a S') r) ([.ref (a 0)] : List Value).toArray s 0 0 A) (F0 m 167 ls []) := by
    intro n
    induction n with
    | zero =>
      intro x1 x3 S H locs hP hD hS ls hl hf
      exact no_r hf
    | succ n ih =>
      intro x1 x3 S H locs hP hD hS ls hl hf
      rw [f_X2_digest_L167] at hf
      refine lv_iload_n hx hb dX2_digest_167 rfl (lv_at hl 2 rfl) ?_
      refine lv_bipush (v := 24) hx hb dX2_digest_168 (by decide) ?_
      refine lv_icmp_ge (tgt := 192) hx hb dX2_digest_170 (by decide) (fun c5 => ?_) (fun c5 => ?_)
      · have hf := if_t hf c5
        refine lv_lload_n hx hb dX2_digest_192 rfl (lv_at hl 1 rfl) ?_
        exact zw_l hx hb hr hlk hP hD hS (congrArg (fun z => ((mwl Z a z) : va_W)) (pr2 hf)) (pr1 hf) (Nat.le_of_ble_eq_true rfl) (Nat.le_of_ble_eq_true rfl) dX2_digest_193
      · have hf := if_f hf c5
        refine lv_lload_n hx hb dX2_digest_173 rfl (lv_at hl 1 rfl) ?_
        refine lv_ldc2 (v := 31) hx hb hown (hts (.constantLong RX2 142 (31)) (List.mem_of_getElem? (i := 3) rfl)) dX2_digest_174 ?_
        refine lv_lmul hx hb dX2_digest_177 ?_
        refine lv_aload_n hx hb dX2_digest_178 rfl (lv_at hl 0 rfl) ?_
        refine lv_iload_n hx hb dX2_digest_179 rfl (lv_at hl 2 rfl) ?_
        obtain ⟨v7, hv6, hf⟩ := ob_some hf
        refine zc_i (z_VD (As := [.int x3]) (rest := [.long (x1 * 31)]) (q0 := 0) (ci := 2) ⟨hx, hb, hml, hown, hts⟩ (m_X2_slotAt l D Z a S x3 v7 hv6) gX2_digest_X2_slotAt rfl rfl rfl hdv_X2_slotAt ⟨Nat.le_of_ble_eq_true rfl, Nat.le_of_ble_eq_true rfl⟩ hK hP hD rfl rfl rfl rfl hl.1 rfl (Nat.le_of_ble_eq_true rfl) dX2_digest_180 ⟨Nat.le_of_ble_eq_true rfl, Nat.le_of_ble_eq_true rfl⟩) hP hS hA (fun H locs hP hS => ?_)
        refine lv_i2l hx hb dX2_digest_183 rfl ?_
        refine lv_ladd hx hb dX2_digest_184 ?_
        refine lv_lstore_n (lv' := [(1, .long ((x1 * 31) + (v7).toInt64)), (0, .ref (a 0)), (3, .int x3)]) hx hb dX2_digest_185 rfl hl (by decide) rfl (fun ls hl => ?_)
        refine lv_iinc (v := (x3 + 1)) (lv' := [(3, .int (x3 + 1)), (1, .long ((x1 * 31) + (v7).toInt64)), (0, .ref (a 0))]) hx hb dX2_digest_186 hl (k := 2) rfl rfl (by decide) rfl (fun ls hl => ?_)
        refine lv_goto (tgt := 167) hx hb dX2_digest_189 (by decide) ?_
        exact ih ((x1 * 31) + (v7).toInt64) (x3 + 1) S _ _ hP hD hS ls (lv_sub hl [2, 1, 0] rfl) hf
  have L131 : ∀ (κ120 : Int64 → Int32 → RS → Option (Int64 × RS)), (∀ (x1 : Int64) (x3 : Int32) (S : RS) (H : Heap) (locs : List Loc), va_P D vwCl (mwl Z a S) H → va_D A (mwl Z a S) → va_S A s.heap H locs → ∀ ls : Array Slot, lv_has ls 5 [(0, .ref (a 0)), (1, .long x1), (3, .int x3)] → κ120 x1 x3 S = some (r, S') → W p l e rm_X2_digest s m ([.ref (a 0)] : List Value).toArray below meth c H locs 0 0 (MQ below (zMl D A (mwl Z a S') r) ([.ref (a 0)] : List Value).toArray s 0 0 A) (F0 m 120 ls [])) → ∀ (n : Nat) (x1 : Int64) (x3 : Int32) (x4 : Int32) (S : RS) (H : Heap) (locs : List Loc), va_P D vwCl (mwl Z a S) H → va_D A (mwl Z a S) → va_S A s.heap H locs → ∀ ls : Array Slot, lv_has ls 5 [(0, .ref (a 0)), (1, .long x1), (3, .int x3), (4, .int x4)] → f_X2_digest_L131 κ120 n x1 x3 x4 S = some (r, S') → W p l e rm_X2_digest s m ([.ref (a 0)] : List Value).toArray below meth c H locs 0 0 (MQ below (zMl D A (mwl Z a S') r) ([.ref (a 0)] : List Value).toArray s 0 0 A) (F0 m 131 ls []) := by
    intro κ120 hκ120 n
    induction n with
    | zero =>
      intro x1 x3 x4 S H locs hP hD hS ls hl hf
      exact no_r hf
    | succ n ih =>
      intro x1 x3 x4 S H locs hP hD hS ls hl hf
      rw [f_X2_digest_L131] at hf
      refine lv_iload hx hb dX2_digest_131 (lv_at hl 3 rfl) ?_
      refine lv_bipush (v := 6) hx hb dX2_digest_133 (by decide) ?_
      refine lv_icmp_ge (tgt := 159) hx hb dX2_digest_135 (by decide) (fun c8 => ?_) (fun c8 => ?_)
      · have hf := if_t hf c8
        refine lv_iinc (v := (x3 + 1)) (lv' := [(3, .int (x3 + 1)), (0, .ref (a 0)), (1, .long x1), (4, .int x4)]) hx hb dX2_digest_159 hl (k := 2) rfl rfl (by decide) rfl (fun ls hl => ?_)
        refine lv_goto (tgt := 120) hx hb dX2_digest_162 (by decide) ?_
        exact hκ120 x1 (x3 + 1) S _ _ hP hD hS ls (lv_sub hl [1, 2, 0] rfl) hf
      · have hf := if_f hf c8
        refine lv_lload_n hx hb dX2_digest_138 rfl (lv_at hl 1 rfl) ?_
        refine lv_ldc2 (v := 31) hx hb hown (hts (.constantLong RX2 142 (31)) (List.mem_of_getElem? (i := 3) rfl)) dX2_digest_139 ?_
        refine lv_lmul hx hb dX2_digest_142 ?_
        refine lv_aload_n hx hb dX2_digest_143 rfl (lv_at hl 0 rfl) ?_
        refine lv_iload_n hx hb dX2_digest_144 rfl (lv_at hl 2 rfl) ?_
        refine lv_iload hx hb dX2_digest_145 (lv_at hl 3 rfl) ?_
        obtain ⟨v10, hv9, hf⟩ := ob_some hf
        refine zc_i (z_VD (As := [.int x3, .int x4]) (rest := [.long (x1 * 31)]) (q0 := 0) (ci := 2) ⟨hx, hb, hml, hown, hts⟩ (m_X2_podTold l D Z a S x3 x4 v10 hv9) gX2_digest_X2_podTold rfl rfl rfl hdv_X2_podTold ⟨Nat.le_of_ble_eq_true rfl, Nat.le_of_ble_eq_true rfl⟩ hK hP hD rfl rfl rfl rfl hl.1 rfl (Nat.le_of_ble_eq_true rfl) dX2_digest_147 ⟨Nat.le_of_ble_eq_true rfl, Nat.le_of_ble_eq_true rfl⟩) hP hS hA (fun H locs hP hS => ?_)
        refine lv_i2l hx hb dX2_digest_150 rfl ?_
        refine lv_ladd hx hb dX2_digest_151 ?_
        refine lv_lstore_n (lv' := [(1, .long ((x1 * 31) + (v10).toInt64)), (0, .ref (a 0)), (3, .int x3), (4, .int x4)]) hx hb dX2_digest_152 rfl hl (by decide) rfl (fun ls hl => ?_)
        refine lv_iinc (v := (x4 + 1)) (lv' := [(4, .int (x4 + 1)), (1, .long ((x1 * 31) + (v10).toInt64)), (0, .ref (a 0)), (3, .int x3)]) hx hb dX2_digest_153 hl (k := 3) rfl rfl (by decide) rfl (fun ls hl => ?_)
        refine lv_goto (tgt := 131) hx hb dX2_digest_156 (by decide) ?_
        exact ih ((x1 * 31) + (v10).toInt64) x3 (x4 + 1) S _ _ hP hD hS ls (lv_sub hl [2, 1, 3, 0] rfl) hf
  have L120 : ∀ (n : Nat) (x1 : Int64) (x3 : Int32) (S : RS) (H : Heap) (locs : List Loc), va_P D vwCl (mwl Z a S) H → va_D A (mwl Z a S) → va_S A s.heap H locs → ∀ ls : Array Slot, lv_has ls 5 [(0, .ref (a 0)), (1, .long x1), (3, .int x3)] → f_X2_digest_L120 n x1 x3 S = some (r, S') → W p l e rm_X2_digest s m ([.ref (a 0)] : List Value).toArray below meth c H locs 0 0 (MQ below (zMl D A (mwl Z a S') r) ([.ref (a 0)] : List Value).toArray s 0 0 A) (F0 m 120 ls []) := by
    intro n
    induction n with
    | zero =>
      intro x1 x3 S H locs hP hD hS ls hl hf
      exact no_r hf
    | succ n ih =>
      intro x1 x3 S H locs hP hD hS ls hl hf
      rw [f_X2_digest_L120] at hf
      refine lv_iload_n hx hb dX2_digest_120 rfl (lv_at hl 2 rfl) ?_
      refine lv_aload_n hx hb dX2_digest_121 rfl (lv_at hl 0 rfl) ?_
      refine va_get (D := D) (ci := 2) (v := .int (S.1 2)) (C := RX2) (T := TX2) (N := 7) hx hb hts hin hown hK hP 0 rfl rfl 2 (by decide) (hts (.fieldLink RX2 33 "PodGuidewayModel" "pods" "I") (List.mem_of_getElem? (i := 5) rfl)) (fun _ h9 => h9) rfl dX2_digest_122 ?_
      refine lv_icmp_ge (tgt := 165) hx hb dX2_digest_125 (by decide) (fun c4 => ?_) (fun c4 => ?_)
      · have hf := if_t hf c4
        refine lv_iconst (v := 0) hx hb dX2_digest_165 (by decide) ?_
        refine lv_istore_n (lv' := [(3, .int 0), (0, .ref (a 0)), (1, .long x1)]) hx hb dX2_digest_166 rfl hl (by decide) rfl (fun ls hl => ?_)
        exact L167 FU x1 0 S _ _ hP hD hS ls (lv_sub hl [1, 2, 0] rfl) hf
      · have hf := if_f hf c4
        refine lv_iconst (v := 0) hx hb dX2_digest_128 (by decide) ?_
        refine lv_istore (lv' := [(4, .int 0), (0, .ref (a 0)), (1, .long x1), (3, .int x3)]) hx hb dX2_digest_129 hl (by decide) rfl (fun ls hl => ?_)
        exact L131 _ ih FU x1 x3 0 S _ _ hP hD hS ls (lv_sub hl [1, 2, 3, 0] rfl) hf
  have L80 : ∀ (κ38 : Int64 → Int32 → RS → Option (Int64 × RS)), (∀ (x1 : Int64) (x3 : Int32) (S : RS) (H : Heap) (locs : List Loc), va_P D vwCl (mwl Z a S) H → va_D A (mwl Z a S) → va_S A s.heap H locs → ∀ ls : Array Slot, lv_has ls 5 [(0, .ref (a 0)), (1, .long x1), (3, .int x3)] → κ38 x1 x3 S = some (r, S') → W p l e rm_X2_digest s m ([.ref (a 0)] : List Value).toArray below meth c H locs 0 0 (MQ below (zMl D A (mwl Z a S') r) ([.ref (a 0)] : List Value).toArray s 0 0 A) (F0 m 38 ls [])) → ∀ (n : Nat) (x1 : Int64) (x3 : Int32) (x4 : Int32) (S : RS) (H : Heap) (locs : List Loc), va_P D vwCl (mwl Z a S) H → va_D A (mwl Z a S) → va_S A s.heap H locs → ∀ ls : Array Slot, lv_has ls 5 [(0, .ref (a 0)), (1, .long x1), (3, .int x3), (4, .int x4)] → f_X2_digest_L80 κ38 n x1 x3 x4 S = some (r, S') → W p l e rm_X2_digest s m ([.ref (a 0)] : List Value).toArray below meth c H locs 0 0 (MQ below (zMl D A (mwl Z a S') r) ([.ref (a 0)] : List Value).toArray s 0 0 A) (F0 m 80 ls []) := by
    intro κ38 hκ38 n
    induction n with
    | zero =>
      intro x1 x3 x4 S H locs hP hD hS ls hl hf
      exact no_r hf
    | succ n ih =>
      intro x1 x3 x4 S H locs hP hD hS ls hl hf
      rw [f_X2_digest_L80] at hf
      refine lv_iload hx hb dX2_digest_80 (lv_at hl 3 rfl) ?_
      refine lv_aload_n hx hb dX2_digest_82 rfl (lv_at hl 0 rfl) ?_
      refine lv_iload_n hx hb dX2_digest_83 rfl (lv_at hl 2 rfl) ?_
      refine lv_iconst (v := 1) hx hb dX2_digest_84 (by decide) ?_
      obtain ⟨v13, hv12, hf⟩ := ob_some hf
      refine zc_i (z_VD (As := [.int x3, .int 1]) (rest := [.int x4]) (q0 := 0) (ci := 2) ⟨hx, hb, hml, hown, hts⟩ (m_X2_st l D Z a S x3 1 v13 hv12) gX2_digest_X2_st rfl rfl rfl hdv_X2_st ⟨Nat.le_of_ble_eq_true rfl, Nat.le_of_ble_eq_true rfl⟩ hK hP hD rfl rfl rfl rfl hl.1 rfl (Nat.le_of_ble_eq_true rfl) dX2_digest_85 ⟨Nat.le_of_ble_eq_true rfl, Nat.le_of_ble_eq_true rfl⟩) hP hS hA (fun H locs hP hS => ?_)
      refine lv_icmp_ge (tgt := 112) hx hb dX2_digest_88 (by decide) (fun c14 => ?_) (fun c14 => ?_)
      · have hf := if_t hf c14
        refine lv_iinc (v := (x3 + 1)) (lv' := [(3, .int (x3 + 1)), (0, .ref (a 0)), (1, .long x1), (4, .int x4)]) hx hb dX2_digest_112 hl (k := 2) rfl rfl (by decide) rfl (fun ls hl => ?_)
        refine lv_goto (tgt := 38) hx hb dX2_digest_115 (by decide) ?_
        exact hκ38 x1 (x3 + 1) S _ _ hP hD hS ls (lv_sub hl [1, 2, 0] rfl) hf
      · have hf := if_f hf c14
        refine lv_lload_n hx hb dX2_digest_91 rfl (lv_at hl 1 rfl) ?_
        refine lv_ldc2 (v := 31) hx hb hown (hts (.constantLong RX2 142 (31)) (List.mem_of_getElem? (i := 3) rfl)) dX2_digest_92 ?_
        refine lv_lmul hx hb dX2_digest_95 ?_
        refine lv_aload_n hx hb dX2_digest_96 rfl (lv_at hl 0 rfl) ?_
        refine lv_iload_n hx hb dX2_digest_97 rfl (lv_at hl 2 rfl) ?_
        refine lv_iload hx hb dX2_digest_98 (lv_at hl 3 rfl) ?_
        obtain ⟨v16, hv15, hf⟩ := ob_some hf
        refine zc_i (z_VD (As := [.int x3, .int x4]) (rest := [.long (x1 * 31)]) (q0 := 0) (ci := 2) ⟨hx, hb, hml, hown, hts⟩ (m_X2_rider l D Z a S x3 x4 v16 hv15) gX2_digest_X2_rider rfl rfl rfl hdv_X2_rider ⟨Nat.le_of_ble_eq_true rfl, Nat.le_of_ble_eq_true rfl⟩ hK hP hD rfl rfl rfl rfl hl.1 rfl (Nat.le_of_ble_eq_true rfl) dX2_digest_100 ⟨Nat.le_of_ble_eq_true rfl, Nat.le_of_ble_eq_true rfl⟩) hP hS hA (fun H locs hP hS => ?_)
        refine lv_i2l hx hb dX2_digest_103 rfl ?_
        refine lv_ladd hx hb dX2_digest_104 ?_
        refine lv_lstore_n (lv' := [(1, .long ((x1 * 31) + (v16).toInt64)), (0, .ref (a 0)), (3, .int x3), (4, .int x4)]) hx hb dX2_digest_105 rfl hl (by decide) rfl (fun ls hl => ?_)
        refine lv_iinc (v := (x4 + 1)) (lv' := [(4, .int (x4 + 1)), (1, .long ((x1 * 31) + (v16).toInt64)), (0, .ref (a 0)), (3, .int x3)]) hx hb dX2_digest_106 hl (k := 3) rfl rfl (by decide) rfl (fun ls hl => ?_)
        refine lv_goto (tgt := 80) hx hb dX2_digest_109 (by decide) ?_
        exact ih ((x1 * 31) + (v16).toInt64) x3 (x4 + 1) S _ _ hP hD hS ls (lv_sub hl [2, 1, 3, 0] rfl) hf
  have L49 : ∀ (κ38 : Int64 → Int32 → RS → Option (Int64 × RS)), (∀ (x1 : Int64) (x3 : Int32) (S : RS) (H : Heap) (locs : List Loc), va_P D vwCl (mwl Z a S) H → va_D A (mwl Z a S) → va_S A s.heap H locs → ∀ ls : Array Slot, lv_has ls 5 [(0, .ref (a 0)), (1, .long x1), (3, .int x3)] → κ38 x1 x3 S = some (r, S') → W p l e rm_X2_digest s m ([.ref (a 0)] : List Value).toArray below meth c H locs 0 0 (MQ below (zMl D A (mwl Z a S') r) ([.ref (a 0)] : List Value).toArray s 0 0 A) (F0 m 38 ls [])) → ∀ (n : Nat) (x1 : Int64) (x3 : Int32) (x4 : Int32) (S : RS) (H : Heap) (locs : List Loc), va_P D vwCl (mwl Z a S) H → va_D A (mwl Z a S) → va_S A s.heap H locs → ∀ ls : Array Slot, lv_has ls 5 [(0, .ref (a 0)), (1, .long x1), (3, .int x3), (4, .int x4)] → f_X2_digest_L49 κ38 n x1 x3 x4 S = some (r, S') → W p l e rm_X2_digest s m ([.ref (a 0)] : List Value).toArray below meth c H locs 0 0 (MQ below (zMl D A (mwl Z a S') r) ([.ref (a 0)] : List Value).toArray s 0 0 A) (F0 m 49 ls []) := by
    intro κ38 hκ38 n
    induction n with
    | zero =>
      intro x1 x3 x4 S H locs hP hD hS ls hl hf
      exact no_r hf
    | succ n ih =>
      intro x1 x3 x4 S H locs hP hD hS ls hl hf
      rw [f_X2_digest_L49] at hf
      refine lv_iload hx hb dX2_digest_49 (lv_at hl 3 rfl) ?_
      refine lv_bipush (v := 7) hx hb dX2_digest_51 (by decide) ?_
      refine lv_icmp_ge (tgt := 77) hx hb dX2_digest_53 (by decide) (fun c11 => ?_) (fun c11 => ?_)
      · have hf := if_t hf c11
        refine lv_iconst (v := 0) hx hb dX2_digest_77 (by decide) ?_
        refine lv_istore (lv' := [(4, .int 0), (0, .ref (a 0)), (1, .long x1), (3, .int x3)]) hx hb dX2_digest_78 hl (by decide) rfl (fun ls hl => ?_)
        exact L80 κ38 hκ38 FU x1 x3 0 S _ _ hP hD hS ls (lv_sub hl [1, 2, 3, 0] rfl) hf
      · have hf := if_f hf c11
        refine lv_lload_n hx hb dX2_digest_56 rfl (lv_at hl 1 rfl) ?_
        refine lv_ldc2 (v := 31) hx hb hown (hts (.constantLong RX2 142 (31)) (List.mem_of_getElem? (i := 3) rfl)) dX2_digest_57 ?_
        refine lv_lmul hx hb dX2_digest_60 ?_
        refine lv_aload_n hx hb dX2_digest_61 rfl (lv_at hl 0 rfl) ?_
        refine lv_iload_n hx hb dX2_digest_62 rfl (lv_at hl 2 rfl) ?_
        refine lv_iload hx hb dX2_digest_63 (lv_at hl 3 rfl) ?_
        obtain ⟨v18, hv17, hf⟩ := ob_some hf
        refine zc_i (z_VD (As := [.int x3, .int x4]) (rest := [.long (x1 * 31)]) (q0 := 0) (ci := 2) ⟨hx, hb, hml, hown, hts⟩ (m_X2_stationTold l D Z a S x3 x4 v18 hv17) gX2_digest_X2_stationTold rfl rfl rfl hdv_X2_stationTold ⟨Nat.le_of_ble_eq_true rfl, Nat.le_of_ble_eq_true rfl⟩ hK hP hD rfl rfl rfl rfl hl.1 rfl (Nat.le_of_ble_eq_true rfl) dX2_digest_65 ⟨Nat.le_of_ble_eq_true rfl, Nat.le_of_ble_eq_true rfl⟩) hP hS hA (fun H locs hP hS => ?_)
        refine lv_i2l hx hb dX2_digest_68 rfl ?_
        refine lv_ladd hx hb dX2_digest_69 ?_
        refine lv_lstore_n (lv' := [(1, .long ((x1 * 31) + (v18).toInt64)), (0, .ref (a 0)), (3, .int x3), (4, .int x4)]) hx hb dX2_digest_70 rfl hl (by decide) rfl (fun ls hl => ?_)
        refine lv_iinc (v := (x4 + 1)) (lv' := [(4, .int (x4 + 1)), (1, .long ((x1 * 31) + (v18).toInt64)), (0, .ref (a 0)), (3, .int x3)]) hx hb dX2_digest_71 hl (k := 3) rfl rfl (by decide) rfl (fun ls hl => ?_)
        refine lv_goto (tgt := 49) hx hb dX2_digest_74 (by decide) ?_
        exact ih ((x1 * 31) + (v18).toInt64) x3 (x4 + 1) S _ _ hP hD hS ls (lv_sub hl [2, 1, 3, 0] rfl) hf
  have L38 : ∀ (n : Nat) (x1 : Int64) (x3 : Int32) (S : RS) (H : Heap) (locs : List Loc), va_P D vwCl (mwl Z a S) H → va_D A (mwl Z a S) → va_S A s.heap H locs → ∀ ls : Array Slot, lv_has ls 5 [(0, .ref (a 0)), (1, .long x1), (3, .int x3)] → f_X2_digest_L38 n x1 x3 S = some (r, S') → W p l e rm_X2_digest s m ([.ref (a 0)] : List Value).toArray below meth c H locs 0 0 (MQ below (zMl D A (mwl Z a S') r) ([.ref (a 0)] : List Value).toArray s 0 0 A) (F0 m 38 ls []) := by
    intro n
    induction n with
    | zero =>
      intro x1 x3 S H locs hP hD hS ls hl hf
      exact no_r hf
    | succ n ih =>
      intro x1 x3 S H locs hP hD hS ls hl hf
      rw [f_X2_digest_L38] at hf
      refine lv_iload_n hx hb dX2_digest_38 rfl (lv_at hl 2 rfl) ?_
      refine lv_aload_n hx hb dX2_digest_39 rfl (lv_at hl 0 rfl) ?_
      refine va_get (D := D) (ci := 2) (v := .int (S.1 1)) (C := RX2) (T := TX2) (N := 7) hx hb hts hin hown hK hP 0 rfl rfl 1 (by decide) (hts (.fieldLink RX2 26 "PodGuidewayModel" "stations" "I") (List.mem_of_getElem? (i := 4) rfl)) (fun _ h9 => h9) rfl dX2_digest_40 ?_
      refine lv_icmp_ge (tgt := 118) hx hb dX2_digest_43 (by decide) (fun c3 => ?_) (fun c3 => ?_)
      · have hf := if_t hf c3
        refine lv_iconst (v := 0) hx hb dX2_digest_118 (by decide) ?_
        refine lv_istore_n (lv' := [(3, .int 0), (0, .ref (a 0)), (1, .long x1)]) hx hb dX2_digest_119 rfl hl (by decide) rfl (fun ls hl => ?_)
        exact L120 FU x1 0 S _ _ hP hD hS ls (lv_sub hl [1, 2, 0] rfl) hf
      · have hf := if_f hf c3
        refine lv_iconst (v := 0) hx hb dX2_digest_46 (by decide) ?_
        refine lv_istore (lv' := [(4, .int 0), (0, .ref (a 0)), (1, .long x1), (3, .int x3)]) hx hb dX2_digest_47 hl (by decide) rfl (fun ls hl => ?_)
        exact L49 _ ih FU x1 x3 0 S _ _ hP hD hS ls (lv_sub hl [1, 2, 3, 0] rfl) hf
  have L11 : ∀ (n : Nat) (x1 : Int64) (x3 : Int32) (S : RS) (H : Heap) (locs : List Loc), va_P D vwCl (mwl Z a S) H → va_D A (mwl Z a S) → va_S A s.heap H locs → ∀ ls : Array Slot, lv_has ls 5 [(0, .ref (a 0)), (1, .long x1), (3, .int x3)] → f_X2_digest_L11 n x1 x3 S = some (r, S') → W p l e rm_X2_digest s m ([.ref (a 0)] : List Value).toArray below meth c H locs 0 0 (MQ below (zMl D A (mwl Z a S') r) ([.ref (a 0)] : List Value).toArray s 0 0 A) (F0 m 11 ls []) := by
    intro n
    induction n with
    | zero =>
      intro x1 x3 S H locs hP hD hS ls hl hf
      exact no_r hf
    | succ n ih =>
      intro x1 x3 S H locs hP hD hS ls hl hf
      rw [f_X2_digest_L11] at hf
      refine lv_iload_n hx hb dX2_digest_11 rfl (lv_at hl 2 rfl) ?_
      refine lv_bipush (v := 9) hx hb dX2_digest_12 (by decide) ?_
      refine lv_icmp_ge (tgt := 36) hx hb dX2_digest_14 (by decide) (fun c2 => ?_) (fun c2 => ?_)
      · have hf := if_t hf c2
        refine lv_iconst (v := 0) hx hb dX2_digest_36 (by decide) ?_
        refine lv_istore_n (lv' := [(3, .int 0), (0, .ref (a 0)), (1, .long x1)]) hx hb dX2_digest_37 rfl hl (by decide) rfl (fun ls hl => ?_)
        exact L38 FU x1 0 S _ _ hP hD hS ls (lv_sub hl [1, 2, 0] rfl) hf
      · have hf := if_f hf c2
        refine lv_lload_n hx hb dX2_digest_17 rfl (lv_at hl 1 rfl) ?_
        refine lv_ldc2 (v := 31) hx hb hown (hts (.constantLong RX2 142 (31)) (List.mem_of_getElem? (i := 3) rfl)) dX2_digest_18 ?_
        refine lv_lmul hx hb dX2_digest_21 ?_
        refine lv_aload_n hx hb dX2_digest_22 rfl (lv_at hl 0 rfl) ?_
        refine lv_iload_n hx hb dX2_digest_23 rfl (lv_at hl 2 rfl) ?_
        obtain ⟨v20, hv19, hf⟩ := ob_some hf
        refine zc_i (z_VD (As := [.int x3]) (rest := [.long (x1 * 31)]) (q0 := 0) (ci := 2) ⟨hx, hb, hml, hown, hts⟩ (m_X2_counted l D Z a S x3 v20 hv19) gX2_digest_X2_counted rfl rfl rfl hdv_X2_counted ⟨Nat.le_of_ble_eq_true rfl, Nat.le_of_ble_eq_true rfl⟩ hK hP hD rfl rfl rfl rfl hl.1 rfl (Nat.le_of_ble_eq_true rfl) dX2_digest_24 ⟨Nat.le_of_ble_eq_true rfl, Nat.le_of_ble_eq_true rfl⟩) hP hS hA (fun H locs hP hS => ?_)
        refine lv_i2l hx hb dX2_digest_27 rfl ?_
        refine lv_ladd hx hb dX2_digest_28 ?_
        refine lv_lstore_n (lv' := [(1, .long ((x1 * 31) + (v20).toInt64)), (0, .ref (a 0)), (3, .int x3)]) hx hb dX2_digest_29 rfl hl (by decide) rfl (fun ls hl => ?_)
        refine lv_iinc (v := (x3 + 1)) (lv' := [(3, .int (x3 + 1)), (1, .long ((x1 * 31) + (v20).toInt64)), (0, .ref (a 0))]) hx hb dX2_digest_30 hl (k := 2) rfl rfl (by decide) rfl (fun ls hl => ?_)
        refine lv_goto (tgt := 11) hx hb dX2_digest_33 (by decide) ?_
        exact ih ((x1 * 31) + (v20).toInt64) (x3 + 1) S _ _ hP hD hS ls (lv_sub hl [2, 1, 0] rfl) hf
  unfold f_X2_digest at hf
  refine lv_aload_n hx hb dX2_digest_0 rfl (lv_at hl 0 rfl) ?_
  refine lv_iconst (v := 0) hx hb dX2_digest_1 (by decide) ?_
  refine va_put (D := D) (ci := 2) (v := .int 0) (ty := .int) (C := RX2) (T := TX2) (N := 7) hx hb hts hin tyX2 tyX2_ok nmX2 hown hK hP hD hS 0 rfl rfl 0 (by decide) (hts (.fieldLink RX2 22 "PodGuidewayModel" "thrown" "I") (List.mem_of_getElem? (i := 1) rfl)) (fun _ h9 => h9) rfl (by decide +kernel) rfl rfl (Nat.le_of_ble_eq_true rfl) dX2_digest_2 (fun H locs hP hD hS => ?_)
  obtain ⟨S1, eS1, hf⟩ := lt_ex hf
  have hP : va_P D vwCl (mwl Z a S1) H := by rw [eS1]; exact hP
  have hD : va_D A (mwl Z a S1) := by rw [eS1]; exact hD
  refine lv_ldc2 (v := 1399) hx hb hown (hts (.constantLong RX2 140 (1399)) (List.mem_of_getElem? (i := 2) rfl)) dX2_digest_5 ?_
  refine lv_lstore_n (lv' := [(1, .long 1399), (0, .ref (a 0))]) hx hb dX2_digest_8 rfl hl (by decide) rfl (fun ls hl => ?_)
  refine lv_iconst (v := 0) hx hb dX2_digest_9 (by decide) ?_
  refine lv_istore_n (lv' := [(3, .int 0), (1, .long 1399), (0, .ref (a 0))]) hx hb dX2_digest_10 rfl hl (by decide) rfl (fun ls hl => ?_)
  exact L11 FU 1399 0 S1 _ _ hP hD hS ls (lv_sub hl [2, 1, 0] rfl) hf

