theorem ng_31 : ∀ w ∈ (vx_atS RX1 31 "java/lang/IllegalStateException" ["java/lang/RuntimeException", "java/lang/Exception"]).filter (fun w => !goodWord w), w ∈ [Cond.castable "java/lang/IllegalStateException" "java/lang/IllegalStateException", Cond.declares (Bundle.initS "java/lang/RuntimeException"), Cond.declares (Bundle.initS "java/lang/Exception"), Cond.declares (Bundle.initS "java/lang/Throwable")] := by decide +kernel
theorem ng_105 : ∀ w ∈ (vx_atS RX1 105 "java/lang/IndexOutOfBoundsException" ["java/lang/RuntimeException", "java/lang/Exception"]).filter (fun w => !goodWord w), w ∈ [Cond.castable "java/lang/IndexOutOfBoundsException" "java/lang/IndexOutOfBoundsException", Cond.declares (Bundle.initS "java/lang/RuntimeException"), Cond.declares (Bundle.initS "java/lang/Exception"), Cond.declares (Bundle.initS "java/lang/Throwable")] := by decide +kernel
theorem ng_158 : ∀ w ∈ (vx_atS RX1 158 "java/lang/IllegalArgumentException" ["java/lang/RuntimeException", "java/lang/Exception"]).filter (fun w => !goodWord w), w ∈ [Cond.castable "java/lang/IllegalArgumentException" "java/lang/IllegalArgumentException", Cond.declares (Bundle.initS "java/lang/RuntimeException"), Cond.declares (Bundle.initS "java/lang/Exception"), Cond.declares (Bundle.initS "java/lang/Throwable")] := by decide +kernel
theorem gd_101_105 : ∀ w ∈ Cond.classLink RX1 101 "java/lang/IndexOutOfBoundsException" :: Cond.initialized "java/lang/IndexOutOfBoundsException" :: vx_atS RX1 105 "java/lang/IndexOutOfBoundsException" ["java/lang/RuntimeException", "java/lang/Exception"], vx_ot w = true := by decide +kernel
theorem gd_154_158 : ∀ w ∈ Cond.classLink RX1 154 "java/lang/IllegalArgumentException" :: Cond.initialized "java/lang/IllegalArgumentException" :: vx_atS RX1 158 "java/lang/IllegalArgumentException" ["java/lang/RuntimeException", "java/lang/Exception"], vx_ot w = true := by decide +kernel
theorem gd_27_31 : ∀ w ∈ Cond.classLink RX1 27 "java/lang/IllegalStateException" :: Cond.initialized "java/lang/IllegalStateException" :: vx_atS RX1 31 "java/lang/IllegalStateException" ["java/lang/RuntimeException", "java/lang/Exception"], vx_ot w = true := by decide +kernel
def f_X1_needPlace (S T : RS) (p1 : Int32) : Option (Except String (Unit)) :=
  if p1 < 0 then
    some (.error "java/lang/IndexOutOfBoundsException")
  else
    if p1 < 24 then
      okx (
        some ())
    else
      some (.error "java/lang/IndexOutOfBoundsException")
abbrev rm_X1_needPlace : Room := { frames := 6, cells := 0, slots := 0, locals := 90 }
abbrev rm_X1_needPlace_er : Room := { frames := 6, cells := 1, slots := 6, locals := 90 }
theorem hdv_X1_needPlace : yX1_needPlace.cls = RX1 ∧ yX1_needPlace.cls ≠ "java/lang/invoke/MethodHandle" ∧ yX1_needPlace.cls ≠ "java/lang/invoke/VarHandle" ∧ (parseMethodDescriptor yX1_needPlace.desc).map (fun d => d.parameters.length) = some 1 := by decide +kernel
set_option maxHeartbeats 4000000 in
set_option maxRecDepth 100000 in
theorem ok_X1_needPlace (l : Launch) (D : va_G) (Z : Nat → ClassId) (o : Nat) (a b : Nat → Nat) (S T : RS) (p1 : Int32)  (hf : f_X1_needPlace S T p1 = some (.ok ())) : GOv l yX1_needPlace wsX1_needPlace rm_X1_needPlace D Z xE [.ref o, .int p1] (owl Z o a b S T) := by
  refine GOv.of (cc := cX1_needPlace) (nL := 2) (ret := none) (by decide +kernel) rfl (Nat.le_of_ble_eq_true rfl) ?_
  intro p e s m below meth c A0 hC hE hA0 hA hP hK hD hS ls hl
  obtain ⟨hx, hb, hr, hml, hown, hts, hlk, -⟩ := hC
  have hown : s.vm.findClass RX1 = some m.cls := hown
  have hNm := hE.2.2.2.1
  have hNf := hE.2.2.2.2.1
  have hl : lv_has ls 2 [(0, .ref o), (1, .int p1)] := hl
  unfold f_X1_needPlace at hf
  refine lv_iload_n hx hb dX1_needPlace_0 rfl (lv_at hl 1 rfl) ?_
  refine lv_if_lt (tgt := 10) hx hb dX1_needPlace_1 (by decide) (fun c1 => ?_) (fun c1 => ?_)
  · have hf := if_t hf c1
    exact er_ok hf
  · have hf := if_f hf c1
    refine lv_iload_n hx hb dX1_needPlace_4 rfl (lv_at hl 1 rfl) ?_
    refine lv_bipush (v := 24) hx hb dX1_needPlace_5 (by decide) ?_
    refine lv_icmp_lt (tgt := 20) hx hb dX1_needPlace_7 (by decide) (fun c2 => ?_) (fun c2 => ?_)
    · have hf := if_t hf c2
      have hf := okx_ok hf
      exact zr_v hx hb hr hlk hS (Nat.le_of_ble_eq_true rfl) (Nat.le_of_ble_eq_true rfl) dX1_needPlace_20
    · have hf := if_f hf c2
      exact er_ok hf

def f_X1_needStation (S T : RS) (p1 : Int32) : Option (Except String (Unit)) :=
  if p1 < 0 then
    some (.error "java/lang/IndexOutOfBoundsException")
  else
    if p1 < (S.1 1) then
      okx (
        some ())
    else
      some (.error "java/lang/IndexOutOfBoundsException")
abbrev rm_X1_needStation : Room := { frames := 6, cells := 0, slots := 0, locals := 90 }
abbrev rm_X1_needStation_er : Room := { frames := 6, cells := 1, slots := 6, locals := 90 }
theorem hdv_X1_needStation : yX1_needStation.cls = RX1 ∧ yX1_needStation.cls ≠ "java/lang/invoke/MethodHandle" ∧ yX1_needStation.cls ≠ "java/lang/invoke/VarHandle" ∧ (parseMethodDescriptor yX1_needStation.desc).map (fun d => d.parameters.length) = some 1 := by decide +kernel
set_option maxHeartbeats 4000000 in
set_option maxRecDepth 100000 in
theorem ok_X1_needStation (l : Launch) (D : va_G) (Z : Nat → ClassId) (o : Nat) (a b : Nat → Nat) (S T : RS) (p1 : Int32)  (hf : f_X1_needStation S T p1 = some (.ok ())) : GOv l yX1_needStation wsX1_needStation rm_X1_needStation D Z xE [.ref o, .int p1] (owl Z o a b S T) := by
  refine GOv.of (cc := cX1_needStation) (nL := 2) (ret := none) (by decide +kernel) rfl (Nat.le_of_ble_eq_true rfl) ?_
  intro p e s m below meth c A0 hC hE hA0 hA hP hK hD hS ls hl
  obtain ⟨hx, hb, hr, hml, hown, hts, hlk, -⟩ := hC
  have hown : s.vm.findClass RX1 = some m.cls := hown
  have hNm := hE.2.2.2.1
  have hNf := hE.2.2.2.2.1
  have hin1 : ∀ w ∈ wsX10, w ∈ wsX1_needStation := fun w h => List.mem_cons_of_mem _ (List.mem_append_left _ (List.mem_append_left _ (List.mem_append_right _ h)))
  have hin0 : ∀ w ∈ wsX00, w ∈ wsX1_needStation := fun w h => List.mem_cons_of_mem _ (List.mem_append_left _ (List.mem_append_right _ h))
  have hl : lv_has ls 2 [(0, .ref o), (1, .int p1)] := hl
  unfold f_X1_needStation at hf
  refine lv_iload_n hx hb dX1_needStation_0 rfl (lv_at hl 1 rfl) ?_
  refine lv_if_lt (tgt := 15) hx hb dX1_needStation_1 (by decide) (fun c1 => ?_) (fun c1 => ?_)
  · have hf := if_t hf c1
    exact er_ok hf
  · have hf := if_f hf c1
    refine lv_iload_n hx hb dX1_needStation_4 rfl (lv_at hl 1 rfl) ?_
    refine lv_aload_n hx hb dX1_needStation_5 rfl (lv_at hl 0 rfl) ?_
    refine va_get (D := D) (ci := 1) (v := .ref (a 0)) (C := RX1) (T := TX1) (N := 2) hx hb hts hin1 hown hK hP 0 rfl rfl 0 (by decide) (hts (.fieldLink RX1 10 "PodGuideway" "now" "LPodGuideway$Ring;") (List.mem_of_getElem? (i := 3) rfl)) (fun _ h9 => h9) rfl dX1_needStation_6 ?_
    refine va_getN (D := D) (ci := 0) (v := .int (S.1 1)) (C := RX0) (T := TX0) (N := 17) hx hb hts hin0 hown hK hP 1 rfl rfl 1 (by decide) (va_Nw.use rfl (hNf (23, "stations", "I") (List.mem_of_getElem? (i := 0) rfl))) (fun _ h9 => h9) rfl dX1_needStation_9 ?_
    refine lv_icmp_lt (tgt := 25) hx hb dX1_needStation_12 (by decide) (fun c2 => ?_) (fun c2 => ?_)
    · have hf := if_t hf c2
      have hf := okx_ok hf
      exact zr_v hx hb hr hlk hS (Nat.le_of_ble_eq_true rfl) (Nat.le_of_ble_eq_true rfl) dX1_needStation_25
    · have hf := if_f hf c2
      exact er_ok hf

def f_X1_needTwoStations (S T : RS) (p1 : Int32) (p2 : Int32) : Option (Except String (Unit)) :=
  obx (f_X1_needStation S T p1) (
  obx (f_X1_needStation S T p2) (
  if p1 = p2 then
    some (.error "java/lang/IllegalArgumentException")
  else
    okx (
      some ())))
abbrev rm_X1_needTwoStations : Room := { frames := 7, cells := 0, slots := 0, locals := 111 }
abbrev rm_X1_needTwoStations_er : Room := { frames := 7, cells := 1, slots := 6, locals := 111 }
theorem hdv_X1_needTwoStations : yX1_needTwoStations.cls = RX1 ∧ yX1_needTwoStations.cls ≠ "java/lang/invoke/MethodHandle" ∧ yX1_needTwoStations.cls ≠ "java/lang/invoke/VarHandle" ∧ (parseMethodDescriptor yX1_needTwoStations.desc).map (fun d => d.parameters.length) = some 2 := by decide +kernel
set_option maxHeartbeats 4000000 in
set_option maxRecDepth 100000 in
theorem ok_X1_needTwoStations (l : Launch) (D : va_G) (Z : Nat → ClassId) (o : Nat) (a b : Nat → Nat) (S T : RS) (p1 : Int32) (p2 : Int32)  (hf : f_X1_needTwoStations S T p1 p2 = some (.ok ())) : GOv l yX1_needTwoStations wsX1_needTwoStations rm_X1_needTwoStations D Z xE [.ref o, .int p1, .int p2] (owl Z o a b S T) := by
  refine GOv.of (cc := cX1_needTwoStations) (nL := 3) (ret := none) (by decide +kernel) rfl (Nat.le_of_ble_eq_true rfl) ?_
  intro p e s m below meth c A0 hC hE hA0 hA hP hK hD hS ls hl
  obtain ⟨hx, hb, hr, hml, hown, hts, hlk, -⟩ := hC
  have hown : s.vm.findClass RX1 = some m.cls := hown
  have hNm := hE.2.2.2.1
  have hNf := hE.2.2.2.2.1
  have hin1 : ∀ w ∈ wsX10, w ∈ wsX1_needTwoStations := fun w h => List.mem_cons_of_mem _ (List.mem_append_left _ (List.mem_append_left _ (List.mem_append_left _ (List.mem_append_right _ h))))
  have hin0 : ∀ w ∈ wsX00, w ∈ wsX1_needTwoStations := fun w h => List.mem_cons_of_mem _ (List.mem_append_left _ (List.mem_append_left _ (List.mem_append_right _ h)))
  have hl : lv_has ls 3 [(0, .ref o), (1, .int p1), (2, .int p2)] := hl
  unfold f_X1_needTwoStations at hf
  refine lv_aload_n hx hb dX1_needTwoStations_0 rfl (lv_at hl 0 rfl) ?_
  refine lv_iload_n hx hb dX1_needTwoStations_1 rfl (lv_at hl 1 rfl) ?_
  obtain ⟨hv1, hf⟩ := obx_ok hf
  refine zc_v (z_VG (As := [.int p1]) (rest := []) (q0 := 0) (ci := 1) xE_ok hE (hS.up hA0) hA0 ⟨hx, hb, hml, hown, hts⟩ (ok_X1_needStation l D Z o a b S T p1 hv1) gX1_needTwoStations_X1_needStation rfl rfl rfl hdv_X1_needStation ⟨Nat.le_of_ble_eq_true rfl, Nat.le_of_ble_eq_true rfl⟩ hK hP hD rfl rfl rfl rfl hl.1 rfl (Nat.le_of_ble_eq_true rfl) dX1_needTwoStations_2 ⟨Nat.le_of_ble_eq_true rfl, Nat.le_of_ble_eq_true rfl⟩) hP hS hA (fun H locs hP hS => ?_)
  refine lv_aload_n hx hb dX1_needTwoStations_5 rfl (lv_at hl 0 rfl) ?_
  refine lv_iload_n hx hb dX1_needTwoStations_6 rfl (lv_at hl 2 rfl) ?_
  obtain ⟨hv2, hf⟩ := obx_ok hf
  refine zc_v (z_VG (As := [.int p2]) (rest := []) (q0 := 0) (ci := 1) xE_ok hE (hS.up hA0) hA0 ⟨hx, hb, hml, hown, hts⟩ (ok_X1_needStation l D Z o a b S T p2 hv2) gX1_needTwoStations_X1_needStation rfl rfl rfl hdv_X1_needStation ⟨Nat.le_of_ble_eq_true rfl, Nat.le_of_ble_eq_true rfl⟩ hK hP hD rfl rfl rfl rfl hl.1 rfl (Nat.le_of_ble_eq_true rfl) dX1_needTwoStations_7 ⟨Nat.le_of_ble_eq_true rfl, Nat.le_of_ble_eq_true rfl⟩) hP hS hA (fun H locs hP hS => ?_)
  refine lv_iload_n hx hb dX1_needTwoStations_10 rfl (lv_at hl 1 rfl) ?_
  refine lv_iload_n hx hb dX1_needTwoStations_11 rfl (lv_at hl 2 rfl) ?_
  refine lv_icmp_ne (tgt := 25) hx hb dX1_needTwoStations_12 (by decide) (fun c3 => ?_) (fun c3 => ?_)
  · have hf := if_f hf c3
    have hf := okx_ok hf
    exact zr_v hx hb hr hlk hS (Nat.le_of_ble_eq_true rfl) (Nat.le_of_ble_eq_true rfl) dX1_needTwoStations_25
  · have hf := if_t hf c3
    exact er_ok hf

def f_X1_needPod (S T : RS) (p1 : Int32) : Option (Except String (Unit)) :=
  if p1 < 0 then
    some (.error "java/lang/IndexOutOfBoundsException")
  else
    if p1 < (S.1 2) then
      okx (
        some ())
    else
      some (.error "java/lang/IndexOutOfBoundsException")
abbrev rm_X1_needPod : Room := { frames := 6, cells := 0, slots := 0, locals := 90 }
abbrev rm_X1_needPod_er : Room := { frames := 6, cells := 1, slots := 6, locals := 90 }
theorem hdv_X1_needPod : yX1_needPod.cls = RX1 ∧ yX1_needPod.cls ≠ "java/lang/invoke/MethodHandle" ∧ yX1_needPod.cls ≠ "java/lang/invoke/VarHandle" ∧ (parseMethodDescriptor yX1_needPod.desc).map (fun d => d.parameters.length) = some 1 := by decide +kernel
set_option maxHeartbeats 4000000 in
set_option maxRecDepth 100000 in
theorem ok_X1_needPod (l : Launch) (D : va_G) (Z : Nat → ClassId) (o : Nat) (a b : Nat → Nat) (S T : RS) (p1 : Int32)  (hf : f_X1_needPod S T p1 = some (.ok ())) : GOv l yX1_needPod wsX1_needPod rm_X1_needPod D Z xE [.ref o, .int p1] (owl Z o a b S T) := by
  refine GOv.of (cc := cX1_needPod) (nL := 2) (ret := none) (by decide +kernel) rfl (Nat.le_of_ble_eq_true rfl) ?_
  intro p e s m below meth c A0 hC hE hA0 hA hP hK hD hS ls hl
  obtain ⟨hx, hb, hr, hml, hown, hts, hlk, -⟩ := hC
  have hown : s.vm.findClass RX1 = some m.cls := hown
  have hNm := hE.2.2.2.1
  have hNf := hE.2.2.2.2.1
  have hin1 : ∀ w ∈ wsX10, w ∈ wsX1_needPod := fun w h => List.mem_cons_of_mem _ (List.mem_append_left _ (List.mem_append_left _ (List.mem_append_right _ h)))
  have hin0 : ∀ w ∈ wsX00, w ∈ wsX1_needPod := fun w h => List.mem_cons_of_mem _ (List.mem_append_left _ (List.mem_append_right _ h))
  have hl : lv_has ls 2 [(0, .ref o), (1, .int p1)] := hl
  unfold f_X1_needPod at hf
  refine lv_iload_n hx hb dX1_needPod_0 rfl (lv_at hl 1 rfl) ?_
  refine lv_if_lt (tgt := 15) hx hb dX1_needPod_1 (by decide) (fun c1 => ?_) (fun c1 => ?_)
  · have hf := if_t hf c1
    exact er_ok hf
  · have hf := if_f hf c1
    refine lv_iload_n hx hb dX1_needPod_4 rfl (lv_at hl 1 rfl) ?_
    refine lv_aload_n hx hb dX1_needPod_5 rfl (lv_at hl 0 rfl) ?_
    refine va_get (D := D) (ci := 1) (v := .ref (a 0)) (C := RX1) (T := TX1) (N := 2) hx hb hts hin1 hown hK hP 0 rfl rfl 0 (by decide) (hts (.fieldLink RX1 10 "PodGuideway" "now" "LPodGuideway$Ring;") (List.mem_of_getElem? (i := 3) rfl)) (fun _ h9 => h9) rfl dX1_needPod_6 ?_
    refine va_getN (D := D) (ci := 0) (v := .int (S.1 2)) (C := RX0) (T := TX0) (N := 17) hx hb hts hin0 hown hK hP 1 rfl rfl 2 (by decide) (va_Nw.use rfl (hNf (46, "pods", "I") (List.mem_of_getElem? (i := 1) rfl))) (fun _ h9 => h9) rfl dX1_needPod_9 ?_
    refine lv_icmp_lt (tgt := 25) hx hb dX1_needPod_12 (by decide) (fun c2 => ?_) (fun c2 => ?_)
    · have hf := if_t hf c2
      have hf := okx_ok hf
      exact zr_v hx hb hr hlk hS (Nat.le_of_ble_eq_true rfl) (Nat.le_of_ble_eq_true rfl) dX1_needPod_25
    · have hf := if_f hf c2
      exact er_ok hf

def f_X1_needWhat (S T : RS) (p1 : Int32) (p2 : Int32) (p3 : Int32) : Option (Except String (Unit)) :=
  if p1 < p2 then
    some (.error "java/lang/IndexOutOfBoundsException")
  else
    if p1 ≤ p3 then
      okx (
        some ())
    else
      some (.error "java/lang/IndexOutOfBoundsException")
abbrev rm_X1_needWhat : Room := { frames := 6, cells := 0, slots := 0, locals := 90 }
abbrev rm_X1_needWhat_er : Room := { frames := 6, cells := 1, slots := 6, locals := 90 }
theorem hdv_X1_needWhat : yX1_needWhat.cls = RX1 ∧ yX1_needWhat.cls ≠ "java/lang/invoke/MethodHandle" ∧ yX1_needWhat.cls ≠ "java/lang/invoke/VarHandle" ∧ (parseMethodDescriptor yX1_needWhat.desc).map (fun d => d.parameters.length) = some 3 := by decide +kernel
set_option maxHeartbeats 4000000 in
set_option maxRecDepth 100000 in
theorem ok_X1_needWhat (l : Launch) (D : va_G) (Z : Nat → ClassId) (o : Nat) (a b : Nat → Nat) (S T : RS) (p1 : Int32) (p2 : Int32) (p3 : Int32)  (hf : f_X1_needWhat S T p1 p2 p3 = some (.ok ())) : GOv l yX1_needWhat wsX1_needWhat rm_X1_needWhat D Z xE [.ref o, .int p1, .int p2, .int p3] (owl Z o a b S T) := by
  refine GOv.of (cc := cX1_needWhat) (nL := 4) (ret := none) (by decide +kernel) rfl (Nat.le_of_ble_eq_true rfl) ?_
  intro p e s m below meth c A0 hC hE hA0 hA hP hK hD hS ls hl
  obtain ⟨hx, hb, hr, hml, hown, hts, hlk, -⟩ := hC
  have hown : s.vm.findClass RX1 = some m.cls := hown
  have hNm := hE.2.2.2.1
  have hNf := hE.2.2.2.2.1
  have hl : lv_has ls 4 [(0, .ref o), (1, .int p1), (2, .int p2), (3, .int p3)] := hl
  unfold f_X1_needWhat at hf
  refine lv_iload_n hx hb dX1_needWhat_0 rfl (lv_at hl 1 rfl) ?_
  refine lv_iload_n hx hb dX1_needWhat_1 rfl (lv_at hl 2 rfl) ?_
  refine lv_icmp_lt (tgt := 10) hx hb dX1_needWhat_2 (by decide) (fun c1 => ?_) (fun c1 => ?_)
  · have hf := if_t hf c1
    exact er_ok hf
  · have hf := if_f hf c1
    refine lv_iload_n hx hb dX1_needWhat_5 rfl (lv_at hl 1 rfl) ?_
    refine lv_iload_n hx hb dX1_needWhat_6 rfl (lv_at hl 3 rfl) ?_
    refine lv_icmp_le (tgt := 20) hx hb dX1_needWhat_7 (by decide) (fun c2 => ?_) (fun c2 => ?_)
    · have hf := if_t hf c2
      have hf := okx_ok hf
      exact zr_v hx hb hr hlk hS (Nat.le_of_ble_eq_true rfl) (Nat.le_of_ble_eq_true rfl) dX1_needWhat_20
    · have hf := if_f hf c2
      exact er_ok hf

def f_X1_needMinutes (S T : RS) (p1 : Int32) : Option (Except String (Unit)) :=
  if p1 < 1 then
    some (.error "java/lang/IllegalArgumentException")
  else
    if p1 ≤ 100 then
      okx (
        some ())
    else
      some (.error "java/lang/IllegalArgumentException")
abbrev rm_X1_needMinutes : Room := { frames := 6, cells := 0, slots := 0, locals := 90 }
abbrev rm_X1_needMinutes_er : Room := { frames := 6, cells := 1, slots := 6, locals := 90 }
theorem hdv_X1_needMinutes : yX1_needMinutes.cls = RX1 ∧ yX1_needMinutes.cls ≠ "java/lang/invoke/MethodHandle" ∧ yX1_needMinutes.cls ≠ "java/lang/invoke/VarHandle" ∧ (parseMethodDescriptor yX1_needMinutes.desc).map (fun d => d.parameters.length) = some 1 := by decide +kernel
set_option maxHeartbeats 4000000 in
set_option maxRecDepth 100000 in
theorem ok_X1_needMinutes (l : Launch) (D : va_G) (Z : Nat → ClassId) (o : Nat) (a b : Nat → Nat) (S T : RS) (p1 : Int32)  (hf : f_X1_needMinutes S T p1 = some (.ok ())) : GOv l yX1_needMinutes wsX1_needMinutes rm_X1_needMinutes D Z xE [.ref o, .int p1] (owl Z o a b S T) := by
  refine GOv.of (cc := cX1_needMinutes) (nL := 2) (ret := none) (by decide +kernel) rfl (Nat.le_of_ble_eq_true rfl) ?_
  intro p e s m below meth c A0 hC hE hA0 hA hP hK hD hS ls hl
  obtain ⟨hx, hb, hr, hml, hown, hts, hlk, -⟩ := hC
  have hown : s.vm.findClass RX1 = some m.cls := hown
  have hNm := hE.2.2.2.1
  have hNf := hE.2.2.2.2.1
  have hl : lv_has ls 2 [(0, .ref o), (1, .int p1)] := hl
  unfold f_X1_needMinutes at hf
  refine lv_iload_n hx hb dX1_needMinutes_0 rfl (lv_at hl 1 rfl) ?_
  refine lv_iconst (v := 1) hx hb dX1_needMinutes_1 (by decide) ?_
  refine lv_icmp_lt (tgt := 11) hx hb dX1_needMinutes_2 (by decide) (fun c1 => ?_) (fun c1 => ?_)
  · have hf := if_t hf c1
    exact er_ok hf
  · have hf := if_f hf c1
    refine lv_iload_n hx hb dX1_needMinutes_5 rfl (lv_at hl 1 rfl) ?_
    refine lv_bipush (v := 100) hx hb dX1_needMinutes_6 (by decide) ?_
    refine lv_icmp_le (tgt := 21) hx hb dX1_needMinutes_8 (by decide) (fun c2 => ?_) (fun c2 => ?_)
    · have hf := if_t hf c2
      have hf := okx_ok hf
      exact zr_v hx hb hr hlk hS (Nat.le_of_ble_eq_true rfl) (Nat.le_of_ble_eq_true rfl) dX1_needMinutes_21
    · have hf := if_f hf c2
      exact er_ok hf

def f_X1_build (S T : RS) (p1 : Int32) : Option (Except String (Int32 × RS × RS)) :=
  obx (f_X1_needPlace S T p1) (
  if (S.1 1) < 6 then
    ob (f_X0_stationAtPlace S p1) fun v4 =>
    if v4 = (-1) then
      okx (
        ob2 (f_X0_addStation S p1) fun v8 S7 =>
        some (v8, S7, T))
    else
      some (.error "java/lang/IllegalStateException")
  else
    some (.error "java/lang/IllegalStateException"))
abbrev rm_X1_build : Room := { frames := 7, cells := 0, slots := 0, locals := 111 }
abbrev rm_X1_build_er : Room := { frames := 7, cells := 1, slots := 6, locals := 111 }
theorem hdv_X1_build : yX1_build.cls = RX1 ∧ yX1_build.cls ≠ "java/lang/invoke/MethodHandle" ∧ yX1_build.cls ≠ "java/lang/invoke/VarHandle" ∧ (parseMethodDescriptor yX1_build.desc).map (fun d => d.parameters.length) = some 1 := by decide +kernel
set_option maxHeartbeats 4000000 in
set_option maxRecDepth 100000 in
theorem ok_X1_build (l : Launch) (D : va_G) (Z : Nat → ClassId) (o : Nat) (a b : Nat → Nat) (S T : RS) (p1 : Int32) (r : Int32) (S' T' : RS) (hf : f_X1_build S T p1 = some (.ok (r, S', T'))) : GWi l yX1_build wsX1_build rm_X1_build D Z xE [.ref o, .int p1] (owl Z o a b S T) (owl Z o a b S' T') r 0 0 := by
  refine GWi.of (cc := cX1_build) (nL := 2) (ret := (some .int)) (by decide +kernel) rfl (Nat.le_of_ble_eq_true rfl) ?_
  intro p e s m below meth c A hC hE hA hP hK hD hS ls hl
  obtain ⟨hx, hb, hr, hml, hown, hts, hlk, -⟩ := hC
  have hown : s.vm.findClass RX1 = some m.cls := hown
  have hNm := hE.2.2.2.1
  have hNf := hE.2.2.2.2.1
  have hin1 : ∀ w ∈ wsX10, w ∈ wsX1_build := fun w h => List.mem_cons_of_mem _ (List.mem_append_left _ (List.mem_append_left _ (List.mem_append_left _ (List.mem_append_right _ h))))
  have hin0 : ∀ w ∈ wsX00, w ∈ wsX1_build := fun w h => List.mem_cons_of_mem _ (List.mem_append_left _ (List.mem_append_left _ (List.mem_append_right _ h)))
  have hl : lv_has ls 2 [(0, .ref o), (1, .int p1)] := hl
  unfold f_X1_build at hf
  refine lv_aload_n hx hb dX1_build_0 rfl (lv_at hl 0 rfl) ?_
  refine lv_iload_n hx hb dX1_build_1 rfl (lv_at hl 1 rfl) ?_
  obtain ⟨hv1, hf⟩ := obx_ok hf
  refine zc_v (z_VG (As := [.int p1]) (rest := []) (q0 := 0) (ci := 1) xE_ok hE hS hA ⟨hx, hb, hml, hown, hts⟩ (ok_X1_needPlace l D Z o a b S T p1 hv1) gX1_build_X1_needPlace rfl rfl rfl hdv_X1_needPlace ⟨Nat.le_of_ble_eq_true rfl, Nat.le_of_ble_eq_true rfl⟩ hK hP hD rfl rfl rfl rfl hl.1 rfl (Nat.le_of_ble_eq_true rfl) dX1_build_2 ⟨Nat.le_of_ble_eq_true rfl, Nat.le_of_ble_eq_true rfl⟩) hP hS hA (fun H locs hP hS => ?_)
  refine lv_aload_n hx hb dX1_build_5 rfl (lv_at hl 0 rfl) ?_
  refine va_get (D := D) (ci := 1) (v := .ref (a 0)) (C := RX1) (T := TX1) (N := 2) hx hb hts hin1 hown hK hP 0 rfl rfl 0 (by decide) (hts (.fieldLink RX1 10 "PodGuideway" "now" "LPodGuideway$Ring;") (List.mem_of_getElem? (i := 3) rfl)) (fun _ h9 => h9) rfl dX1_build_6 ?_
  refine va_getN (D := D) (ci := 0) (v := .int (S.1 1)) (C := RX0) (T := TX0) (N := 17) hx hb hts hin0 hown hK hP 1 rfl rfl 1 (by decide) (va_Nw.use rfl (hNf (23, "stations", "I") (List.mem_of_getElem? (i := 0) rfl))) (fun _ h9 => h9) rfl dX1_build_9 ?_
  refine lv_bipush (v := 6) hx hb dX1_build_12 (by decide) ?_
  refine lv_icmp_lt (tgt := 27) hx hb dX1_build_14 (by decide) (fun c2 => ?_) (fun c2 => ?_)
  · have hf := if_t hf c2
    refine lv_aload_n hx hb dX1_build_27 rfl (lv_at hl 0 rfl) ?_
    refine va_get (D := D) (ci := 1) (v := .ref (a 0)) (C := RX1) (T := TX1) (N := 2) hx hb hts hin1 hown hK hP 0 rfl rfl 0 (by decide) (hts (.fieldLink RX1 10 "PodGuideway" "now" "LPodGuideway$Ring;") (List.mem_of_getElem? (i := 3) rfl)) (fun _ h9 => h9) rfl dX1_build_28 ?_
    refine lv_iload_n hx hb dX1_build_31 rfl (lv_at hl 1 rfl) ?_
    obtain ⟨v4, hv3, hf⟩ := ob_some hf
    refine zc_i (z_VN (As := [.int p1]) (rest := []) (q0 := 0) (ci := 0) ⟨hx, hb, hml, hown, hts⟩ (m_X0_stationAtPlace l D Z a S p1 v4 hv3) gX1_build_X0_stationAtPlace_n34 rfl rfl rfl (hNm (34, yX0_stationAtPlace) (List.mem_of_getElem? (i := 1) rfl)) (hts (.initialized RX0) (List.mem_of_getElem? (i := 12) rfl)) (hts (.instanceMethod yX0_stationAtPlace) (List.mem_of_getElem? (i := 11) rfl)) (hts (.selects RX0 yX0_stationAtPlace yX0_stationAtPlace) (List.mem_of_getElem? (i := 13) rfl)) hdv_X0_stationAtPlace ⟨Nat.le_of_ble_eq_true rfl, Nat.le_of_ble_eq_true rfl⟩ hK (hP.sub (ws' := (rwl Z a S)) [1, 2, 3, 4, 5, 6, 7, 8, 9, 10, 11, 12] rfl) (hD.sub (ws' := (rwl Z a S)) [1, 2, 3, 4, 5, 6, 7, 8, 9, 10, 11, 12] (by decide) rfl) rfl rfl rfl rfl hl.1 rfl (Nat.le_of_ble_eq_true rfl) dX1_build_32 ⟨Nat.le_of_ble_eq_true rfl, Nat.le_of_ble_eq_true rfl⟩) hP hS hA (fun H locs hP hS => ?_)
    refine lv_iconst (v := (-1)) hx hb dX1_build_35 (by decide) ?_
    refine lv_icmp_eq (tgt := 49) hx hb dX1_build_36 (by decide) (fun c5 => ?_) (fun c5 => ?_)
    · have hf := if_t hf c5
      have hf := okx_ok hf
      refine lv_aload_n hx hb dX1_build_49 rfl (lv_at hl 0 rfl) ?_
      refine va_get (D := D) (ci := 1) (v := .ref (a 0)) (C := RX1) (T := TX1) (N := 2) hx hb hts hin1 hown hK hP 0 rfl rfl 0 (by decide) (hts (.fieldLink RX1 10 "PodGuideway" "now" "LPodGuideway$Ring;") (List.mem_of_getElem? (i := 3) rfl)) (fun _ h9 => h9) rfl dX1_build_50 ?_
      refine lv_iload_n hx hb dX1_build_53 rfl (lv_at hl 1 rfl) ?_
      obtain ⟨v8, S7, hv6, hf⟩ := ob2_some hf
      refine zc_mi zI_now (z_VN (As := [.int p1]) (rest := []) (q0 := 0) (ci := 0) ⟨hx, hb, hml, hown, hts⟩ (m_X0_addStation l D Z a S p1 S7 v8 hv6) gX1_build_X0_addStation_n40 rfl rfl rfl (hNm (40, yX0_addStation) (List.mem_of_getElem? (i := 2) rfl)) (hts (.initialized RX0) (List.mem_of_getElem? (i := 12) rfl)) (hts (.instanceMethod yX0_addStation) (List.mem_of_getElem? (i := 24) rfl)) (hts (.selects RX0 yX0_addStation yX0_addStation) (List.mem_of_getElem? (i := 25) rfl)) hdv_X0_addStation ⟨Nat.le_of_ble_eq_true rfl, Nat.le_of_ble_eq_true rfl⟩ hK (hP.sub (ws' := (rwl Z a S)) [1, 2, 3, 4, 5, 6, 7, 8, 9, 10, 11, 12] rfl) (hD.sub (ws' := (rwl Z a S)) [1, 2, 3, 4, 5, 6, 7, 8, 9, 10, 11, 12] (by decide) rfl) rfl rfl rfl rfl hl.1 rfl (Nat.le_of_ble_eq_true rfl) dX1_build_54 ⟨Nat.le_of_ble_eq_true rfl, Nat.le_of_ble_eq_true rfl⟩) hP hD hS hA (fun H locs hP hD hS => ?_)
      exact zw_i hx hb hr hlk hP hD hS (owl_eq (t3_2 hf) (t3_3 hf)) (t3_1 hf) (Nat.le_of_ble_eq_true rfl) (Nat.le_of_ble_eq_true rfl) dX1_build_57
    · have hf := if_f hf c5
      exact er_ok hf
  · have hf := if_f hf c2
    exact er_ok hf

def f_X1_pod (S T : RS) (p1 : Int32) : Option (Except String (Int32 × RS × RS)) :=
  obx (f_X1_needStation S T p1) (
  if (S.1 2) < 12 then
    ob (f_X0_firstBerth S p1 0) fun v4 =>
    if v4 = (-1) then
      some (.error "java/lang/IllegalStateException")
    else
      okx (
        ob2 (f_X0_addPod S p1) fun v8 S7 =>
        some (v8, S7, T))
  else
    some (.error "java/lang/IllegalStateException"))
abbrev rm_X1_pod : Room := { frames := 7, cells := 0, slots := 0, locals := 111 }
abbrev rm_X1_pod_er : Room := { frames := 7, cells := 1, slots := 6, locals := 111 }
theorem hdv_X1_pod : yX1_pod.cls = RX1 ∧ yX1_pod.cls ≠ "java/lang/invoke/MethodHandle" ∧ yX1_pod.cls ≠ "java/lang/invoke/VarHandle" ∧ (parseMethodDescriptor yX1_pod.desc).map (fun d => d.parameters.length) = some 1 := by decide +kernel
set_option maxHeartbeats 4000000 in
set_option maxRecDepth 100000 in
theorem ok_X1_pod (l : Launch) (D : va_G) (Z : Nat → ClassId) (o : Nat) (a b : Nat → Nat) (S T : RS) (p1 : Int32) (r : Int32) (S' T' : RS) (hf : f_X1_pod S T p1 = some (.ok (r, S', T'))) : GWi l yX1_pod wsX1_pod rm_X1_pod D Z xE [.ref o, .int p1] (owl Z o a b S T) (owl Z o a b S' T') r 0 0 := by
  refine GWi.of (cc := cX1_pod) (nL := 2) (ret := (some .int)) (by decide +kernel) rfl (Nat.le_of_ble_eq_true rfl) ?_
  intro p e s m below meth c A hC hE hA hP hK hD hS ls hl
  obtain ⟨hx, hb, hr, hml, hown, hts, hlk, -⟩ := hC
  have hown : s.vm.findClass RX1 = some m.cls := hown
  have hNm := hE.2.2.2.1
  have hNf := hE.2.2.2.2.1
  have hin1 : ∀ w ∈ wsX10, w ∈ wsX1_pod := fun w h => List.mem_cons_of_mem _ (List.mem_append_left _ (List.mem_append_left _ (List.mem_append_left _ (List.mem_append_right _ h))))
  have hin0 : ∀ w ∈ wsX00, w ∈ wsX1_pod := fun w h => List.mem_cons_of_mem _ (List.mem_append_left _ (List.mem_append_left _ (List.mem_append_right _ h)))
  have hl : lv_has ls 2 [(0, .ref o), (1, .int p1)] := hl
  unfold f_X1_pod at hf
  refine lv_aload_n hx hb dX1_pod_0 rfl (lv_at hl 0 rfl) ?_
  refine lv_iload_n hx hb dX1_pod_1 rfl (lv_at hl 1 rfl) ?_
  obtain ⟨hv1, hf⟩ := obx_ok hf
  refine zc_v (z_VG (As := [.int p1]) (rest := []) (q0 := 0) (ci := 1) xE_ok hE hS hA ⟨hx, hb, hml, hown, hts⟩ (ok_X1_needStation l D Z o a b S T p1 hv1) gX1_pod_X1_needStation rfl rfl rfl hdv_X1_needStation ⟨Nat.le_of_ble_eq_true rfl, Nat.le_of_ble_eq_true rfl⟩ hK hP hD rfl rfl rfl rfl hl.1 rfl (Nat.le_of_ble_eq_true rfl) dX1_pod_2 ⟨Nat.le_of_ble_eq_true rfl, Nat.le_of_ble_eq_true rfl⟩) hP hS hA (fun H locs hP hS => ?_)
  refine lv_aload_n hx hb dX1_pod_5 rfl (lv_at hl 0 rfl) ?_
  refine va_get (D := D) (ci := 1) (v := .ref (a 0)) (C := RX1) (T := TX1) (N := 2) hx hb hts hin1 hown hK hP 0 rfl rfl 0 (by decide) (hts (.fieldLink RX1 10 "PodGuideway" "now" "LPodGuideway$Ring;") (List.mem_of_getElem? (i := 3) rfl)) (fun _ h9 => h9) rfl dX1_pod_6 ?_
  refine va_getN (D := D) (ci := 0) (v := .int (S.1 2)) (C := RX0) (T := TX0) (N := 17) hx hb hts hin0 hown hK hP 1 rfl rfl 2 (by decide) (va_Nw.use rfl (hNf (46, "pods", "I") (List.mem_of_getElem? (i := 1) rfl))) (fun _ h9 => h9) rfl dX1_pod_9 ?_
  refine lv_bipush (v := 12) hx hb dX1_pod_12 (by decide) ?_
  refine lv_icmp_lt (tgt := 27) hx hb dX1_pod_14 (by decide) (fun c2 => ?_) (fun c2 => ?_)
  · have hf := if_t hf c2
    refine lv_aload_n hx hb dX1_pod_27 rfl (lv_at hl 0 rfl) ?_
    refine va_get (D := D) (ci := 1) (v := .ref (a 0)) (C := RX1) (T := TX1) (N := 2) hx hb hts hin1 hown hK hP 0 rfl rfl 0 (by decide) (hts (.fieldLink RX1 10 "PodGuideway" "now" "LPodGuideway$Ring;") (List.mem_of_getElem? (i := 3) rfl)) (fun _ h9 => h9) rfl dX1_pod_28 ?_
    refine lv_iload_n hx hb dX1_pod_31 rfl (lv_at hl 1 rfl) ?_
    refine lv_iconst (v := 0) hx hb dX1_pod_32 (by decide) ?_
    obtain ⟨v4, hv3, hf⟩ := ob_some hf
    refine zc_i (z_VN (As := [.int p1, .int 0]) (rest := []) (q0 := 0) (ci := 0) ⟨hx, hb, hml, hown, hts⟩ (m_X0_firstBerth l D Z a S p1 0 v4 hv3) gX1_pod_X0_firstBerth_n51 rfl rfl rfl (hNm (51, yX0_firstBerth) (List.mem_of_getElem? (i := 3) rfl)) (hts (.initialized RX0) (List.mem_of_getElem? (i := 12) rfl)) (hts (.instanceMethod yX0_firstBerth) (List.mem_of_getElem? (i := 11) rfl)) (hts (.selects RX0 yX0_firstBerth yX0_firstBerth) (List.mem_of_getElem? (i := 13) rfl)) hdv_X0_firstBerth ⟨Nat.le_of_ble_eq_true rfl, Nat.le_of_ble_eq_true rfl⟩ hK (hP.sub (ws' := (rwl Z a S)) [1, 2, 3, 4, 5, 6, 7, 8, 9, 10, 11, 12] rfl) (hD.sub (ws' := (rwl Z a S)) [1, 2, 3, 4, 5, 6, 7, 8, 9, 10, 11, 12] (by decide) rfl) rfl rfl rfl rfl hl.1 rfl (Nat.le_of_ble_eq_true rfl) dX1_pod_33 ⟨Nat.le_of_ble_eq_true rfl, Nat.le_of_ble_eq_true rfl⟩) hP hS hA (fun H locs hP hS => ?_)
    refine lv_iconst (v := (-1)) hx hb dX1_pod_36 (by decide) ?_
    refine lv_icmp_ne (tgt := 50) hx hb dX1_pod_37 (by decide) (fun c5 => ?_) (fun c5 => ?_)
    · have hf := if_f hf c5
      have hf := okx_ok hf
      refine lv_aload_n hx hb dX1_pod_50 rfl (lv_at hl 0 rfl) ?_
      refine va_get (D := D) (ci := 1) (v := .ref (a 0)) (C := RX1) (T := TX1) (N := 2) hx hb hts hin1 hown hK hP 0 rfl rfl 0 (by decide) (hts (.fieldLink RX1 10 "PodGuideway" "now" "LPodGuideway$Ring;") (List.mem_of_getElem? (i := 3) rfl)) (fun _ h9 => h9) rfl dX1_pod_51 ?_
      refine lv_iload_n hx hb dX1_pod_54 rfl (lv_at hl 1 rfl) ?_
      obtain ⟨v8, S7, hv6, hf⟩ := ob2_some hf
      refine zc_mi zI_now (z_VN (As := [.int p1]) (rest := []) (q0 := 0) (ci := 0) ⟨hx, hb, hml, hown, hts⟩ (m_X0_addPod l D Z a S p1 S7 v8 hv6) gX1_pod_X0_addPod_n57 rfl rfl rfl (hNm (57, yX0_addPod) (List.mem_of_getElem? (i := 4) rfl)) (hts (.initialized RX0) (List.mem_of_getElem? (i := 12) rfl)) (hts (.instanceMethod yX0_addPod) (List.mem_of_getElem? (i := 24) rfl)) (hts (.selects RX0 yX0_addPod yX0_addPod) (List.mem_of_getElem? (i := 25) rfl)) hdv_X0_addPod ⟨Nat.le_of_ble_eq_true rfl, Nat.le_of_ble_eq_true rfl⟩ hK (hP.sub (ws' := (rwl Z a S)) [1, 2, 3, 4, 5, 6, 7, 8, 9, 10, 11, 12] rfl) (hD.sub (ws' := (rwl Z a S)) [1, 2, 3, 4, 5, 6, 7, 8, 9, 10, 11, 12] (by decide) rfl) rfl rfl rfl rfl hl.1 rfl (Nat.le_of_ble_eq_true rfl) dX1_pod_55 ⟨Nat.le_of_ble_eq_true rfl, Nat.le_of_ble_eq_true rfl⟩) hP hD hS hA (fun H locs hP hD hS => ?_)
      exact zw_i hx hb hr hlk hP hD hS (owl_eq (t3_2 hf) (t3_3 hf)) (t3_1 hf) (Nat.le_of_ble_eq_true rfl) (Nat.le_of_ble_eq_true rfl) dX1_pod_58
    · have hf := if_t hf c5
      exact er_ok hf
  · have hf := if_f hf c2
    exact er_ok hf

def f_X1_ride (S T : RS) (p1 : Int32) (p2 : Int32) : Option (Except String (Int32 × RS × RS)) :=
  obx (f_X1_needTwoStations S T p1 p2) (
  ob (f_X0_waitingAt S p1) fun v3 =>
  if v3 < 9 then
    okx (
      ob2 (f_X0_addRider S p1 p2) fun v7 S6 =>
      ob (f_X0_waitingAt S6 p1) fun v9 =>
      some (v9, S6, T))
  else
    some (.error "java/lang/IllegalStateException"))
abbrev rm_X1_ride : Room := { frames := 8, cells := 0, slots := 0, locals := 133 }
abbrev rm_X1_ride_er : Room := { frames := 8, cells := 1, slots := 6, locals := 133 }
theorem hdv_X1_ride : yX1_ride.cls = RX1 ∧ yX1_ride.cls ≠ "java/lang/invoke/MethodHandle" ∧ yX1_ride.cls ≠ "java/lang/invoke/VarHandle" ∧ (parseMethodDescriptor yX1_ride.desc).map (fun d => d.parameters.length) = some 2 := by decide +kernel
set_option maxHeartbeats 4000000 in
set_option maxRecDepth 100000 in
theorem ok_X1_ride (l : Launch) (D : va_G) (Z : Nat → ClassId) (o : Nat) (a b : Nat → Nat) (S T : RS) (p1 : Int32) (p2 : Int32) (r : Int32) (S' T' : RS) (hf : f_X1_ride S T p1 p2 = some (.ok (r, S', T'))) : GWi l yX1_ride wsX1_ride rm_X1_ride D Z xE [.ref o, .int p1, .int p2] (owl Z o a b S T) (owl Z o a b S' T') r 0 0 := by
  refine GWi.of (cc := cX1_ride) (nL := 3) (ret := (some .int)) (by decide +kernel) rfl (Nat.le_of_ble_eq_true rfl) ?_
  intro p e s m below meth c A hC hE hA hP hK hD hS ls hl
  obtain ⟨hx, hb, hr, hml, hown, hts, hlk, -⟩ := hC
  have hown : s.vm.findClass RX1 = some m.cls := hown
  have hNm := hE.2.2.2.1
  have hNf := hE.2.2.2.2.1
  have hin1 : ∀ w ∈ wsX10, w ∈ wsX1_ride := fun w h => List.mem_cons_of_mem _ (List.mem_append_left _ (List.mem_append_left _ (List.mem_append_left _ (List.mem_append_left _ (List.mem_append_right _ h)))))
  have hin0 : ∀ w ∈ wsX00, w ∈ wsX1_ride := fun w h => List.mem_cons_of_mem _ (List.mem_append_left _ (List.mem_append_left _ (List.mem_append_left _ (List.mem_append_right _ h))))
  have hl : lv_has ls 3 [(0, .ref o), (1, .int p1), (2, .int p2)] := hl
  unfold f_X1_ride at hf
  refine lv_aload_n hx hb dX1_ride_0 rfl (lv_at hl 0 rfl) ?_
  refine lv_iload_n hx hb dX1_ride_1 rfl (lv_at hl 1 rfl) ?_
  refine lv_iload_n hx hb dX1_ride_2 rfl (lv_at hl 2 rfl) ?_
  obtain ⟨hv1, hf⟩ := obx_ok hf
  refine zc_v (z_VG (As := [.int p1, .int p2]) (rest := []) (q0 := 0) (ci := 1) xE_ok hE hS hA ⟨hx, hb, hml, hown, hts⟩ (ok_X1_needTwoStations l D Z o a b S T p1 p2 hv1) gX1_ride_X1_needTwoStations rfl rfl rfl hdv_X1_needTwoStations ⟨Nat.le_of_ble_eq_true rfl, Nat.le_of_ble_eq_true rfl⟩ hK hP hD rfl rfl rfl rfl hl.1 rfl (Nat.le_of_ble_eq_true rfl) dX1_ride_3 ⟨Nat.le_of_ble_eq_true rfl, Nat.le_of_ble_eq_true rfl⟩) hP hS hA (fun H locs hP hS => ?_)
  refine lv_aload_n hx hb dX1_ride_6 rfl (lv_at hl 0 rfl) ?_
  refine va_get (D := D) (ci := 1) (v := .ref (a 0)) (C := RX1) (T := TX1) (N := 2) hx hb hts hin1 hown hK hP 0 rfl rfl 0 (by decide) (hts (.fieldLink RX1 10 "PodGuideway" "now" "LPodGuideway$Ring;") (List.mem_of_getElem? (i := 3) rfl)) (fun _ h9 => h9) rfl dX1_ride_7 ?_
  refine lv_iload_n hx hb dX1_ride_10 rfl (lv_at hl 1 rfl) ?_
  obtain ⟨v3, hv2, hf⟩ := ob_some hf
  refine zc_i (z_VN (As := [.int p1]) (rest := []) (q0 := 0) (ci := 0) ⟨hx, hb, hml, hown, hts⟩ (m_X0_waitingAt l D Z a S p1 v3 hv2) gX1_ride_X0_waitingAt_n64 rfl rfl rfl (hNm (64, yX0_waitingAt) (List.mem_of_getElem? (i := 5) rfl)) (hts (.initialized RX0) (List.mem_of_getElem? (i := 18) rfl)) (hts (.instanceMethod yX0_waitingAt) (List.mem_of_getElem? (i := 17) rfl)) (hts (.selects RX0 yX0_waitingAt yX0_waitingAt) (List.mem_of_getElem? (i := 19) rfl)) hdv_X0_waitingAt ⟨Nat.le_of_ble_eq_true rfl, Nat.le_of_ble_eq_true rfl⟩ hK (hP.sub (ws' := (rwl Z a S)) [1, 2, 3, 4, 5, 6, 7, 8, 9, 10, 11, 12] rfl) (hD.sub (ws' := (rwl Z a S)) [1, 2, 3, 4, 5, 6, 7, 8, 9, 10, 11, 12] (by decide) rfl) rfl rfl rfl rfl hl.1 rfl (Nat.le_of_ble_eq_true rfl) dX1_ride_11 ⟨Nat.le_of_ble_eq_true rfl, Nat.le_of_ble_eq_true rfl⟩) hP hS hA (fun H locs hP hS => ?_)
  refine lv_bipush (v := 9) hx hb dX1_ride_14 (by decide) ?_
  refine lv_icmp_lt (tgt := 29) hx hb dX1_ride_16 (by decide) (fun c4 => ?_) (fun c4 => ?_)
  · have hf := if_t hf c4
    have hf := okx_ok hf
    refine lv_aload_n hx hb dX1_ride_29 rfl (lv_at hl 0 rfl) ?_
    refine va_get (D := D) (ci := 1) (v := .ref (a 0)) (C := RX1) (T := TX1) (N := 2) hx hb hts hin1 hown hK hP 0 rfl rfl 0 (by decide) (hts (.fieldLink RX1 10 "PodGuideway" "now" "LPodGuideway$Ring;") (List.mem_of_getElem? (i := 3) rfl)) (fun _ h9 => h9) rfl dX1_ride_30 ?_
    refine lv_iload_n hx hb dX1_ride_33 rfl (lv_at hl 1 rfl) ?_
    refine lv_iload_n hx hb dX1_ride_34 rfl (lv_at hl 2 rfl) ?_
    obtain ⟨v7, S6, hv5, hf⟩ := ob2_some hf
    refine zc_mi zI_now (z_VN (As := [.int p1, .int p2]) (rest := []) (q0 := 0) (ci := 0) ⟨hx, hb, hml, hown, hts⟩ (m_X0_addRider l D Z a S p1 p2 S6 v7 hv5) gX1_ride_X0_addRider_n69 rfl rfl rfl (hNm (69, yX0_addRider) (List.mem_of_getElem? (i := 6) rfl)) (hts (.initialized RX0) (List.mem_of_getElem? (i := 18) rfl)) (hts (.instanceMethod yX0_addRider) (List.mem_of_getElem? (i := 29) rfl)) (hts (.selects RX0 yX0_addRider yX0_addRider) (List.mem_of_getElem? (i := 30) rfl)) hdv_X0_addRider ⟨Nat.le_of_ble_eq_true rfl, Nat.le_of_ble_eq_true rfl⟩ hK (hP.sub (ws' := (rwl Z a S)) [1, 2, 3, 4, 5, 6, 7, 8, 9, 10, 11, 12] rfl) (hD.sub (ws' := (rwl Z a S)) [1, 2, 3, 4, 5, 6, 7, 8, 9, 10, 11, 12] (by decide) rfl) rfl rfl rfl rfl hl.1 rfl (Nat.le_of_ble_eq_true rfl) dX1_ride_35 ⟨Nat.le_of_ble_eq_true rfl, Nat.le_of_ble_eq_true rfl⟩) hP hD hS hA (fun H locs hP hD hS => ?_)
    refine lv_pop hx hb dX1_ride_38 rfl ?_
    refine lv_aload_n hx hb dX1_ride_39 rfl (lv_at hl 0 rfl) ?_
    refine va_get (D := D) (ci := 1) (v := .ref (a 0)) (C := RX1) (T := TX1) (N := 2) hx hb hts hin1 hown hK hP 0 rfl rfl 0 (by decide) (hts (.fieldLink RX1 10 "PodGuideway" "now" "LPodGuideway$Ring;") (List.mem_of_getElem? (i := 3) rfl)) (fun _ h9 => h9) rfl dX1_ride_40 ?_
    refine lv_iload_n hx hb dX1_ride_43 rfl (lv_at hl 1 rfl) ?_
    obtain ⟨v9, hv8, hf⟩ := ob_some hf
    refine zc_i (z_VN (As := [.int p1]) (rest := []) (q0 := 0) (ci := 0) ⟨hx, hb, hml, hown, hts⟩ (m_X0_waitingAt l D Z a S6 p1 v9 hv8) gX1_ride_X0_waitingAt_n64 rfl rfl rfl (hNm (64, yX0_waitingAt) (List.mem_of_getElem? (i := 5) rfl)) (hts (.initialized RX0) (List.mem_of_getElem? (i := 18) rfl)) (hts (.instanceMethod yX0_waitingAt) (List.mem_of_getElem? (i := 17) rfl)) (hts (.selects RX0 yX0_waitingAt yX0_waitingAt) (List.mem_of_getElem? (i := 19) rfl)) hdv_X0_waitingAt ⟨Nat.le_of_ble_eq_true rfl, Nat.le_of_ble_eq_true rfl⟩ hK (hP.sub (ws' := (rwl Z a S6)) [1, 2, 3, 4, 5, 6, 7, 8, 9, 10, 11, 12] rfl) (hD.sub (ws' := (rwl Z a S6)) [1, 2, 3, 4, 5, 6, 7, 8, 9, 10, 11, 12] (by decide) rfl) rfl rfl rfl rfl hl.1 rfl (Nat.le_of_ble_eq_true rfl) dX1_ride_44 ⟨Nat.le_of_ble_eq_true rfl, Nat.le_of_ble_eq_true rfl⟩) hP hS hA (fun H locs hP hS => ?_)
    exact zw_i hx hb hr hlk hP hD hS (owl_eq (t3_2 hf) (t3_3 hf)) (t3_1 hf) (Nat.le_of_ble_eq_true rfl) (Nat.le_of_ble_eq_true rfl) dX1_ride_47
  · have hf := if_f hf c4
    exact er_ok hf

def f_X1_send (S T : RS) (p1 : Int32) (p2 : Int32) : Option (Except String (Int32 × RS × RS)) :=
  obx (f_X1_needPod S T p1) (
  obx (f_X1_needStation S T p2) (
  ob (f_X0_berthOf S p1) fun v4 =>
  if v4 = (-1) then
    some (.error "java/lang/IllegalStateException")
  else
    ob (f_X0_goalOf S p1) fun v7 =>
    if v7 = (-1) then
      if (v4 / 3) = p2 then
        some (.error "java/lang/IllegalStateException")
      else
        okx (
          ob (f_X0_setGoal S p1 p2) fun S11 =>
          ob (f_X0_placesOn S11 (v4 / 3) p2) fun v13 =>
          some (v13, S11, T))
    else
      some (.error "java/lang/IllegalStateException")))
abbrev rm_X1_send : Room := { frames := 7, cells := 0, slots := 0, locals := 111 }
abbrev rm_X1_send_er : Room := { frames := 7, cells := 1, slots := 6, locals := 111 }
theorem hdv_X1_send : yX1_send.cls = RX1 ∧ yX1_send.cls ≠ "java/lang/invoke/MethodHandle" ∧ yX1_send.cls ≠ "java/lang/invoke/VarHandle" ∧ (parseMethodDescriptor yX1_send.desc).map (fun d => d.parameters.length) = some 2 := by decide +kernel
set_option maxHeartbeats 4000000 in
set_option maxRecDepth 100000 in
theorem ok_X1_send (l : Launch) (D : va_G) (Z : Nat → ClassId) (o : Nat) (a b : Nat → Nat) (S T : RS) (p1 : Int32) (p2 : Int32) (r : Int32) (S' T' : RS) (hf : f_X1_send S T p1 p2 = some (.ok (r, S', T'))) : GWi l yX1_send wsX1_send rm_X1_send D Z xE [.ref o, .int p1, .int p2] (owl Z o a b S T) (owl Z o a b S' T') r 0 0 := by
  refine GWi.of (cc := cX1_send) (nL := 5) (ret := (some .int)) (by decide +kernel) rfl (Nat.le_of_ble_eq_true rfl) ?_
  intro p e s m below meth c A hC hE hA hP hK hD hS ls hl
  obtain ⟨hx, hb, hr, hml, hown, hts, hlk, -⟩ := hC
  have hown : s.vm.findClass RX1 = some m.cls := hown
  have hNm := hE.2.2.2.1
  have hNf := hE.2.2.2.2.1
  have hin1 : ∀ w ∈ wsX10, w ∈ wsX1_send := fun w h => List.mem_cons_of_mem _ (List.mem_append_left _ (List.mem_append_left _ (List.mem_append_left _ (List.mem_append_right _ h))))
  have hin0 : ∀ w ∈ wsX00, w ∈ wsX1_send := fun w h => List.mem_cons_of_mem _ (List.mem_append_left _ (List.mem_append_left _ (List.mem_append_right _ h)))
  have hl : lv_has ls 5 [(0, .ref o), (1, .int p1), (2, .int p2)] := hl
  unfold f_X1_send at hf
  refine lv_aload_n hx hb dX1_send_0 rfl (lv_at hl 0 rfl) ?_
  refine lv_iload_n hx hb dX1_send_1 rfl (lv_at hl 1 rfl) ?_
  obtain ⟨hv1, hf⟩ := obx_ok hf
  refine zc_v (z_VG (As := [.int p1]) (rest := []) (q0 := 0) (ci := 1) xE_ok hE hS hA ⟨hx, hb, hml, hown, hts⟩ (ok_X1_needPod l D Z o a b S T p1 hv1) gX1_send_X1_needPod rfl rfl rfl hdv_X1_needPod ⟨Nat.le_of_ble_eq_true rfl, Nat.le_of_ble_eq_true rfl⟩ hK hP hD rfl rfl rfl rfl hl.1 rfl (Nat.le_of_ble_eq_true rfl) dX1_send_2 ⟨Nat.le_of_ble_eq_true rfl, Nat.le_of_ble_eq_true rfl⟩) hP hS hA (fun H locs hP hS => ?_)
  refine lv_aload_n hx hb dX1_send_5 rfl (lv_at hl 0 rfl) ?_
  refine lv_iload_n hx hb dX1_send_6 rfl (lv_at hl 2 rfl) ?_
  obtain ⟨hv2, hf⟩ := obx_ok hf
  refine zc_v (z_VG (As := [.int p2]) (rest := []) (q0 := 0) (ci := 1) xE_ok hE hS hA ⟨hx, hb, hml, hown, hts⟩ (ok_X1_needStation l D Z o a b S T p2 hv2) gX1_send_X1_needStation rfl rfl rfl hdv_X1_needStation ⟨Nat.le_of_ble_eq_true rfl, Nat.le_of_ble_eq_true rfl⟩ hK hP hD rfl rfl rfl rfl hl.1 rfl (Nat.le_of_ble_eq_true rfl) dX1_send_7 ⟨Nat.le_of_ble_eq_true rfl, Nat.le_of_ble_eq_true rfl⟩) hP hS hA (fun H locs hP hS => ?_)
  refine lv_aload_n hx hb dX1_send_10 rfl (lv_at hl 0 rfl) ?_
  refine va_get (D := D) (ci := 1) (v := .ref (a 0)) (C := RX1) (T := TX1) (N := 2) hx hb hts hin1 hown hK hP 0 rfl rfl 0 (by decide) (hts (.fieldLink RX1 10 "PodGuideway" "now" "LPodGuideway$Ring;") (List.mem_of_getElem? (i := 3) rfl)) (fun _ h9 => h9) rfl dX1_send_11 ?_
  refine lv_iload_n hx hb dX1_send_14 rfl (lv_at hl 1 rfl) ?_
  obtain ⟨v4, hv3, hf⟩ := ob_some hf
  refine zc_i (z_VN (As := [.int p1]) (rest := []) (q0 := 0) (ci := 0) ⟨hx, hb, hml, hown, hts⟩ (m_X0_berthOf l D Z a S p1 v4 hv3) gX1_send_X0_berthOf_n75 rfl rfl rfl (hNm (75, yX0_berthOf) (List.mem_of_getElem? (i := 7) rfl)) (hts (.initialized RX0) (List.mem_of_getElem? (i := 16) rfl)) (hts (.instanceMethod yX0_berthOf) (List.mem_of_getElem? (i := 15) rfl)) (hts (.selects RX0 yX0_berthOf yX0_berthOf) (List.mem_of_getElem? (i := 17) rfl)) hdv_X0_berthOf ⟨Nat.le_of_ble_eq_true rfl, Nat.le_of_ble_eq_true rfl⟩ hK (hP.sub (ws' := (rwl Z a S)) [1, 2, 3, 4, 5, 6, 7, 8, 9, 10, 11, 12] rfl) (hD.sub (ws' := (rwl Z a S)) [1, 2, 3, 4, 5, 6, 7, 8, 9, 10, 11, 12] (by decide) rfl) rfl rfl rfl rfl hl.1 rfl (Nat.le_of_ble_eq_true rfl) dX1_send_15 ⟨Nat.le_of_ble_eq_true rfl, Nat.le_of_ble_eq_true rfl⟩) hP hS hA (fun H locs hP hS => ?_)
  refine lv_istore_n (lv' := [(3, .int v4), (0, .ref o), (1, .int p1), (2, .int p2)]) hx hb dX1_send_18 rfl hl (by decide) rfl (fun ls hl => ?_)
  refine lv_iload_n hx hb dX1_send_19 rfl (lv_at hl 0 rfl) ?_
  refine lv_iconst (v := (-1)) hx hb dX1_send_20 (by decide) ?_
  refine lv_icmp_eq (tgt := 36) hx hb dX1_send_21 (by decide) (fun c5 => ?_) (fun c5 => ?_)
  · have hf := if_t hf c5
    exact er_ok hf
  · have hf := if_f hf c5
    refine lv_aload_n hx hb dX1_send_24 rfl (lv_at hl 1 rfl) ?_
    refine va_get (D := D) (ci := 1) (v := .ref (a 0)) (C := RX1) (T := TX1) (N := 2) hx hb hts hin1 hown hK hP 0 rfl rfl 0 (by decide) (hts (.fieldLink RX1 10 "PodGuideway" "now" "LPodGuideway$Ring;") (List.mem_of_getElem? (i := 3) rfl)) (fun _ h9 => h9) rfl dX1_send_25 ?_
    refine lv_iload_n hx hb dX1_send_28 rfl (lv_at hl 2 rfl) ?_
    obtain ⟨v7, hv6, hf⟩ := ob_some hf
    refine zc_i (z_VN (As := [.int p1]) (rest := []) (q0 := 0) (ci := 0) ⟨hx, hb, hml, hown, hts⟩ (m_X0_goalOf l D Z a S p1 v7 hv6) gX1_send_X0_goalOf_n78 rfl rfl rfl (hNm (78, yX0_goalOf) (List.mem_of_getElem? (i := 8) rfl)) (hts (.initialized RX0) (List.mem_of_getElem? (i := 16) rfl)) (hts (.instanceMethod yX0_goalOf) (List.mem_of_getElem? (i := 23) rfl)) (hts (.selects RX0 yX0_goalOf yX0_goalOf) (List.mem_of_getElem? (i := 24) rfl)) hdv_X0_goalOf ⟨Nat.le_of_ble_eq_true rfl, Nat.le_of_ble_eq_true rfl⟩ hK (hP.sub (ws' := (rwl Z a S)) [1, 2, 3, 4, 5, 6, 7, 8, 9, 10, 11, 12] rfl) (hD.sub (ws' := (rwl Z a S)) [1, 2, 3, 4, 5, 6, 7, 8, 9, 10, 11, 12] (by decide) rfl) rfl rfl rfl rfl hl.1 rfl (Nat.le_of_ble_eq_true rfl) dX1_send_29 ⟨Nat.le_of_ble_eq_true rfl, Nat.le_of_ble_eq_true rfl⟩) hP hS hA (fun H locs hP hS => ?_)
    refine lv_iconst (v := (-1)) hx hb dX1_send_32 (by decide) ?_
    refine lv_icmp_eq (tgt := 46) hx hb dX1_send_33 (by decide) (fun c8 => ?_) (fun c8 => ?_)
    · have hf := if_t hf c8
      refine lv_iload_n hx hb dX1_send_46 rfl (lv_at hl 0 rfl) ?_
      refine lv_iconst (v := 3) hx hb dX1_send_47 (by decide) ?_
      refine lv_idiv hx hb dX1_send_48 (by decide) ?_
      refine lv_istore (lv' := [(4, .int (v4 / 3)), (3, .int v4), (0, .ref o), (1, .int p1), (2, .int p2)]) hx hb dX1_send_49 hl (by decide) rfl (fun ls hl => ?_)
      refine lv_iload hx hb dX1_send_51 (lv_at hl 0 rfl) ?_
      refine lv_iload_n hx hb dX1_send_53 rfl (lv_at hl 4 rfl) ?_
      refine lv_icmp_ne (tgt := 67) hx hb dX1_send_54 (by decide) (fun c9 => ?_) (fun c9 => ?_)
      · have hf := if_f hf c9
        have hf := okx_ok hf
        refine lv_aload_n hx hb dX1_send_67 rfl (lv_at hl 2 rfl) ?_
        refine va_get (D := D) (ci := 1) (v := .ref (a 0)) (C := RX1) (T := TX1) (N := 2) hx hb hts hin1 hown hK hP 0 rfl rfl 0 (by decide) (hts (.fieldLink RX1 10 "PodGuideway" "now" "LPodGuideway$Ring;") (List.mem_of_getElem? (i := 3) rfl)) (fun _ h9 => h9) rfl dX1_send_68 ?_
        refine lv_iload_n hx hb dX1_send_71 rfl (lv_at hl 3 rfl) ?_
        refine lv_iload_n hx hb dX1_send_72 rfl (lv_at hl 4 rfl) ?_
        obtain ⟨S11, hv10, hf⟩ := ob_some hf
        refine zc_mv zI_now (z_VN (As := [.int p1, .int p2]) (rest := []) (q0 := 0) (ci := 0) ⟨hx, hb, hml, hown, hts⟩ (m_X0_setGoal l D Z a S p1 p2 S11 hv10) gX1_send_X0_setGoal_n85 rfl rfl rfl (hNm (85, yX0_setGoal) (List.mem_of_getElem? (i := 9) rfl)) (hts (.initialized RX0) (List.mem_of_getElem? (i := 16) rfl)) (hts (.instanceMethod yX0_setGoal) (List.mem_of_getElem? (i := 30) rfl)) (hts (.selects RX0 yX0_setGoal yX0_setGoal) (List.mem_of_getElem? (i := 31) rfl)) hdv_X0_setGoal ⟨Nat.le_of_ble_eq_true rfl, Nat.le_of_ble_eq_true rfl⟩ hK (hP.sub (ws' := (rwl Z a S)) [1, 2, 3, 4, 5, 6, 7, 8, 9, 10, 11, 12] rfl) (hD.sub (ws' := (rwl Z a S)) [1, 2, 3, 4, 5, 6, 7, 8, 9, 10, 11, 12] (by decide) rfl) rfl rfl rfl rfl hl.1 rfl (Nat.le_of_ble_eq_true rfl) dX1_send_73 ⟨Nat.le_of_ble_eq_true rfl, Nat.le_of_ble_eq_true rfl⟩) hP hD hS hA (fun H locs hP hD hS => ?_)
        refine lv_aload_n hx hb dX1_send_76 rfl (lv_at hl 2 rfl) ?_
        refine va_get (D := D) (ci := 1) (v := .ref (a 0)) (C := RX1) (T := TX1) (N := 2) hx hb hts hin1 hown hK hP 0 rfl rfl 0 (by decide) (hts (.fieldLink RX1 10 "PodGuideway" "now" "LPodGuideway$Ring;") (List.mem_of_getElem? (i := 3) rfl)) (fun _ h9 => h9) rfl dX1_send_77 ?_
        refine lv_iload hx hb dX1_send_80 (lv_at hl 0 rfl) ?_
        refine lv_iload_n hx hb dX1_send_82 rfl (lv_at hl 4 rfl) ?_
        obtain ⟨v13, hv12, hf⟩ := ob_some hf
        refine zc_i (z_VN (As := [.int (v4 / 3), .int p2]) (rest := []) (q0 := 0) (ci := 0) ⟨hx, hb, hml, hown, hts⟩ (m_X0_placesOn l D Z a S11 (v4 / 3) p2 v13 hv12) gX1_send_X0_placesOn_n88 rfl rfl rfl (hNm (88, yX0_placesOn) (List.mem_of_getElem? (i := 10) rfl)) (hts (.initialized RX0) (List.mem_of_getElem? (i := 16) rfl)) (hts (.instanceMethod yX0_placesOn) (List.mem_of_getElem? (i := 36) rfl)) (hts (.selects RX0 yX0_placesOn yX0_placesOn) (List.mem_of_getElem? (i := 37) rfl)) hdv_X0_placesOn ⟨Nat.le_of_ble_eq_true rfl, Nat.le_of_ble_eq_true rfl⟩ hK (hP.sub (ws' := (rwl Z a S11)) [1, 2, 3, 4, 5, 6, 7, 8, 9, 10, 11, 12] rfl) (hD.sub (ws' := (rwl Z a S11)) [1, 2, 3, 4, 5, 6, 7, 8, 9, 10, 11, 12] (by decide) rfl) rfl rfl rfl rfl hl.1 rfl (Nat.le_of_ble_eq_true rfl) dX1_send_83 ⟨Nat.le_of_ble_eq_true rfl, Nat.le_of_ble_eq_true rfl⟩) hP hS hA (fun H locs hP hS => ?_)
        exact zw_i hx hb hr hlk hP hD hS (owl_eq (t3_2 hf) (t3_3 hf)) (t3_1 hf) (Nat.le_of_ble_eq_true rfl) (Nat.le_of_ble_eq_true rfl) dX1_send_86
      · have hf := if_t hf c9
        exact er_ok hf
    · have hf := if_f hf c8
      exact er_ok hf

def f_X1_told (S T : RS) (p1 : Int32) (p2 : Int32) : Option (Except String (Int32)) :=
  obx (f_X1_needPod S T p1) (
  obx (f_X1_needWhat S T p2 0 5) (
  okx (
    ob (f_X0_tellPod S p1 p2) fun v4 =>
    some v4)))
abbrev rm_X1_told : Room := { frames := 7, cells := 0, slots := 0, locals := 113 }
abbrev rm_X1_told_er : Room := { frames := 7, cells := 1, slots := 6, locals := 113 }
theorem hdv_X1_told : yX1_told.cls = RX1 ∧ yX1_told.cls ≠ "java/lang/invoke/MethodHandle" ∧ yX1_told.cls ≠ "java/lang/invoke/VarHandle" ∧ (parseMethodDescriptor yX1_told.desc).map (fun d => d.parameters.length) = some 2 := by decide +kernel
set_option maxHeartbeats 4000000 in
set_option maxRecDepth 100000 in
theorem ok_X1_told (l : Launch) (D : va_G) (Z : Nat → ClassId) (o : Nat) (a b : Nat → Nat) (S T : RS) (p1 : Int32) (p2 : Int32) (r : Int32) (hf : f_X1_told S T p1 p2 = some (.ok r)) : GOi l yX1_told wsX1_told rm_X1_told D Z xE [.ref o, .int p1, .int p2] (owl Z o a b S T) r := by
  refine GOi.of (cc := cX1_told) (nL := 3) (ret := (some .int)) (by decide +kernel) rfl (Nat.le_of_ble_eq_true rfl) ?_
  intro p e s m below meth c A0 hC hE hA0 hA hP hK hD hS ls hl
  obtain ⟨hx, hb, hr, hml, hown, hts, hlk, -⟩ := hC
  have hown : s.vm.findClass RX1 = some m.cls := hown
  have hNm := hE.2.2.2.1
  have hNf := hE.2.2.2.2.1
  have hin1 : ∀ w ∈ wsX10, w ∈ wsX1_told := fun w h => List.mem_cons_of_mem _ (List.mem_append_left _ (List.mem_append_left _ (List.mem_append_right _ h)))
  have hin0 : ∀ w ∈ wsX00, w ∈ wsX1_told := fun w h => List.mem_cons_of_mem _ (List.mem_append_left _ (List.mem_append_right _ h))
  have hl : lv_has ls 3 [(0, .ref o), (1, .int p1), (2, .int p2)] := hl
  unfold f_X1_told at hf
  refine lv_aload_n hx hb dX1_told_0 rfl (lv_at hl 0 rfl) ?_
  refine lv_iload_n hx hb dX1_told_1 rfl (lv_at hl 1 rfl) ?_
  obtain ⟨hv1, hf⟩ := obx_ok hf
  refine zc_v (z_VG (As := [.int p1]) (rest := []) (q0 := 0) (ci := 1) xE_ok hE (hS.up hA0) hA0 ⟨hx, hb, hml, hown, hts⟩ (ok_X1_needPod l D Z o a b S T p1 hv1) gX1_told_X1_needPod rfl rfl rfl hdv_X1_needPod ⟨Nat.le_of_ble_eq_true rfl, Nat.le_of_ble_eq_true rfl⟩ hK hP hD rfl rfl rfl rfl hl.1 rfl (Nat.le_of_ble_eq_true rfl) dX1_told_2 ⟨Nat.le_of_ble_eq_true rfl, Nat.le_of_ble_eq_true rfl⟩) hP hS hA (fun H locs hP hS => ?_)
  refine lv_aload_n hx hb dX1_told_5 rfl (lv_at hl 0 rfl) ?_
  refine lv_iload_n hx hb dX1_told_6 rfl (lv_at hl 2 rfl) ?_
  refine lv_iconst (v := 0) hx hb dX1_told_7 (by decide) ?_
  refine lv_iconst (v := 5) hx hb dX1_told_8 (by decide) ?_
  obtain ⟨hv2, hf⟩ := obx_ok hf
  refine zc_v (z_VG (As := [.int p2, .int 0, .int 5]) (rest := []) (q0 := 0) (ci := 1) xE_ok hE (hS.up hA0) hA0 ⟨hx, hb, hml, hown, hts⟩ (ok_X1_needWhat l D Z o a b S T p2 0 5 hv2) gX1_told_X1_needWhat rfl rfl rfl hdv_X1_needWhat ⟨Nat.le_of_ble_eq_true rfl, Nat.le_of_ble_eq_true rfl⟩ hK hP hD rfl rfl rfl rfl hl.1 rfl (Nat.le_of_ble_eq_true rfl) dX1_told_9 ⟨Nat.le_of_ble_eq_true rfl, Nat.le_of_ble_eq_true rfl⟩) hP hS hA (fun H locs hP hS => ?_)
  have hf := okx_ok hf
  refine lv_aload_n hx hb dX1_told_12 rfl (lv_at hl 0 rfl) ?_
  refine va_get (D := D) (ci := 1) (v := .ref (a 0)) (C := RX1) (T := TX1) (N := 2) hx hb hts hin1 hown hK hP 0 rfl rfl 0 (by decide) (hts (.fieldLink RX1 10 "PodGuideway" "now" "LPodGuideway$Ring;") (List.mem_of_getElem? (i := 1) rfl)) (fun _ h9 => h9) rfl dX1_told_13 ?_
  refine lv_iload_n hx hb dX1_told_16 rfl (lv_at hl 1 rfl) ?_
  refine lv_iload_n hx hb dX1_told_17 rfl (lv_at hl 2 rfl) ?_
  obtain ⟨v4, hv3, hf⟩ := ob_some hf
  refine zc_i (z_VN (As := [.int p1, .int p2]) (rest := []) (q0 := 0) (ci := 0) ⟨hx, hb, hml, hown, hts⟩ (m_X0_tellPod l D Z a S p1 p2 v4 hv3) gX1_told_X0_tellPod_n95 rfl rfl rfl (hNm (95, yX0_tellPod) (List.mem_of_getElem? (i := 11) rfl)) (hts (.initialized RX0) (List.mem_of_getElem? (i := 14) rfl)) (hts (.instanceMethod yX0_tellPod) (List.mem_of_getElem? (i := 13) rfl)) (hts (.selects RX0 yX0_tellPod yX0_tellPod) (List.mem_of_getElem? (i := 15) rfl)) hdv_X0_tellPod ⟨Nat.le_of_ble_eq_true rfl, Nat.le_of_ble_eq_true rfl⟩ hK (hP.sub (ws' := (rwl Z a S)) [1, 2, 3, 4, 5, 6, 7, 8, 9, 10, 11, 12] rfl) (hD.sub (ws' := (rwl Z a S)) [1, 2, 3, 4, 5, 6, 7, 8, 9, 10, 11, 12] (by decide) rfl) rfl rfl rfl rfl hl.1 rfl (Nat.le_of_ble_eq_true rfl) dX1_told_18 ⟨Nat.le_of_ble_eq_true rfl, Nat.le_of_ble_eq_true rfl⟩) hP hS hA (fun H locs hP hS => ?_)
  exact zr_i hx hb hr hlk hS (Option.some.inj hf) dX1_told_21

def f_X1_station (S T : RS) (p1 : Int32) (p2 : Int32) : Option (Except String (Int32)) :=
  obx (f_X1_needStation S T p1) (
  obx (f_X1_needWhat S T p2 0 6) (
  okx (
    ob (f_X0_tellStation S p1 p2) fun v4 =>
    some v4)))
abbrev rm_X1_station : Room := { frames := 7, cells := 0, slots := 0, locals := 113 }
abbrev rm_X1_station_er : Room := { frames := 7, cells := 1, slots := 6, locals := 113 }
theorem hdv_X1_station : yX1_station.cls = RX1 ∧ yX1_station.cls ≠ "java/lang/invoke/MethodHandle" ∧ yX1_station.cls ≠ "java/lang/invoke/VarHandle" ∧ (parseMethodDescriptor yX1_station.desc).map (fun d => d.parameters.length) = some 2 := by decide +kernel
set_option maxHeartbeats 4000000 in
set_option maxRecDepth 100000 in
theorem ok_X1_station (l : Launch) (D : va_G) (Z : Nat → ClassId) (o : Nat) (a b : Nat → Nat) (S T : RS) (p1 : Int32) (p2 : Int32) (r : Int32) (hf : f_X1_station S T p1 p2 = some (.ok r)) : GOi l yX1_station wsX1_station rm_X1_station D Z xE [.ref o, .int p1, .int p2] (owl Z o a b S T) r := by
  refine GOi.of (cc := cX1_station) (nL := 3) (ret := (some .int)) (by decide +kernel) rfl (Nat.le_of_ble_eq_true rfl) ?_
  intro p e s m below meth c A0 hC hE hA0 hA hP hK hD hS ls hl
  obtain ⟨hx, hb, hr, hml, hown, hts, hlk, -⟩ := hC
  have hown : s.vm.findClass RX1 = some m.cls := hown
  have hNm := hE.2.2.2.1
  have hNf := hE.2.2.2.2.1
  have hin1 : ∀ w ∈ wsX10, w ∈ wsX1_station := fun w h => List.mem_cons_of_mem _ (List.mem_append_left _ (List.mem_append_left _ (List.mem_append_right _ h)))
  have hin0 : ∀ w ∈ wsX00, w ∈ wsX1_station := fun w h => List.mem_cons_of_mem _ (List.mem_append_left _ (List.mem_append_right _ h))
  have hl : lv_has ls 3 [(0, .ref o), (1, .int p1), (2, .int p2)] := hl
  unfold f_X1_station at hf
  refine lv_aload_n hx hb dX1_station_0 rfl (lv_at hl 0 rfl) ?_
  refine lv_iload_n hx hb dX1_station_1 rfl (lv_at hl 1 rfl) ?_
  obtain ⟨hv1, hf⟩ := obx_ok hf
  refine zc_v (z_VG (As := [.int p1]) (rest := []) (q0 := 0) (ci := 1) xE_ok hE (hS.up hA0) hA0 ⟨hx, hb, hml, hown, hts⟩ (ok_X1_needStation l D Z o a b S T p1 hv1) gX1_station_X1_needStation rfl rfl rfl hdv_X1_needStation ⟨Nat.le_of_ble_eq_true rfl, Nat.le_of_ble_eq_true rfl⟩ hK hP hD rfl rfl rfl rfl hl.1 rfl (Nat.le_of_ble_eq_true rfl) dX1_station_2 ⟨Nat.le_of_ble_eq_true rfl, Nat.le_of_ble_eq_true rfl⟩) hP hS hA (fun H locs hP hS => ?_)
  refine lv_aload_n hx hb dX1_station_5 rfl (lv_at hl 0 rfl) ?_
  refine lv_iload_n hx hb dX1_station_6 rfl (lv_at hl 2 rfl) ?_
  refine lv_iconst (v := 0) hx hb dX1_station_7 (by decide) ?_
  refine lv_bipush (v := 6) hx hb dX1_station_8 (by decide) ?_
  obtain ⟨hv2, hf⟩ := obx_ok hf
  refine zc_v (z_VG (As := [.int p2, .int 0, .int 6]) (rest := []) (q0 := 0) (ci := 1) xE_ok hE (hS.up hA0) hA0 ⟨hx, hb, hml, hown, hts⟩ (ok_X1_needWhat l D Z o a b S T p2 0 6 hv2) gX1_station_X1_needWhat rfl rfl rfl hdv_X1_needWhat ⟨Nat.le_of_ble_eq_true rfl, Nat.le_of_ble_eq_true rfl⟩ hK hP hD rfl rfl rfl rfl hl.1 rfl (Nat.le_of_ble_eq_true rfl) dX1_station_10 ⟨Nat.le_of_ble_eq_true rfl, Nat.le_of_ble_eq_true rfl⟩) hP hS hA (fun H locs hP hS => ?_)
  have hf := okx_ok hf
  refine lv_aload_n hx hb dX1_station_13 rfl (lv_at hl 0 rfl) ?_
  refine va_get (D := D) (ci := 1) (v := .ref (a 0)) (C := RX1) (T := TX1) (N := 2) hx hb hts hin1 hown hK hP 0 rfl rfl 0 (by decide) (hts (.fieldLink RX1 10 "PodGuideway" "now" "LPodGuideway$Ring;") (List.mem_of_getElem? (i := 1) rfl)) (fun _ h9 => h9) rfl dX1_station_14 ?_
  refine lv_iload_n hx hb dX1_station_17 rfl (lv_at hl 1 rfl) ?_
  refine lv_iload_n hx hb dX1_station_18 rfl (lv_at hl 2 rfl) ?_
  obtain ⟨v4, hv3, hf⟩ := ob_some hf
  refine zc_i (z_VN (As := [.int p1, .int p2]) (rest := []) (q0 := 0) (ci := 0) ⟨hx, hb, hml, hown, hts⟩ (m_X0_tellStation l D Z a S p1 p2 v4 hv3) gX1_station_X0_tellStation_n98 rfl rfl rfl (hNm (98, yX0_tellStation) (List.mem_of_getElem? (i := 12) rfl)) (hts (.initialized RX0) (List.mem_of_getElem? (i := 14) rfl)) (hts (.instanceMethod yX0_tellStation) (List.mem_of_getElem? (i := 13) rfl)) (hts (.selects RX0 yX0_tellStation yX0_tellStation) (List.mem_of_getElem? (i := 15) rfl)) hdv_X0_tellStation ⟨Nat.le_of_ble_eq_true rfl, Nat.le_of_ble_eq_true rfl⟩ hK (hP.sub (ws' := (rwl Z a S)) [1, 2, 3, 4, 5, 6, 7, 8, 9, 10, 11, 12] rfl) (hD.sub (ws' := (rwl Z a S)) [1, 2, 3, 4, 5, 6, 7, 8, 9, 10, 11, 12] (by decide) rfl) rfl rfl rfl rfl hl.1 rfl (Nat.le_of_ble_eq_true rfl) dX1_station_19 ⟨Nat.le_of_ble_eq_true rfl, Nat.le_of_ble_eq_true rfl⟩) hP hS hA (fun H locs hP hS => ?_)
  exact zr_i hx hb hr hlk hS (Option.some.inj hf) dX1_station_22

def f_X1_waits (S T : RS) (p1 : Int32) (p2 : Int32) : Option (Except String (Int32)) :=
  obx (f_X1_needStation S T p1) (
  if p2 < 0 then
    some (.error "java/lang/IndexOutOfBoundsException")
  else
    ob (f_X0_waitingAt S p1) fun v4 =>
    if p2 < v4 then
      okx (
        ob (f_X0_tellRider S p1 p2) fun v7 =>
        some v7)
    else
      some (.error "java/lang/IndexOutOfBoundsException"))
abbrev rm_X1_waits : Room := { frames := 7, cells := 0, slots := 0, locals := 111 }
abbrev rm_X1_waits_er : Room := { frames := 7, cells := 1, slots := 6, locals := 111 }
theorem hdv_X1_waits : yX1_waits.cls = RX1 ∧ yX1_waits.cls ≠ "java/lang/invoke/MethodHandle" ∧ yX1_waits.cls ≠ "java/lang/invoke/VarHandle" ∧ (parseMethodDescriptor yX1_waits.desc).map (fun d => d.parameters.length) = some 2 := by decide +kernel
set_option maxHeartbeats 4000000 in
set_option maxRecDepth 100000 in
theorem ok_X1_waits (l : Launch) (D : va_G) (Z : Nat → ClassId) (o : Nat) (a b : Nat → Nat) (S T : RS) (p1 : Int32) (p2 : Int32) (r : Int32) (hf : f_X1_waits S T p1 p2 = some (.ok r)) : GOi l yX1_waits wsX1_waits rm_X1_waits D Z xE [.ref o, .int p1, .int p2] (owl Z o a b S T) r := by
  refine GOi.of (cc := cX1_waits) (nL := 3) (ret := (some .int)) (by decide +kernel) rfl (Nat.le_of_ble_eq_true rfl) ?_
  intro p e s m below meth c A0 hC hE hA0 hA hP hK hD hS ls hl
  obtain ⟨hx, hb, hr, hml, hown, hts, hlk, -⟩ := hC
  have hown : s.vm.findClass RX1 = some m.cls := hown
  have hNm := hE.2.2.2.1
  have hNf := hE.2.2.2.2.1
  have hin1 : ∀ w ∈ wsX10, w ∈ wsX1_waits := fun w h => List.mem_cons_of_mem _ (List.mem_append_left _ (List.mem_append_left _ (List.mem_append_right _ h)))
  have hin0 : ∀ w ∈ wsX00, w ∈ wsX1_waits := fun w h => List.mem_cons_of_mem _ (List.mem_append_left _ (List.mem_append_right _ h))
  have hl : lv_has ls 3 [(0, .ref o), (1, .int p1), (2, .int p2)] := hl
  unfold f_X1_waits at hf
  refine lv_aload_n hx hb dX1_waits_0 rfl (lv_at hl 0 rfl) ?_
  refine lv_iload_n hx hb dX1_waits_1 rfl (lv_at hl 1 rfl) ?_
  obtain ⟨hv1, hf⟩ := obx_ok hf
  refine zc_v (z_VG (As := [.int p1]) (rest := []) (q0 := 0) (ci := 1) xE_ok hE (hS.up hA0) hA0 ⟨hx, hb, hml, hown, hts⟩ (ok_X1_needStation l D Z o a b S T p1 hv1) gX1_waits_X1_needStation rfl rfl rfl hdv_X1_needStation ⟨Nat.le_of_ble_eq_true rfl, Nat.le_of_ble_eq_true rfl⟩ hK hP hD rfl rfl rfl rfl hl.1 rfl (Nat.le_of_ble_eq_true rfl) dX1_waits_2 ⟨Nat.le_of_ble_eq_true rfl, Nat.le_of_ble_eq_true rfl⟩) hP hS hA (fun H locs hP hS => ?_)
  refine lv_iload_n hx hb dX1_waits_5 rfl (lv_at hl 2 rfl) ?_
  refine lv_if_lt (tgt := 21) hx hb dX1_waits_6 (by decide) (fun c2 => ?_) (fun c2 => ?_)
  · have hf := if_t hf c2
    exact er_ok hf
  · have hf := if_f hf c2
    refine lv_iload_n hx hb dX1_waits_9 rfl (lv_at hl 2 rfl) ?_
    refine lv_aload_n hx hb dX1_waits_10 rfl (lv_at hl 0 rfl) ?_
    refine va_get (D := D) (ci := 1) (v := .ref (a 0)) (C := RX1) (T := TX1) (N := 2) hx hb hts hin1 hown hK hP 0 rfl rfl 0 (by decide) (hts (.fieldLink RX1 10 "PodGuideway" "now" "LPodGuideway$Ring;") (List.mem_of_getElem? (i := 3) rfl)) (fun _ h9 => h9) rfl dX1_waits_11 ?_
    refine lv_iload_n hx hb dX1_waits_14 rfl (lv_at hl 1 rfl) ?_
    obtain ⟨v4, hv3, hf⟩ := ob_some hf
    refine zc_i (z_VN (As := [.int p1]) (rest := [.int p2]) (q0 := 0) (ci := 0) ⟨hx, hb, hml, hown, hts⟩ (m_X0_waitingAt l D Z a S p1 v4 hv3) gX1_waits_X0_waitingAt_n64 rfl rfl rfl (hNm (64, yX0_waitingAt) (List.mem_of_getElem? (i := 5) rfl)) (hts (.initialized RX0) (List.mem_of_getElem? (i := 10) rfl)) (hts (.instanceMethod yX0_waitingAt) (List.mem_of_getElem? (i := 9) rfl)) (hts (.selects RX0 yX0_waitingAt yX0_waitingAt) (List.mem_of_getElem? (i := 11) rfl)) hdv_X0_waitingAt ⟨Nat.le_of_ble_eq_true rfl, Nat.le_of_ble_eq_true rfl⟩ hK (hP.sub (ws' := (rwl Z a S)) [1, 2, 3, 4, 5, 6, 7, 8, 9, 10, 11, 12] rfl) (hD.sub (ws' := (rwl Z a S)) [1, 2, 3, 4, 5, 6, 7, 8, 9, 10, 11, 12] (by decide) rfl) rfl rfl rfl rfl hl.1 rfl (Nat.le_of_ble_eq_true rfl) dX1_waits_15 ⟨Nat.le_of_ble_eq_true rfl, Nat.le_of_ble_eq_true rfl⟩) hP hS hA (fun H locs hP hS => ?_)
    refine lv_icmp_lt (tgt := 31) hx hb dX1_waits_18 (by decide) (fun c5 => ?_) (fun c5 => ?_)
    · have hf := if_t hf c5
      have hf := okx_ok hf
      refine lv_aload_n hx hb dX1_waits_31 rfl (lv_at hl 0 rfl) ?_
      refine va_get (D := D) (ci := 1) (v := .ref (a 0)) (C := RX1) (T := TX1) (N := 2) hx hb hts hin1 hown hK hP 0 rfl rfl 0 (by decide) (hts (.fieldLink RX1 10 "PodGuideway" "now" "LPodGuideway$Ring;") (List.mem_of_getElem? (i := 3) rfl)) (fun _ h9 => h9) rfl dX1_waits_32 ?_
      refine lv_iload_n hx hb dX1_waits_35 rfl (lv_at hl 1 rfl) ?_
      refine lv_iload_n hx hb dX1_waits_36 rfl (lv_at hl 2 rfl) ?_
      obtain ⟨v7, hv6, hf⟩ := ob_some hf
      refine zc_i (z_VN (As := [.int p1, .int p2]) (rest := []) (q0 := 0) (ci := 0) ⟨hx, hb, hml, hown, hts⟩ (m_X0_tellRider l D Z a S p1 p2 v7 hv6) gX1_waits_X0_tellRider_n106 rfl rfl rfl (hNm (106, yX0_tellRider) (List.mem_of_getElem? (i := 13) rfl)) (hts (.initialized RX0) (List.mem_of_getElem? (i := 10) rfl)) (hts (.instanceMethod yX0_tellRider) (List.mem_of_getElem? (i := 21) rfl)) (hts (.selects RX0 yX0_tellRider yX0_tellRider) (List.mem_of_getElem? (i := 22) rfl)) hdv_X0_tellRider ⟨Nat.le_of_ble_eq_true rfl, Nat.le_of_ble_eq_true rfl⟩ hK (hP.sub (ws' := (rwl Z a S)) [1, 2, 3, 4, 5, 6, 7, 8, 9, 10, 11, 12] rfl) (hD.sub (ws' := (rwl Z a S)) [1, 2, 3, 4, 5, 6, 7, 8, 9, 10, 11, 12] (by decide) rfl) rfl rfl rfl rfl hl.1 rfl (Nat.le_of_ble_eq_true rfl) dX1_waits_37 ⟨Nat.le_of_ble_eq_true rfl, Nat.le_of_ble_eq_true rfl⟩) hP hS hA (fun H locs hP hS => ?_)
      exact zr_i hx hb hr hlk hS (Option.some.inj hf) dX1_waits_40
    · have hf := if_f hf c5
      exact er_ok hf

def f_X1_slot (S T : RS) (p1 : Int32) : Option (Except String (Int32)) :=
  obx (f_X1_needPlace S T p1) (
  okx (
    ob (f_X0_podAtPlace S p1) fun v3 =>
    some v3))
abbrev rm_X1_slot : Room := { frames := 7, cells := 0, slots := 0, locals := 111 }
abbrev rm_X1_slot_er : Room := { frames := 7, cells := 1, slots := 6, locals := 111 }
theorem hdv_X1_slot : yX1_slot.cls = RX1 ∧ yX1_slot.cls ≠ "java/lang/invoke/MethodHandle" ∧ yX1_slot.cls ≠ "java/lang/invoke/VarHandle" ∧ (parseMethodDescriptor yX1_slot.desc).map (fun d => d.parameters.length) = some 1 := by decide +kernel
set_option maxHeartbeats 4000000 in
set_option maxRecDepth 100000 in
theorem ok_X1_slot (l : Launch) (D : va_G) (Z : Nat → ClassId) (o : Nat) (a b : Nat → Nat) (S T : RS) (p1 : Int32) (r : Int32) (hf : f_X1_slot S T p1 = some (.ok r)) : GOi l yX1_slot wsX1_slot rm_X1_slot D Z xE [.ref o, .int p1] (owl Z o a b S T) r := by
  refine GOi.of (cc := cX1_slot) (nL := 2) (ret := (some .int)) (by decide +kernel) rfl (Nat.le_of_ble_eq_true rfl) ?_
  intro p e s m below meth c A0 hC hE hA0 hA hP hK hD hS ls hl
  obtain ⟨hx, hb, hr, hml, hown, hts, hlk, -⟩ := hC
  have hown : s.vm.findClass RX1 = some m.cls := hown
  have hNm := hE.2.2.2.1
  have hNf := hE.2.2.2.2.1
  have hin1 : ∀ w ∈ wsX10, w ∈ wsX1_slot := fun w h => List.mem_cons_of_mem _ (List.mem_append_left _ (List.mem_append_left _ (List.mem_append_right _ h)))
  have hin0 : ∀ w ∈ wsX00, w ∈ wsX1_slot := fun w h => List.mem_cons_of_mem _ (List.mem_append_left _ (List.mem_append_right _ h))
  have hl : lv_has ls 2 [(0, .ref o), (1, .int p1)] := hl
  unfold f_X1_slot at hf
  refine lv_aload_n hx hb dX1_slot_0 rfl (lv_at hl 0 rfl) ?_
  refine lv_iload_n hx hb dX1_slot_1 rfl (lv_at hl 1 rfl) ?_
  obtain ⟨hv1, hf⟩ := obx_ok hf
  refine zc_v (z_VG (As := [.int p1]) (rest := []) (q0 := 0) (ci := 1) xE_ok hE (hS.up hA0) hA0 ⟨hx, hb, hml, hown, hts⟩ (ok_X1_needPlace l D Z o a b S T p1 hv1) gX1_slot_X1_needPlace rfl rfl rfl hdv_X1_needPlace ⟨Nat.le_of_ble_eq_true rfl, Nat.le_of_ble_eq_true rfl⟩ hK hP hD rfl rfl rfl rfl hl.1 rfl (Nat.le_of_ble_eq_true rfl) dX1_slot_2 ⟨Nat.le_of_ble_eq_true rfl, Nat.le_of_ble_eq_true rfl⟩) hP hS hA (fun H locs hP hS => ?_)
  have hf := okx_ok hf
  refine lv_aload_n hx hb dX1_slot_5 rfl (lv_at hl 0 rfl) ?_
  refine va_get (D := D) (ci := 1) (v := .ref (a 0)) (C := RX1) (T := TX1) (N := 2) hx hb hts hin1 hown hK hP 0 rfl rfl 0 (by decide) (hts (.fieldLink RX1 10 "PodGuideway" "now" "LPodGuideway$Ring;") (List.mem_of_getElem? (i := 1) rfl)) (fun _ h9 => h9) rfl dX1_slot_6 ?_
  refine lv_iload_n hx hb dX1_slot_9 rfl (lv_at hl 1 rfl) ?_
  obtain ⟨v3, hv2, hf⟩ := ob_some hf
  refine zc_i (z_VN (As := [.int p1]) (rest := []) (q0 := 0) (ci := 0) ⟨hx, hb, hml, hown, hts⟩ (m_X0_podAtPlace l D Z a S p1 v3 hv2) gX1_slot_X0_podAtPlace_n109 rfl rfl rfl (hNm (109, yX0_podAtPlace) (List.mem_of_getElem? (i := 14) rfl)) (hts (.initialized RX0) (List.mem_of_getElem? (i := 10) rfl)) (hts (.instanceMethod yX0_podAtPlace) (List.mem_of_getElem? (i := 9) rfl)) (hts (.selects RX0 yX0_podAtPlace yX0_podAtPlace) (List.mem_of_getElem? (i := 11) rfl)) hdv_X0_podAtPlace ⟨Nat.le_of_ble_eq_true rfl, Nat.le_of_ble_eq_true rfl⟩ hK (hP.sub (ws' := (rwl Z a S)) [1, 2, 3, 4, 5, 6, 7, 8, 9, 10, 11, 12] rfl) (hD.sub (ws' := (rwl Z a S)) [1, 2, 3, 4, 5, 6, 7, 8, 9, 10, 11, 12] (by decide) rfl) rfl rfl rfl rfl hl.1 rfl (Nat.le_of_ble_eq_true rfl) dX1_slot_10 ⟨Nat.le_of_ble_eq_true rfl, Nat.le_of_ble_eq_true rfl⟩) hP hS hA (fun H locs hP hS => ?_)
  exact zr_i hx hb hr hlk hS (Option.some.inj hf) dX1_slot_13

def f_X1_count (S T : RS) (p1 : Int32) : Option (Except String (Int32)) :=
  obx (f_X1_needWhat S T p1 0 8) (
  okx (
    ob (f_X0_tellCount S p1) fun v3 =>
    some v3))
abbrev rm_X1_count : Room := { frames := 7, cells := 0, slots := 0, locals := 113 }
abbrev rm_X1_count_er : Room := { frames := 7, cells := 1, slots := 6, locals := 113 }
theorem hdv_X1_count : yX1_count.cls = RX1 ∧ yX1_count.cls ≠ "java/lang/invoke/MethodHandle" ∧ yX1_count.cls ≠ "java/lang/invoke/VarHandle" ∧ (parseMethodDescriptor yX1_count.desc).map (fun d => d.parameters.length) = some 1 := by decide +kernel
set_option maxHeartbeats 4000000 in
set_option maxRecDepth 100000 in
theorem ok_X1_count (l : Launch) (D : va_G) (Z : Nat → ClassId) (o : Nat) (a b : Nat → Nat) (S T : RS) (p1 : Int32) (r : Int32) (hf : f_X1_count S T p1 = some (.ok r)) : GOi l yX1_count wsX1_count rm_X1_count D Z xE [.ref o, .int p1] (owl Z o a b S T) r := by
  refine GOi.of (cc := cX1_count) (nL := 2) (ret := (some .int)) (by decide +kernel) rfl (Nat.le_of_ble_eq_true rfl) ?_
  intro p e s m below meth c A0 hC hE hA0 hA hP hK hD hS ls hl
  obtain ⟨hx, hb, hr, hml, hown, hts, hlk, -⟩ := hC
  have hown : s.vm.findClass RX1 = some m.cls := hown
  have hNm := hE.2.2.2.1
  have hNf := hE.2.2.2.2.1
  have hin1 : ∀ w ∈ wsX10, w ∈ wsX1_count := fun w h => List.mem_cons_of_mem _ (List.mem_append_left _ (List.mem_append_left _ (List.mem_append_right _ h)))
  have hin0 : ∀ w ∈ wsX00, w ∈ wsX1_count := fun w h => List.mem_cons_of_mem _ (List.mem_append_left _ (List.mem_append_right _ h))
  have hl : lv_has ls 2 [(0, .ref o), (1, .int p1)] := hl
  unfold f_X1_count at hf
  refine lv_aload_n hx hb dX1_count_0 rfl (lv_at hl 0 rfl) ?_
  refine lv_iload_n hx hb dX1_count_1 rfl (lv_at hl 1 rfl) ?_
  refine lv_iconst (v := 0) hx hb dX1_count_2 (by decide) ?_
  refine lv_bipush (v := 8) hx hb dX1_count_3 (by decide) ?_
  obtain ⟨hv1, hf⟩ := obx_ok hf
  refine zc_v (z_VG (As := [.int p1, .int 0, .int 8]) (rest := []) (q0 := 0) (ci := 1) xE_ok hE (hS.up hA0) hA0 ⟨hx, hb, hml, hown, hts⟩ (ok_X1_needWhat l D Z o a b S T p1 0 8 hv1) gX1_count_X1_needWhat rfl rfl rfl hdv_X1_needWhat ⟨Nat.le_of_ble_eq_true rfl, Nat.le_of_ble_eq_true rfl⟩ hK hP hD rfl rfl rfl rfl hl.1 rfl (Nat.le_of_ble_eq_true rfl) dX1_count_5 ⟨Nat.le_of_ble_eq_true rfl, Nat.le_of_ble_eq_true rfl⟩) hP hS hA (fun H locs hP hS => ?_)
  have hf := okx_ok hf
  refine lv_aload_n hx hb dX1_count_8 rfl (lv_at hl 0 rfl) ?_
  refine va_get (D := D) (ci := 1) (v := .ref (a 0)) (C := RX1) (T := TX1) (N := 2) hx hb hts hin1 hown hK hP 0 rfl rfl 0 (by decide) (hts (.fieldLink RX1 10 "PodGuideway" "now" "LPodGuideway$Ring;") (List.mem_of_getElem? (i := 1) rfl)) (fun _ h9 => h9) rfl dX1_count_9 ?_
  refine lv_iload_n hx hb dX1_count_12 rfl (lv_at hl 1 rfl) ?_
  obtain ⟨v3, hv2, hf⟩ := ob_some hf
  refine zc_i (z_VN (As := [.int p1]) (rest := []) (q0 := 0) (ci := 0) ⟨hx, hb, hml, hown, hts⟩ (m_X0_tellCount l D Z a S p1 v3 hv2) gX1_count_X0_tellCount_n112 rfl rfl rfl (hNm (112, yX0_tellCount) (List.mem_of_getElem? (i := 15) rfl)) (hts (.initialized RX0) (List.mem_of_getElem? (i := 10) rfl)) (hts (.instanceMethod yX0_tellCount) (List.mem_of_getElem? (i := 9) rfl)) (hts (.selects RX0 yX0_tellCount yX0_tellCount) (List.mem_of_getElem? (i := 11) rfl)) hdv_X0_tellCount ⟨Nat.le_of_ble_eq_true rfl, Nat.le_of_ble_eq_true rfl⟩ hK (hP.sub (ws' := (rwl Z a S)) [1, 2, 3, 4, 5, 6, 7, 8, 9, 10, 11, 12] rfl) (hD.sub (ws' := (rwl Z a S)) [1, 2, 3, 4, 5, 6, 7, 8, 9, 10, 11, 12] (by decide) rfl) rfl rfl rfl rfl hl.1 rfl (Nat.le_of_ble_eq_true rfl) dX1_count_13 ⟨Nat.le_of_ble_eq_true rfl, Nat.le_of_ble_eq_true rfl⟩) hP hS hA (fun H locs hP hS => ?_)
  exact zr_i hx hb hr hlk hS (Option.some.inj hf) dX1_count_16

def f_X1_pass_L15   : Nat → Int32 → Int32 → Int32 → RS → RS → Option (Int32 × RS × RS)
  | 0, _, _, _, _, _ => none
  | n + 1, x1, x2, x3, S, T =>
    if x1 ≤ x3 then
      ob (f_X0_arrivedInAll S) fun v6 =>
      some ((v6 - x2), S, T)
    else
      ob (f_X0_passMinute S) fun S8 =>
      f_X1_pass_L15 n x1 x2 (x3 + 1) S8 T
def f_X1_pass (S T : RS) (p1 : Int32) : Option (Except String (Int32 × RS × RS)) :=
  obx (f_X1_needMinutes S T p1) (
  okx (
    ob (f_X0_arrivedInAll S) fun v3 =>
    f_X1_pass_L15 FU p1 v3 0 S T))
abbrev rm_X1_pass : Room := { frames := 7, cells := 0, slots := 0, locals := 135 }
abbrev rm_X1_pass_er : Room := { frames := 7, cells := 1, slots := 6, locals := 135 }
theorem hdv_X1_pass : yX1_pass.cls = RX1 ∧ yX1_pass.cls ≠ "java/lang/invoke/MethodHandle" ∧ yX1_pass.cls ≠ "java/lang/invoke/VarHandle" ∧ (parseMethodDescriptor yX1_pass.desc).map (fun d => d.parameters.length) = some 1 := by decide +kernel
set_option maxHeartbeats 4000000 in
set_option maxRecDepth 100000 in
theorem ok_X1_pass (l : Launch) (D : va_G) (Z : Nat → ClassId) (o : Nat) (a b : Nat → Nat) (S T : RS) (p1 : Int32) (r : Int32) (S' T' : RS) (hf : f_X1_pass S T p1 = some (.ok (r, S', T'))) : GWi l yX1_pass wsX1_pass rm_X1_pass D Z xE [.ref o, .int p1] (owl Z o a b S T) (owl Z o a b S' T') r 0 0 := by
  refine GWi.of (cc := cX1_pass) (nL := 4) (ret := (some .int)) (by decide +kernel) rfl (Nat.le_of_ble_eq_true rfl) ?_
  intro p e s m below meth c A hC hE hA hP hK hD hS ls hl
  obtain ⟨hx, hb, hr, hml, hown, hts, hlk, -⟩ := hC
  have hown : s.vm.findClass RX1 = some m.cls := hown
  have hNm := hE.2.2.2.1
  have hNf := hE.2.2.2.2.1
  have hin1 : ∀ w ∈ wsX10, w ∈ wsX1_pass := fun w h => List.mem_cons_of_mem _ (List.mem_append_left _ (List.mem_append_left _ (List.mem_append_right _ h)))
  have hin0 : ∀ w ∈ wsX00, w ∈ wsX1_pass := fun w h => List.mem_cons_of_mem _ (List.mem_append_left _ (List.mem_append_right _ h))
  have hl : lv_has ls 4 [(0, .ref o), (1, .int p1)] := hl
  have L15 : ∀ (n : Nat) (x1 : Int32) (x2 : Int32) (x3 : Int32) (S : RS) (T : RS) (H : Heap) (locs : List Loc), va_P D vwCl (owl Z o a b S T) H → va_D A (owl Z o a b S T) → va_S A s.heap H locs → ∀ ls : Array Slot, lv_has ls 4 [(0, .ref o), (1, .int x1), (2, .int x2), (3, .int x3)] → f_X1_pass_L15 n x1 x2 x3 S T = some (r, S', T') → W p l e rm_X1_pass s m ([.ref o, .int p1] : List Value).toArray below meth c H locs 0 0 (MQ below (zMi D A (owl Z o a b S' T') r) ([.ref o, .int p1] : List Value).toArray s 0 0 A) (F0 m 15 ls []) := by
    intro n
    induction n with
    | zero =>
      intro x1 x2 x3 S T H locs hP hD hS ls hl hf
      exact no_r hf
    | succ n ih =>
      intro x1 x2 x3 S T H locs hP hD hS ls hl hf
      rw [f_X1_pass_L15] at hf
      refine lv_iload_n hx hb dX1_pass_15 rfl (lv_at hl 3 rfl) ?_
      refine lv_iload_n hx hb dX1_pass_16 rfl (lv_at hl 1 rfl) ?_
      refine lv_icmp_ge (tgt := 33) hx hb dX1_pass_17 (by decide) (fun c4 => ?_) (fun c4 => ?_)
      · have hf := if_t hf c4
        refine lv_aload_n hx hb dX1_pass_33 rfl (lv_at hl 0 rfl) ?_
        refine va_get (D := D) (ci := 1) (v := .ref (a 0)) (C := RX1) (T := TX1) (N := 2) hx hb hts hin1 hown hK hP 0 rfl rfl 0 (by decide) (hts (.fieldLink RX1 10 "PodGuideway" "now" "LPodGuideway$Ring;") (List.mem_of_getElem? (i := 1) rfl)) (fun _ h9 => h9) rfl dX1_pass_34 ?_
        obtain ⟨v6, hv5, hf⟩ := ob_some hf
        refine zc_i (z_VN (As := []) (rest := []) (q0 := 0) (ci := 0) ⟨hx, hb, hml, hown, hts⟩ (m_X0_arrivedInAll l D Z a S v6 hv5) gX1_pass_X0_arrivedInAll_n118 rfl rfl rfl (hNm (118, yX0_arrivedInAll) (List.mem_of_getElem? (i := 16) rfl)) (hts (.initialized RX0) (List.mem_of_getElem? (i := 10) rfl)) (hts (.instanceMethod yX0_arrivedInAll) (List.mem_of_getElem? (i := 9) rfl)) (hts (.selects RX0 yX0_arrivedInAll yX0_arrivedInAll) (List.mem_of_getElem? (i := 11) rfl)) hdv_X0_arrivedInAll ⟨Nat.le_of_ble_eq_true rfl, Nat.le_of_ble_eq_true rfl⟩ hK (hP.sub (ws' := (rwl Z a S)) [1, 2, 3, 4, 5, 6, 7, 8, 9, 10, 11, 12] rfl) (hD.sub (ws' := (rwl Z a S)) [1, 2, 3, 4, 5, 6, 7, 8, 9, 10, 11, 12] (by decide) rfl) rfl rfl rfl rfl hl.1 rfl (Nat.le_of_ble_eq_true rfl) dX1_pass_37 ⟨Nat.le_of_ble_eq_true rfl, Nat.le_of_ble_eq_true rfl⟩) hP hS hA (fun H locs hP hS => ?_)
        refine lv_iload_n hx hb dX1_pass_40 rfl (lv_at hl 2 rfl) ?_
        refine lv_isub hx hb dX1_pass_41 ?_
        exact zw_i hx hb hr hlk hP hD hS (owl_eq (t3_2 hf) (t3_3 hf)) (t3_1 hf) (Nat.le_of_ble_eq_true rfl) (Nat.le_of_ble_eq_true rfl) dX1_pass_42
      · have hf := if_f hf c4
        refine lv_aload_n hx hb dX1_pass_20 rfl (lv_at hl 0 rfl) ?_
        refine va_get (D := D) (ci := 1) (v := .ref (a 0)) (C := RX1) (T := TX1) (N := 2) hx hb hts hin1 hown hK hP 0 rfl rfl 0 (by decide) (hts (.fieldLink RX1 10 "PodGuideway" "now" "LPodGuideway$Ring;") (List.mem_of_getElem? (i := 1) rfl)) (fun _ h9 => h9) rfl dX1_pass_21 ?_
        obtain ⟨S8, hv7, hf⟩ := ob_some hf
        refine zc_mv zI_now (z_VN (As := []) (rest := []) (q0 := 0) (ci := 0) ⟨hx, hb, hml, hown, hts⟩ (m_X0_passMinute l D Z a S S8 hv7) gX1_pass_X0_passMinute_n122 rfl rfl rfl (hNm (122, yX0_passMinute) (List.mem_of_getElem? (i := 17) rfl)) (hts (.initialized RX0) (List.mem_of_getElem? (i := 10) rfl)) (hts (.instanceMethod yX0_passMinute) (List.mem_of_getElem? (i := 18) rfl)) (hts (.selects RX0 yX0_passMinute yX0_passMinute) (List.mem_of_getElem? (i := 19) rfl)) hdv_X0_passMinute ⟨Nat.le_of_ble_eq_true rfl, Nat.le_of_ble_eq_true rfl⟩ hK (hP.sub (ws' := (rwl Z a S)) [1, 2, 3, 4, 5, 6, 7, 8, 9, 10, 11, 12] rfl) (hD.sub (ws' := (rwl Z a S)) [1, 2, 3, 4, 5, 6, 7, 8, 9, 10, 11, 12] (by decide) rfl) rfl rfl rfl rfl hl.1 rfl (Nat.le_of_ble_eq_true rfl) dX1_pass_24 ⟨Nat.le_of_ble_eq_true rfl, Nat.le_of_ble_eq_true rfl⟩) hP hD hS hA (fun H locs hP hD hS => ?_)
        refine lv_iinc (v := (x3 + 1)) (lv' := [(3, .int (x3 + 1)), (0, .ref o), (1, .int x1), (2, .int x2)]) hx hb dX1_pass_27 hl (k := 3) rfl rfl (by decide) rfl (fun ls hl => ?_)
        refine lv_goto (tgt := 15) hx hb dX1_pass_30 (by decide) ?_
        exact ih x1 x2 (x3 + 1) S8 T _ _ hP hD hS ls (lv_sub hl [1, 2, 3, 0] rfl) hf
  unfold f_X1_pass at hf
  refine lv_aload_n hx hb dX1_pass_0 rfl (lv_at hl 0 rfl) ?_
  refine lv_iload_n hx hb dX1_pass_1 rfl (lv_at hl 1 rfl) ?_
  obtain ⟨hv1, hf⟩ := obx_ok hf
  refine zc_v (z_VG (As := [.int p1]) (rest := []) (q0 := 0) (ci := 1) xE_ok hE hS hA ⟨hx, hb, hml, hown, hts⟩ (ok_X1_needMinutes l D Z o a b S T p1 hv1) gX1_pass_X1_needMinutes rfl rfl rfl hdv_X1_needMinutes ⟨Nat.le_of_ble_eq_true rfl, Nat.le_of_ble_eq_true rfl⟩ hK hP hD rfl rfl rfl rfl hl.1 rfl (Nat.le_of_ble_eq_true rfl) dX1_pass_2 ⟨Nat.le_of_ble_eq_true rfl, Nat.le_of_ble_eq_true rfl⟩) hP hS hA (fun H locs hP hS => ?_)
  have hf := okx_ok hf
  refine lv_aload_n hx hb dX1_pass_5 rfl (lv_at hl 0 rfl) ?_
  refine va_get (D := D) (ci := 1) (v := .ref (a 0)) (C := RX1) (T := TX1) (N := 2) hx hb hts hin1 hown hK hP 0 rfl rfl 0 (by decide) (hts (.fieldLink RX1 10 "PodGuideway" "now" "LPodGuideway$Ring;") (List.mem_of_getElem? (i := 1) rfl)) (fun _ h9 => h9) rfl dX1_pass_6 ?_
  obtain ⟨v3, hv2, hf⟩ := ob_some hf
  refine zc_i (z_VN (As := []) (rest := []) (q0 := 0) (ci := 0) ⟨hx, hb, hml, hown, hts⟩ (m_X0_arrivedInAll l D Z a S v3 hv2) gX1_pass_X0_arrivedInAll_n118 rfl rfl rfl (hNm (118, yX0_arrivedInAll) (List.mem_of_getElem? (i := 16) rfl)) (hts (.initialized RX0) (List.mem_of_getElem? (i := 10) rfl)) (hts (.instanceMethod yX0_arrivedInAll) (List.mem_of_getElem? (i := 9) rfl)) (hts (.selects RX0 yX0_arrivedInAll yX0_arrivedInAll) (List.mem_of_getElem? (i := 11) rfl)) hdv_X0_arrivedInAll ⟨Nat.le_of_ble_eq_true rfl, Nat.le_of_ble_eq_true rfl⟩ hK (hP.sub (ws' := (rwl Z a S)) [1, 2, 3, 4, 5, 6, 7, 8, 9, 10, 11, 12] rfl) (hD.sub (ws' := (rwl Z a S)) [1, 2, 3, 4, 5, 6, 7, 8, 9, 10, 11, 12] (by decide) rfl) rfl rfl rfl rfl hl.1 rfl (Nat.le_of_ble_eq_true rfl) dX1_pass_9 ⟨Nat.le_of_ble_eq_true rfl, Nat.le_of_ble_eq_true rfl⟩) hP hS hA (fun H locs hP hS => ?_)
  refine lv_istore_n (lv' := [(2, .int v3), (0, .ref o), (1, .int p1)]) hx hb dX1_pass_12 rfl hl (by decide) rfl (fun ls hl => ?_)
  refine lv_iconst (v := 0) hx hb dX1_pass_13 (by decide) ?_
  refine lv_istore_n (lv' := [(3, .int 0), (2, .int v3), (0, .ref o), (1, .int p1)]) hx hb dX1_pass_14 rfl hl (by decide) rfl (fun ls hl => ?_)
  exact L15 FU p1 v3 0 S T _ _ hP hD hS ls (lv_sub hl [2, 3, 1, 0] rfl) hf

def f_X1_when_L34   : Nat → Int32 → Int32 → Int32 → RS → RS → Option (Int32 × RS × RS)
  | 0, _, _, _, _, _ => none
  | n + 1, x1, x2, x3, S, T =>
    if 200 < x3 then
      some ((-1), S, T)
    else
      ob (f_X0_passMinute T) fun T9 =>
      ob (f_X0_goalOf T9 x1) fun v11 =>
      if v11 = x2 then
        f_X1_when_L34 n x1 x2 (x3 + 1) S T9
      else
        some (x3, S, T9)
def f_X1_when (S T : RS) (p1 : Int32) : Option (Except String (Int32 × RS × RS)) :=
  obx (f_X1_needPod S T p1) (
  okx (
    ob (f_X0_goalOf S p1) fun v3 =>
    if v3 = (-1) then
      some ((-1), S, T)
    else
      ob (f_X0_copyFrom T S) fun T6 =>
      f_X1_when_L34 FU p1 v3 1 S T6))
abbrev rm_X1_when : Room := { frames := 7, cells := 0, slots := 0, locals := 135 }
abbrev rm_X1_when_er : Room := { frames := 7, cells := 1, slots := 6, locals := 135 }
theorem hdv_X1_when : yX1_when.cls = RX1 ∧ yX1_when.cls ≠ "java/lang/invoke/MethodHandle" ∧ yX1_when.cls ≠ "java/lang/invoke/VarHandle" ∧ (parseMethodDescriptor yX1_when.desc).map (fun d => d.parameters.length) = some 1 := by decide +kernel
set_option maxHeartbeats 4000000 in
set_option maxRecDepth 100000 in
theorem ok_X1_when (l : Launch) (D : va_G) (Z : Nat → ClassId) (o : Nat) (a b : Nat → Nat) (S T : RS) (p1 : Int32) (r : Int32) (S' T' : RS) (hf : f_X1_when S T p1 = some (.ok (r, S', T'))) : GWi l yX1_when wsX1_when rm_X1_when D Z xE [.ref o, .int p1] (owl Z o a b S T) (owl Z o a b S' T') r 0 0 := by
  refine GWi.of (cc := cX1_when) (nL := 4) (ret := (some .int)) (by decide +kernel) rfl (Nat.le_of_ble_eq_true rfl) ?_
  intro p e s m below meth c A hC hE hA hP hK hD hS ls hl
  obtain ⟨hx, hb, hr, hml, hown, hts, hlk, -⟩ := hC
  have hown : s.vm.findClass RX1 = some m.cls := hown
  have hNm := hE.2.2.2.1
  have hNf := hE.2.2.2.2.1
  have hin1 : ∀ w ∈ wsX10, w ∈ wsX1_when := fun w h => List.mem_cons_of_mem _ (List.mem_append_left _ (List.mem_append_left _ (List.mem_append_right _ h)))
  have hin0 : ∀ w ∈ wsX00, w ∈ wsX1_when := fun w h => List.mem_cons_of_mem _ (List.mem_append_left _ (List.mem_append_right _ h))
  have hl : lv_has ls 4 [(0, .ref o), (1, .int p1)] := hl
  have L34 : ∀ (n : Nat) (x1 : Int32) (x2 : Int32) (x3 : Int32) (S : RS) (T : RS) (H : Heap) (locs : List Loc), va_P D vwCl (owl Z o a b S T) H → va_D A (owl Z o a b S T) → va_S A s.heap H locs → ∀ ls : Array Slot, lv_has ls 4 [(0, .ref o), (1, .int x1), (2, .int x2), (3, .int x3)] → f_X1_when_L34 n x1 x2 x3 S T = some (r, S', T') → W p l e rm_X1_when s m ([.ref o, .int p1] : List Value).toArray below meth c H locs 0 0 (MQ below (zMi D A (owl Z o a b S' T') r) ([.ref o, .int p1] : List Value).toArray s 0 0 A) (F0 m 34 ls []) := by
    intro n
    induction n with
    | zero =>
      intro x1 x2 x3 S T H locs hP hD hS ls hl hf
      exact no_r hf
    | succ n ih =>
      intro x1 x2 x3 S T H locs hP hD hS ls hl hf
      rw [f_X1_when_L34] at hf
      refine lv_iload_n hx hb dX1_when_34 rfl (lv_at hl 3 rfl) ?_
      refine lv_sipush (v := 200) hx hb dX1_when_35 (by decide) ?_
      refine lv_icmp_gt (tgt := 68) hx hb dX1_when_38 (by decide) (fun c7 => ?_) (fun c7 => ?_)
      · have hf := if_t hf c7
        refine lv_iconst (v := (-1)) hx hb dX1_when_68 (by decide) ?_
        exact zw_i hx hb hr hlk hP hD hS (owl_eq (t3_2 hf) (t3_3 hf)) (t3_1 hf) (Nat.le_of_ble_eq_true rfl) (Nat.le_of_ble_eq_true rfl) dX1_when_69
      · have hf := if_f hf c7
        refine lv_aload_n hx hb dX1_when_41 rfl (lv_at hl 0 rfl) ?_
        refine va_get (D := D) (ci := 1) (v := .ref (b 0)) (C := RX1) (T := TX1) (N := 2) hx hb hts hin1 hown hK hP 0 rfl rfl 1 (by decide) (hts (.fieldLink RX1 16 "PodGuideway" "ahead" "LPodGuideway$Ring;") (List.mem_of_getElem? (i := 2) rfl)) (fun _ h9 => h9) rfl dX1_when_42 ?_
        obtain ⟨T9, hv8, hf⟩ := ob_some hf
        refine zc_mv zI_ahead (z_VN (As := []) (rest := []) (q0 := 0) (ci := 0) ⟨hx, hb, hml, hown, hts⟩ (m_X0_passMinute l D Z b T T9 hv8) gX1_when_X0_passMinute_n122 rfl rfl rfl (hNm (122, yX0_passMinute) (List.mem_of_getElem? (i := 17) rfl)) (hts (.initialized RX0) (List.mem_of_getElem? (i := 11) rfl)) (hts (.instanceMethod yX0_passMinute) (List.mem_of_getElem? (i := 48) rfl)) (hts (.selects RX0 yX0_passMinute yX0_passMinute) (List.mem_of_getElem? (i := 49) rfl)) hdv_X0_passMinute ⟨Nat.le_of_ble_eq_true rfl, Nat.le_of_ble_eq_true rfl⟩ hK (hP.sub (ws' := (rwl Z b T)) [13, 14, 15, 16, 17, 18, 19, 20, 21, 22, 23, 24] rfl) (hD.sub (ws' := (rwl Z b T)) [13, 14, 15, 16, 17, 18, 19, 20, 21, 22, 23, 24] (by decide) rfl) rfl rfl rfl rfl hl.1 rfl (Nat.le_of_ble_eq_true rfl) dX1_when_45 ⟨Nat.le_of_ble_eq_true rfl, Nat.le_of_ble_eq_true rfl⟩) hP hD hS hA (fun H locs hP hD hS => ?_)
        refine lv_aload_n hx hb dX1_when_48 rfl (lv_at hl 0 rfl) ?_
        refine va_get (D := D) (ci := 1) (v := .ref (b 0)) (C := RX1) (T := TX1) (N := 2) hx hb hts hin1 hown hK hP 0 rfl rfl 1 (by decide) (hts (.fieldLink RX1 16 "PodGuideway" "ahead" "LPodGuideway$Ring;") (List.mem_of_getElem? (i := 2) rfl)) (fun _ h9 => h9) rfl dX1_when_49 ?_
        refine lv_iload_n hx hb dX1_when_52 rfl (lv_at hl 1 rfl) ?_
        obtain ⟨v11, hv10, hf⟩ := ob_some hf
        refine zc_i (z_VN (As := [.int x1]) (rest := []) (q0 := 0) (ci := 0) ⟨hx, hb, hml, hown, hts⟩ (m_X0_goalOf l D Z b T9 x1 v11 hv10) gX1_when_X0_goalOf_n78 rfl rfl rfl (hNm (78, yX0_goalOf) (List.mem_of_getElem? (i := 8) rfl)) (hts (.initialized RX0) (List.mem_of_getElem? (i := 11) rfl)) (hts (.instanceMethod yX0_goalOf) (List.mem_of_getElem? (i := 10) rfl)) (hts (.selects RX0 yX0_goalOf yX0_goalOf) (List.mem_of_getElem? (i := 12) rfl)) hdv_X0_goalOf ⟨Nat.le_of_ble_eq_true rfl, Nat.le_of_ble_eq_true rfl⟩ hK (hP.sub (ws' := (rwl Z b T9)) [13, 14, 15, 16, 17, 18, 19, 20, 21, 22, 23, 24] rfl) (hD.sub (ws' := (rwl Z b T9)) [13, 14, 15, 16, 17, 18, 19, 20, 21, 22, 23, 24] (by decide) rfl) rfl rfl rfl rfl hl.1 rfl (Nat.le_of_ble_eq_true rfl) dX1_when_53 ⟨Nat.le_of_ble_eq_true rfl, Nat.le_of_ble_eq_true rfl⟩) hP hS hA (fun H locs hP hS => ?_)
        refine lv_iload_n hx hb dX1_when_56 rfl (lv_at hl 2 rfl) ?_
        refine lv_icmp_eq (tgt := 62) hx hb dX1_when_57 (by decide) (fun c12 => ?_) (fun c12 => ?_)
        · have hf := if_t hf c12
          refine lv_iinc (v := (x3 + 1)) (lv' := [(3, .int (x3 + 1)), (0, .ref o), (1, .int x1), (2, .int x2)]) hx hb dX1_when_62 hl (k := 3) rfl rfl (by decide) rfl (fun ls hl => ?_)
          refine lv_goto (tgt := 34) hx hb dX1_when_65 (by decide) ?_
          exact ih x1 x2 (x3 + 1) S T9 _ _ hP hD hS ls (lv_sub hl [1, 2, 3, 0] rfl) hf
        · have hf := if_f hf c12
          refine lv_iload_n hx hb dX1_when_60 rfl (lv_at hl 3 rfl) ?_
          exact zw_i hx hb hr hlk hP hD hS (owl_eq (t3_2 hf) (t3_3 hf)) (t3_1 hf) (Nat.le_of_ble_eq_true rfl) (Nat.le_of_ble_eq_true rfl) dX1_when_61
  unfold f_X1_when at hf
  refine lv_aload_n hx hb dX1_when_0 rfl (lv_at hl 0 rfl) ?_
  refine lv_iload_n hx hb dX1_when_1 rfl (lv_at hl 1 rfl) ?_
  obtain ⟨hv1, hf⟩ := obx_ok hf
  refine zc_v (z_VG (As := [.int p1]) (rest := []) (q0 := 0) (ci := 1) xE_ok hE hS hA ⟨hx, hb, hml, hown, hts⟩ (ok_X1_needPod l D Z o a b S T p1 hv1) gX1_when_X1_needPod rfl rfl rfl hdv_X1_needPod ⟨Nat.le_of_ble_eq_true rfl, Nat.le_of_ble_eq_true rfl⟩ hK hP hD rfl rfl rfl rfl hl.1 rfl (Nat.le_of_ble_eq_true rfl) dX1_when_2 ⟨Nat.le_of_ble_eq_true rfl, Nat.le_of_ble_eq_true rfl⟩) hP hS hA (fun H locs hP hS => ?_)
  have hf := okx_ok hf
  refine lv_aload_n hx hb dX1_when_5 rfl (lv_at hl 0 rfl) ?_
  refine va_get (D := D) (ci := 1) (v := .ref (a 0)) (C := RX1) (T := TX1) (N := 2) hx hb hts hin1 hown hK hP 0 rfl rfl 0 (by decide) (hts (.fieldLink RX1 10 "PodGuideway" "now" "LPodGuideway$Ring;") (List.mem_of_getElem? (i := 1) rfl)) (fun _ h9 => h9) rfl dX1_when_6 ?_
  refine lv_iload_n hx hb dX1_when_9 rfl (lv_at hl 1 rfl) ?_
  obtain ⟨v3, hv2, hf⟩ := ob_some hf
  refine zc_i (z_VN (As := [.int p1]) (rest := []) (q0 := 0) (ci := 0) ⟨hx, hb, hml, hown, hts⟩ (m_X0_goalOf l D Z a S p1 v3 hv2) gX1_when_X0_goalOf_n78 rfl rfl rfl (hNm (78, yX0_goalOf) (List.mem_of_getElem? (i := 8) rfl)) (hts (.initialized RX0) (List.mem_of_getElem? (i := 11) rfl)) (hts (.instanceMethod yX0_goalOf) (List.mem_of_getElem? (i := 10) rfl)) (hts (.selects RX0 yX0_goalOf yX0_goalOf) (List.mem_of_getElem? (i := 12) rfl)) hdv_X0_goalOf ⟨Nat.le_of_ble_eq_true rfl, Nat.le_of_ble_eq_true rfl⟩ hK (hP.sub (ws' := (rwl Z a S)) [1, 2, 3, 4, 5, 6, 7, 8, 9, 10, 11, 12] rfl) (hD.sub (ws' := (rwl Z a S)) [1, 2, 3, 4, 5, 6, 7, 8, 9, 10, 11, 12] (by decide) rfl) rfl rfl rfl rfl hl.1 rfl (Nat.le_of_ble_eq_true rfl) dX1_when_10 ⟨Nat.le_of_ble_eq_true rfl, Nat.le_of_ble_eq_true rfl⟩) hP hS hA (fun H locs hP hS => ?_)
  refine lv_istore_n (lv' := [(2, .int v3), (0, .ref o), (1, .int p1)]) hx hb dX1_when_13 rfl hl (by decide) rfl (fun ls hl => ?_)
  refine lv_iload_n hx hb dX1_when_14 rfl (lv_at hl 0 rfl) ?_
  refine lv_iconst (v := (-1)) hx hb dX1_when_15 (by decide) ?_
  refine lv_icmp_ne (tgt := 21) hx hb dX1_when_16 (by decide) (fun c4 => ?_) (fun c4 => ?_)
  · have hf := if_f hf c4
    refine lv_aload_n hx hb dX1_when_21 rfl (lv_at hl 1 rfl) ?_
    refine va_get (D := D) (ci := 1) (v := .ref (b 0)) (C := RX1) (T := TX1) (N := 2) hx hb hts hin1 hown hK hP 0 rfl rfl 1 (by decide) (hts (.fieldLink RX1 16 "PodGuideway" "ahead" "LPodGuideway$Ring;") (List.mem_of_getElem? (i := 2) rfl)) (fun _ h9 => h9) rfl dX1_when_22 ?_
    refine lv_aload_n hx hb dX1_when_25 rfl (lv_at hl 1 rfl) ?_
    refine va_get (D := D) (ci := 1) (v := .ref (a 0)) (C := RX1) (T := TX1) (N := 2) hx hb hts hin1 hown hK hP 0 rfl rfl 0 (by decide) (hts (.fieldLink RX1 10 "PodGuideway" "now" "LPodGuideway$Ring;") (List.mem_of_getElem? (i := 1) rfl)) (fun _ h9 => h9) rfl dX1_when_26 ?_
    obtain ⟨T6, hv5, hf⟩ := ob_some hf
    refine zc_mv zI_copy (z_VN (As := [.ref (a 0)]) (rest := []) (q0 := 0) (ci := 0) ⟨hx, hb, hml, hown, hts⟩ (m_X0_copyFrom l D Z b a T S T6 hv5) gX1_when_X0_copyFrom_n125 rfl rfl rfl (hNm (125, yX0_copyFrom) (List.mem_of_getElem? (i := 18) rfl)) (hts (.initialized RX0) (List.mem_of_getElem? (i := 11) rfl)) (hts (.instanceMethod yX0_copyFrom) (List.mem_of_getElem? (i := 18) rfl)) (hts (.selects RX0 yX0_copyFrom yX0_copyFrom) (List.mem_of_getElem? (i := 19) rfl)) hdv_X0_copyFrom ⟨Nat.le_of_ble_eq_true rfl, Nat.le_of_ble_eq_true rfl⟩ hK (hP.sub (ws' := (rwl Z b T ++ rwl Z a S)) [13, 14, 15, 16, 17, 18, 19, 20, 21, 22, 23, 24, 1, 2, 3, 4, 5, 6, 7, 8, 9, 10, 11, 12] rfl) (hD.sub (ws' := (rwl Z b T ++ rwl Z a S)) [13, 14, 15, 16, 17, 18, 19, 20, 21, 22, 23, 24, 1, 2, 3, 4, 5, 6, 7, 8, 9, 10, 11, 12] (by decide) rfl) rfl rfl rfl rfl hl.1 rfl (Nat.le_of_ble_eq_true rfl) dX1_when_29 ⟨Nat.le_of_ble_eq_true rfl, Nat.le_of_ble_eq_true rfl⟩) hP hD hS hA (fun H locs hP hD hS => ?_)
    refine lv_iconst (v := 1) hx hb dX1_when_32 (by decide) ?_
    refine lv_istore_n (lv' := [(3, .int 1), (2, .int v3), (0, .ref o), (1, .int p1)]) hx hb dX1_when_33 rfl hl (by decide) rfl (fun ls hl => ?_)
    exact L34 FU p1 v3 1 S T6 _ _ hP hD hS ls (lv_sub hl [2, 3, 1, 0] rfl) hf
  · have hf := if_t hf c4
    refine lv_iconst (v := (-1)) hx hb dX1_when_19 (by decide) ?_
    exact zw_i hx hb hr hlk hP hD hS (owl_eq (t3_2 hf) (t3_3 hf)) (t3_1 hf) (Nat.le_of_ble_eq_true rfl) (Nat.le_of_ble_eq_true rfl) dX1_when_20

def f_X1_answers (S T : RS) (p1 : Int32) : Option (Except String (Int32)) :=
  obx (f_X1_needStation S T p1) (
  okx (
    ob (f_X0_stationThatAnswers S p1) fun v3 =>
    some v3))
abbrev rm_X1_answers : Room := { frames := 7, cells := 0, slots := 0, locals := 111 }
abbrev rm_X1_answers_er : Room := { frames := 7, cells := 1, slots := 6, locals := 111 }
theorem hdv_X1_answers : yX1_answers.cls = RX1 ∧ yX1_answers.cls ≠ "java/lang/invoke/MethodHandle" ∧ yX1_answers.cls ≠ "java/lang/invoke/VarHandle" ∧ (parseMethodDescriptor yX1_answers.desc).map (fun d => d.parameters.length) = some 1 := by decide +kernel
set_option maxHeartbeats 4000000 in
set_option maxRecDepth 100000 in
theorem ok_X1_answers (l : Launch) (D : va_G) (Z : Nat → ClassId) (o : Nat) (a b : Nat → Nat) (S T : RS) (p1 : Int32) (r : Int32) (hf : f_X1_answers S T p1 = some (.ok r)) : GOi l yX1_answers wsX1_answers rm_X1_answers D Z xE [.ref o, .int p1] (owl Z o a b S T) r := by
  refine GOi.of (cc := cX1_answers) (nL := 2) (ret := (some .int)) (by decide +kernel) rfl (Nat.le_of_ble_eq_true rfl) ?_
  intro p e s m below meth c A0 hC hE hA0 hA hP hK hD hS ls hl
  obtain ⟨hx, hb, hr, hml, hown, hts, hlk, -⟩ := hC
  have hown : s.vm.findClass RX1 = some m.cls := hown
  have hNm := hE.2.2.2.1
  have hNf := hE.2.2.2.2.1
  have hin1 : ∀ w ∈ wsX10, w ∈ wsX1_answers := fun w h => List.mem_cons_of_mem _ (List.mem_append_left _ (List.mem_append_left _ (List.mem_append_right _ h)))
  have hin0 : ∀ w ∈ wsX00, w ∈ wsX1_answers := fun w h => List.mem_cons_of_mem _ (List.mem_append_left _ (List.mem_append_right _ h))
  have hl : lv_has ls 2 [(0, .ref o), (1, .int p1)] := hl
  unfold f_X1_answers at hf
  refine lv_aload_n hx hb dX1_answers_0 rfl (lv_at hl 0 rfl) ?_
  refine lv_iload_n hx hb dX1_answers_1 rfl (lv_at hl 1 rfl) ?_
  obtain ⟨hv1, hf⟩ := obx_ok hf
  refine zc_v (z_VG (As := [.int p1]) (rest := []) (q0 := 0) (ci := 1) xE_ok hE (hS.up hA0) hA0 ⟨hx, hb, hml, hown, hts⟩ (ok_X1_needStation l D Z o a b S T p1 hv1) gX1_answers_X1_needStation rfl rfl rfl hdv_X1_needStation ⟨Nat.le_of_ble_eq_true rfl, Nat.le_of_ble_eq_true rfl⟩ hK hP hD rfl rfl rfl rfl hl.1 rfl (Nat.le_of_ble_eq_true rfl) dX1_answers_2 ⟨Nat.le_of_ble_eq_true rfl, Nat.le_of_ble_eq_true rfl⟩) hP hS hA (fun H locs hP hS => ?_)
  have hf := okx_ok hf
  refine lv_aload_n hx hb dX1_answers_5 rfl (lv_at hl 0 rfl) ?_
  refine va_get (D := D) (ci := 1) (v := .ref (a 0)) (C := RX1) (T := TX1) (N := 2) hx hb hts hin1 hown hK hP 0 rfl rfl 0 (by decide) (hts (.fieldLink RX1 10 "PodGuideway" "now" "LPodGuideway$Ring;") (List.mem_of_getElem? (i := 1) rfl)) (fun _ h9 => h9) rfl dX1_answers_6 ?_
  refine lv_iload_n hx hb dX1_answers_9 rfl (lv_at hl 1 rfl) ?_
  obtain ⟨v3, hv2, hf⟩ := ob_some hf
  refine zc_i (z_VN (As := [.int p1]) (rest := []) (q0 := 0) (ci := 0) ⟨hx, hb, hml, hown, hts⟩ (m_X0_stationThatAnswers l D Z a S p1 v3 hv2) gX1_answers_X0_stationThatAnswers_n133 rfl rfl rfl (hNm (133, yX0_stationThatAnswers) (List.mem_of_getElem? (i := 19) rfl)) (hts (.initialized RX0) (List.mem_of_getElem? (i := 10) rfl)) (hts (.instanceMethod yX0_stationThatAnswers) (List.mem_of_getElem? (i := 9) rfl)) (hts (.selects RX0 yX0_stationThatAnswers yX0_stationThatAnswers) (List.mem_of_getElem? (i := 11) rfl)) hdv_X0_stationThatAnswers ⟨Nat.le_of_ble_eq_true rfl, Nat.le_of_ble_eq_true rfl⟩ hK (hP.sub (ws' := (rwl Z a S)) [1, 2, 3, 4, 5, 6, 7, 8, 9, 10, 11, 12] rfl) (hD.sub (ws' := (rwl Z a S)) [1, 2, 3, 4, 5, 6, 7, 8, 9, 10, 11, 12] (by decide) rfl) rfl rfl rfl rfl hl.1 rfl (Nat.le_of_ble_eq_true rfl) dX1_answers_10 ⟨Nat.le_of_ble_eq_true rfl, Nat.le_of_ble_eq_true rfl⟩) hP hS hA (fun H locs hP hS => ?_)
  exact zr_i hx hb hr hlk hS (Option.some.inj hf) dX1_answers_13

def f_X1_foresee_L26   : Nat → Int32 → Int32 → Int32 → RS → RS → Option (Int32 × RS × RS)
  | 0, _, _, _, _, _ => none
  | n + 1, x1, x2, x3, S, T =>
    if x1 ≤ x3 then
      ob (f_X0_tellCount T x2) fun v7 =>
      some (v7, S, T)
    else
      ob (f_X0_passMinute T) fun T9 =>
      f_X1_foresee_L26 n x1 x2 (x3 + 1) S T9
def f_X1_foresee (S T : RS) (p1 : Int32) (p2 : Int32) : Option (Except String (Int32 × RS × RS)) :=
  obx (f_X1_needMinutes S T p1) (
  obx (f_X1_needWhat S T p2 3 7) (
  okx (
    ob (f_X0_copyFrom T S) fun T4 =>
    f_X1_foresee_L26 FU p1 p2 0 S T4)))
abbrev rm_X1_foresee : Room := { frames := 7, cells := 0, slots := 0, locals := 135 }
abbrev rm_X1_foresee_er : Room := { frames := 7, cells := 1, slots := 6, locals := 135 }
theorem hdv_X1_foresee : yX1_foresee.cls = RX1 ∧ yX1_foresee.cls ≠ "java/lang/invoke/MethodHandle" ∧ yX1_foresee.cls ≠ "java/lang/invoke/VarHandle" ∧ (parseMethodDescriptor yX1_foresee.desc).map (fun d => d.parameters.length) = some 2 := by decide +kernel
set_option maxHeartbeats 4000000 in
set_option maxRecDepth 100000 in
theorem ok_X1_foresee (l : Launch) (D : va_G) (Z : Nat → ClassId) (o : Nat) (a b : Nat → Nat) (S T : RS) (p1 : Int32) (p2 : Int32) (r : Int32) (S' T' : RS) (hf : f_X1_foresee S T p1 p2 = some (.ok (r, S', T'))) : GWi l yX1_foresee wsX1_foresee rm_X1_foresee D Z xE [.ref o, .int p1, .int p2] (owl Z o a b S T) (owl Z o a b S' T') r 0 0 := by
  refine GWi.of (cc := cX1_foresee) (nL := 4) (ret := (some .int)) (by decide +kernel) rfl (Nat.le_of_ble_eq_true rfl) ?_
  intro p e s m below meth c A hC hE hA hP hK hD hS ls hl
  obtain ⟨hx, hb, hr, hml, hown, hts, hlk, -⟩ := hC
  have hown : s.vm.findClass RX1 = some m.cls := hown
  have hNm := hE.2.2.2.1
  have hNf := hE.2.2.2.2.1
  have hin1 : ∀ w ∈ wsX10, w ∈ wsX1_foresee := fun w h => List.mem_cons_of_mem _ (List.mem_append_left _ (List.mem_append_left _ (List.mem_append_left _ (List.mem_append_right _ h))))
  have hin0 : ∀ w ∈ wsX00, w ∈ wsX1_foresee := fun w h => List.mem_cons_of_mem _ (List.mem_append_left _ (List.mem_append_left _ (List.mem_append_right _ h)))
  have hl : lv_has ls 4 [(0, .ref o), (1, .int p1), (2, .int p2)] := hl
  have L26 : ∀ (n : Nat) (x1 : Int32) (x2 : Int32) (x3 : Int32) (S : RS) (T : RS) (H : Heap) (locs : List Loc), va_P D vwCl (owl Z o a b S T) H → va_D A (owl Z o a b S T) → va_S A s.heap H locs → ∀ ls : Array Slot, lv_has ls 4 [(0, .ref o), (1, .int x1), (2, .int x2), (3, .int x3)] → f_X1_foresee_L26 n x1 x2 x3 S T = some (r, S', T') → W p l e rm_X1_foresee s m ([.ref o, .int p1, .int p2] : List Value).toArray below meth c H locs 0 0 (MQ below (zMi D A (owl Z o a b S' T') r) ([.ref o, .int p1, .int p2] : List Value).toArray s 0 0 A) (F0 m 26 ls []) := by
    intro n
    induction n with
    | zero =>
      intro x1 x2 x3 S T H locs hP hD hS ls hl hf
      exact no_r hf
    | succ n ih =>
      intro x1 x2 x3 S T H locs hP hD hS ls hl hf
      rw [f_X1_foresee_L26] at hf
      refine lv_iload_n hx hb dX1_foresee_26 rfl (lv_at hl 3 rfl) ?_
      refine lv_iload_n hx hb dX1_foresee_27 rfl (lv_at hl 1 rfl) ?_
      refine lv_icmp_ge (tgt := 44) hx hb dX1_foresee_28 (by decide) (fun c5 => ?_) (fun c5 => ?_)
      · have hf := if_t hf c5
        refine lv_aload_n hx hb dX1_foresee_44 rfl (lv_at hl 0 rfl) ?_
        refine va_get (D := D) (ci := 1) (v := .ref (b 0)) (C := RX1) (T := TX1) (N := 2) hx hb hts hin1 hown hK hP 0 rfl rfl 1 (by decide) (hts (.fieldLink RX1 16 "PodGuideway" "ahead" "LPodGuideway$Ring;") (List.mem_of_getElem? (i := 1) rfl)) (fun _ h9 => h9) rfl dX1_foresee_45 ?_
        refine lv_iload_n hx hb dX1_foresee_48 rfl (lv_at hl 2 rfl) ?_
        obtain ⟨v7, hv6, hf⟩ := ob_some hf
        refine zc_i (z_VN (As := [.int x2]) (rest := []) (q0 := 0) (ci := 0) ⟨hx, hb, hml, hown, hts⟩ (m_X0_tellCount l D Z b T x2 v7 hv6) gX1_foresee_X0_tellCount_n112 rfl rfl rfl (hNm (112, yX0_tellCount) (List.mem_of_getElem? (i := 15) rfl)) (hts (.initialized RX0) (List.mem_of_getElem? (i := 17) rfl)) (hts (.instanceMethod yX0_tellCount) (List.mem_of_getElem? (i := 132) rfl)) (hts (.selects RX0 yX0_tellCount yX0_tellCount) (List.mem_of_getElem? (i := 133) rfl)) hdv_X0_tellCount ⟨Nat.le_of_ble_eq_true rfl, Nat.le_of_ble_eq_true rfl⟩ hK (hP.sub (ws' := (rwl Z b T)) [13, 14, 15, 16, 17, 18, 19, 20, 21, 22, 23, 24] rfl) (hD.sub (ws' := (rwl Z b T)) [13, 14, 15, 16, 17, 18, 19, 20, 21, 22, 23, 24] (by decide) rfl) rfl rfl rfl rfl hl.1 rfl (Nat.le_of_ble_eq_true rfl) dX1_foresee_49 ⟨Nat.le_of_ble_eq_true rfl, Nat.le_of_ble_eq_true rfl⟩) hP hS hA (fun H locs hP hS => ?_)
        exact zw_i hx hb hr hlk hP hD hS (owl_eq (t3_2 hf) (t3_3 hf)) (t3_1 hf) (Nat.le_of_ble_eq_true rfl) (Nat.le_of_ble_eq_true rfl) dX1_foresee_52
      · have hf := if_f hf c5
        refine lv_aload_n hx hb dX1_foresee_31 rfl (lv_at hl 0 rfl) ?_
        refine va_get (D := D) (ci := 1) (v := .ref (b 0)) (C := RX1) (T := TX1) (N := 2) hx hb hts hin1 hown hK hP 0 rfl rfl 1 (by decide) (hts (.fieldLink RX1 16 "PodGuideway" "ahead" "LPodGuideway$Ring;") (List.mem_of_getElem? (i := 1) rfl)) (fun _ h9 => h9) rfl dX1_foresee_32 ?_
        obtain ⟨T9, hv8, hf⟩ := ob_some hf
        refine zc_mv zI_ahead (z_VN (As := []) (rest := []) (q0 := 0) (ci := 0) ⟨hx, hb, hml, hown, hts⟩ (m_X0_passMinute l D Z b T T9 hv8) gX1_foresee_X0_passMinute_n122 rfl rfl rfl (hNm (122, yX0_passMinute) (List.mem_of_getElem? (i := 17) rfl)) (hts (.initialized RX0) (List.mem_of_getElem? (i := 17) rfl)) (hts (.instanceMethod yX0_passMinute) (List.mem_of_getElem? (i := 48) rfl)) (hts (.selects RX0 yX0_passMinute yX0_passMinute) (List.mem_of_getElem? (i := 49) rfl)) hdv_X0_passMinute ⟨Nat.le_of_ble_eq_true rfl, Nat.le_of_ble_eq_true rfl⟩ hK (hP.sub (ws' := (rwl Z b T)) [13, 14, 15, 16, 17, 18, 19, 20, 21, 22, 23, 24] rfl) (hD.sub (ws' := (rwl Z b T)) [13, 14, 15, 16, 17, 18, 19, 20, 21, 22, 23, 24] (by decide) rfl) rfl rfl rfl rfl hl.1 rfl (Nat.le_of_ble_eq_true rfl) dX1_foresee_35 ⟨Nat.le_of_ble_eq_true rfl, Nat.le_of_ble_eq_true rfl⟩) hP hD hS hA (fun H locs hP hD hS => ?_)
        refine lv_iinc (v := (x3 + 1)) (lv' := [(3, .int (x3 + 1)), (0, .ref o), (1, .int x1), (2, .int x2)]) hx hb dX1_foresee_38 hl (k := 3) rfl rfl (by decide) rfl (fun ls hl => ?_)
        refine lv_goto (tgt := 26) hx hb dX1_foresee_41 (by decide) ?_
        exact ih x1 x2 (x3 + 1) S T9 _ _ hP hD hS ls (lv_sub hl [1, 2, 3, 0] rfl) hf
  unfold f_X1_foresee at hf
  refine lv_aload_n hx hb dX1_foresee_0 rfl (lv_at hl 0 rfl) ?_
  refine lv_iload_n hx hb dX1_foresee_1 rfl (lv_at hl 1 rfl) ?_
  obtain ⟨hv1, hf⟩ := obx_ok hf
  refine zc_v (z_VG (As := [.int p1]) (rest := []) (q0 := 0) (ci := 1) xE_ok hE hS hA ⟨hx, hb, hml, hown, hts⟩ (ok_X1_needMinutes l D Z o a b S T p1 hv1) gX1_foresee_X1_needMinutes rfl rfl rfl hdv_X1_needMinutes ⟨Nat.le_of_ble_eq_true rfl, Nat.le_of_ble_eq_true rfl⟩ hK hP hD rfl rfl rfl rfl hl.1 rfl (Nat.le_of_ble_eq_true rfl) dX1_foresee_2 ⟨Nat.le_of_ble_eq_true rfl, Nat.le_of_ble_eq_true rfl⟩) hP hS hA (fun H locs hP hS => ?_)
  refine lv_aload_n hx hb dX1_foresee_5 rfl (lv_at hl 0 rfl) ?_
  refine lv_iload_n hx hb dX1_foresee_6 rfl (lv_at hl 2 rfl) ?_
  refine lv_iconst (v := 3) hx hb dX1_foresee_7 (by decide) ?_
  refine lv_bipush (v := 7) hx hb dX1_foresee_8 (by decide) ?_
  obtain ⟨hv2, hf⟩ := obx_ok hf
  refine zc_v (z_VG (As := [.int p2, .int 3, .int 7]) (rest := []) (q0 := 0) (ci := 1) xE_ok hE hS hA ⟨hx, hb, hml, hown, hts⟩ (ok_X1_needWhat l D Z o a b S T p2 3 7 hv2) gX1_foresee_X1_needWhat rfl rfl rfl hdv_X1_needWhat ⟨Nat.le_of_ble_eq_true rfl, Nat.le_of_ble_eq_true rfl⟩ hK hP hD rfl rfl rfl rfl hl.1 rfl (Nat.le_of_ble_eq_true rfl) dX1_foresee_10 ⟨Nat.le_of_ble_eq_true rfl, Nat.le_of_ble_eq_true rfl⟩) hP hS hA (fun H locs hP hS => ?_)
  have hf := okx_ok hf
  refine lv_aload_n hx hb dX1_foresee_13 rfl (lv_at hl 0 rfl) ?_
  refine va_get (D := D) (ci := 1) (v := .ref (b 0)) (C := RX1) (T := TX1) (N := 2) hx hb hts hin1 hown hK hP 0 rfl rfl 1 (by decide) (hts (.fieldLink RX1 16 "PodGuideway" "ahead" "LPodGuideway$Ring;") (List.mem_of_getElem? (i := 1) rfl)) (fun _ h9 => h9) rfl dX1_foresee_14 ?_
  refine lv_aload_n hx hb dX1_foresee_17 rfl (lv_at hl 0 rfl) ?_
  refine va_get (D := D) (ci := 1) (v := .ref (a 0)) (C := RX1) (T := TX1) (N := 2) hx hb hts hin1 hown hK hP 0 rfl rfl 0 (by decide) (hts (.fieldLink RX1 10 "PodGuideway" "now" "LPodGuideway$Ring;") (List.mem_of_getElem? (i := 2) rfl)) (fun _ h9 => h9) rfl dX1_foresee_18 ?_
  obtain ⟨T4, hv3, hf⟩ := ob_some hf
  refine zc_mv zI_copy (z_VN (As := [.ref (a 0)]) (rest := []) (q0 := 0) (ci := 0) ⟨hx, hb, hml, hown, hts⟩ (m_X0_copyFrom l D Z b a T S T4 hv3) gX1_foresee_X0_copyFrom_n125 rfl rfl rfl (hNm (125, yX0_copyFrom) (List.mem_of_getElem? (i := 18) rfl)) (hts (.initialized RX0) (List.mem_of_getElem? (i := 17) rfl)) (hts (.instanceMethod yX0_copyFrom) (List.mem_of_getElem? (i := 16) rfl)) (hts (.selects RX0 yX0_copyFrom yX0_copyFrom) (List.mem_of_getElem? (i := 18) rfl)) hdv_X0_copyFrom ⟨Nat.le_of_ble_eq_true rfl, Nat.le_of_ble_eq_true rfl⟩ hK (hP.sub (ws' := (rwl Z b T ++ rwl Z a S)) [13, 14, 15, 16, 17, 18, 19, 20, 21, 22, 23, 24, 1, 2, 3, 4, 5, 6, 7, 8, 9, 10, 11, 12] rfl) (hD.sub (ws' := (rwl Z b T ++ rwl Z a S)) [13, 14, 15, 16, 17, 18, 19, 20, 21, 22, 23, 24, 1, 2, 3, 4, 5, 6, 7, 8, 9, 10, 11, 12] (by decide) rfl) rfl rfl rfl rfl hl.1 rfl (Nat.le_of_ble_eq_true rfl) dX1_foresee_21 ⟨Nat.le_of_ble_eq_true rfl, Nat.le_of_ble_eq_true rfl⟩) hP hD hS hA (fun H locs hP hD hS => ?_)
  refine lv_iconst (v := 0) hx hb dX1_foresee_24 (by decide) ?_
  refine lv_istore_n (lv' := [(3, .int 0), (0, .ref o), (1, .int p1), (2, .int p2)]) hx hb dX1_foresee_25 rfl hl (by decide) rfl (fun ls hl => ?_)
  exact L26 FU p1 p2 0 S T4 _ _ hP hD hS ls (lv_sub hl [1, 2, 3, 0] rfl) hf

