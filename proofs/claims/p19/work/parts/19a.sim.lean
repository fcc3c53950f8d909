def w_X2_init (Z : Nat → ClassId) (t : Nat) (K : PH → Prop) (h : PH) : Prop :=
  pV h 2 0 t (.int (-1)) fun h1 =>
  pV h1 2 3 t (.int (-1)) fun h2 =>
  K h2
abbrev rm_X2_init : Room := { frames := 1, cells := 0, slots := 0, locals := 40 }
theorem hdi_X2_init : yX2_init.cls ≠ "java/lang/invoke/MethodHandle" ∧ yX2_init.cls ≠ "java/lang/invoke/VarHandle" ∧ (parseMethodDescriptor yX2_init.desc).map (fun d => d.parameters.length) = some 0 := by decide +kernel
set_option maxHeartbeats 4000000 in
set_option maxRecDepth 100000 in
theorem m_X2_init (l : Launch) (D : va_G) (Z : Nat → ClassId) (t : Nat) (K : PH → Prop) (h : PH) (hf : w_X2_init Z t K h) : PMv (hw []) l yX2_init wsX2_init rm_X2_init D Z pE [.ref t] (hw [] h) K 0 0 := by
  refine PMv.of (cc := cX2_init) (nL := 1) (ret := none) (by decide +kernel) rfl (Nat.le_of_ble_eq_true rfl) ?_
  intro p e s m below meth c A hC hE hA hP hK hD hS ls hl
  obtain ⟨hx, hb, hr, hml, hown, hts, hlk, -⟩ := hC
  have hown : s.vm.findClass RX2 = some m.cls := hown
  have hO := hE.2
  have hin2 : ∀ w ∈ wsX20, w ∈ wsX2_init := fun w h => List.mem_cons_of_mem _ (List.mem_append_right _ h)
  have hl : lv_has ls 1 [(0, .ref t)] := hl
  unfold w_X2_init at hf
  refine lv_aload_n hx hb dX2_init_0 rfl (lv_at hl 0 rfl) ?_
  refine W.objInit hx hb hown (hts (.methodLink RX2 1 objectInit) (List.mem_of_getElem? (i := 1) rfl)) (hts (.instanceMethod objectInit) (List.mem_of_getElem? (i := 2) rfl)) (hts (.code objectInit ⟨#[0xb1]⟩ 1 none) (List.mem_of_getElem? (i := 3) rfl)) rfl (by rw [hml]; exact hl.1) rfl dX2_init_1 (Nat.le_of_ble_eq_true rfl) (Nat.le_of_ble_eq_true rfl) ?_
  refine lv_aload_n hx hb dX2_init_4 rfl (lv_at hl 0 rfl) ?_
  refine lv_iconst (v := (-1)) hx hb dX2_init_5 (by decide) ?_
  refine z_pV (C := RX2) (T := TX2) (N := 7) (ty := .int) hf hx hb hts hin2 tyX2 tyX2_ok nmX2 hown hK hP hD hS rfl (by decide) (hts (.fieldLink RX2 7 "PodGuidewayLaw$Pod" "slot" "I") (List.mem_of_getElem? (i := 4) rfl)) rfl (by decide +kernel) rfl rfl dX2_init_6 (fun h1 H locs hf hP hD hS => ?_)
  refine lv_aload_n hx hb dX2_init_9 rfl (lv_at hl 0 rfl) ?_
  refine lv_iconst (v := (-1)) hx hb dX2_init_10 (by decide) ?_
  refine z_pV (C := RX2) (T := TX2) (N := 7) (ty := .int) hf hx hb hts hin2 tyX2 tyX2_ok nmX2 hown hK hP hD hS rfl (by decide) (hts (.fieldLink RX2 13 "PodGuidewayLaw$Pod" "goal" "I") (List.mem_of_getElem? (i := 5) rfl)) rfl (by decide +kernel) rfl rfl dX2_init_11 (fun h2 H locs hf hP hD hS => ?_)
  exact zq_v (u := h2) hf hx hb hr hlk hP hD hS (Nat.le_of_ble_eq_true rfl) (Nat.le_of_ble_eq_true rfl) dX2_init_14

def w_X3_init (Z : Nat → ClassId) (t : Nat) (K : PH → Prop) (h : PH) : Prop :=
  nA Z h 0 0 fun b1 h2 =>
  pV h2 3 0 t (.ref b1) fun h3 =>
  nQ Z h3 3 0 0 fun b4 h5 =>
  pV h5 3 1 t (.ref b4) fun h6 =>
  nA Z h6 0 0 fun b7 h8 =>
  pV h8 3 2 t (.ref b7) fun h9 =>
  nQ Z h9 1 0 0 fun b10 h11 =>
  pV h11 3 3 t (.ref b10) fun h12 =>
  pV h12 3 7 t (.int (-1)) fun h13 =>
  K h13
abbrev rm_X3_init : Room := { frames := 1, cells := 4, slots := 0, locals := 40 }
theorem hdi_X3_init : yX3_init.cls ≠ "java/lang/invoke/MethodHandle" ∧ yX3_init.cls ≠ "java/lang/invoke/VarHandle" ∧ (parseMethodDescriptor yX3_init.desc).map (fun d => d.parameters.length) = some 0 := by decide +kernel
set_option maxHeartbeats 4000000 in
set_option maxRecDepth 100000 in
theorem m_X3_init (l : Launch) (D : va_G) (Z : Nat → ClassId) (t : Nat) (K : PH → Prop) (h : PH) (hf : w_X3_init Z t K h) : PMv (hw []) l yX3_init wsX3_init rm_X3_init D Z pE [.ref t] (hw [] h) K 4 0 := by
  refine PMv.of (cc := cX3_init) (nL := 1) (ret := none) (by decide +kernel) rfl (Nat.le_of_ble_eq_true rfl) ?_
  intro p e s m below meth c A hC hE hA hP hK hD hS ls hl
  obtain ⟨hx, hb, hr, hml, hown, hts, hlk, -⟩ := hC
  have hown : s.vm.findClass RX3 = some m.cls := hown
  have hO := hE.2
  have hin3 : ∀ w ∈ wsX30, w ∈ wsX3_init := fun w h => List.mem_cons_of_mem _ (List.mem_append_right _ h)
  have hl : lv_has ls 1 [(0, .ref t)] := hl
  unfold w_X3_init at hf
  refine lv_aload_n hx hb dX3_init_0 rfl (lv_at hl 0 rfl) ?_
  refine W.objInit hx hb hown (hts (.methodLink RX3 1 objectInit) (List.mem_of_getElem? (i := 1) rfl)) (hts (.instanceMethod objectInit) (List.mem_of_getElem? (i := 2) rfl)) (hts (.code objectInit ⟨#[0xb1]⟩ 1 none) (List.mem_of_getElem? (i := 3) rfl)) rfl (by rw [hml]; exact hl.1) rfl dX3_init_1 (Nat.le_of_ble_eq_true rfl) (Nat.le_of_ble_eq_true rfl) ?_
  refine lv_aload_n hx hb dX3_init_4 rfl (lv_at hl 0 rfl) ?_
  refine lv_iconst (v := 0) hx hb dX3_init_5 (by decide) ?_
  refine z_nA hf (by decide) hx hb (hts (.arrayClass .int) (List.mem_of_getElem? (i := 4) rfl)) hK hP hD hS hA (Nat.le_of_ble_eq_true rfl) (Nat.le_of_ble_eq_true rfl) dX3_init_6 (fun b1 h2 H hf hP hD hS => ?_)
  refine z_pV (C := RX3) (T := TX3) (N := 8) (ty := (.array .int)) hf hx hb hts hin3 tyX3 tyX3_ok nmX3 hown hK hP hD hS rfl (by decide) (hts (.fieldLink RX3 7 "PodGuidewayLaw$Sim" "place" "[I") (List.mem_of_getElem? (i := 5) rfl)) rfl (by decide +kernel) rfl rfl dX3_init_8 (fun h3 H locs hf hP hD hS => ?_)
  refine lv_aload_n hx hb dX3_init_11 rfl (lv_at hl 0 rfl) ?_
  refine lv_iconst (v := 0) hx hb dX3_init_12 (by decide) ?_
  refine z_nQ (t := .array .int) (k1 := 3) hf (by decide) hx hb hown (hts (.classLink RX3 13 "[[I") (List.mem_of_getElem? (i := 6) rfl)) hO.2.1 hK rfl hP hD hS hA (Nat.le_of_ble_eq_true rfl) (Nat.le_of_ble_eq_true rfl) dX3_init_13 (fun b4 h5 H hf hP hD hS => ?_)
  refine z_pV (C := RX3) (T := TX3) (N := 8) (ty := (.array (.array (.array .int)))) hf hx hb hts hin3 tyX3 tyX3_ok nmX3 hown hK hP hD hS rfl (by decide) (hts (.fieldLink RX3 15 "PodGuidewayLaw$Sim" "waits" "[[[I") (List.mem_of_getElem? (i := 7) rfl)) rfl (by decide +kernel) rfl rfl dX3_init_16 (fun h6 H locs hf hP hD hS => ?_)
  refine lv_aload_n hx hb dX3_init_19 rfl (lv_at hl 0 rfl) ?_
  refine lv_iconst (v := 0) hx hb dX3_init_20 (by decide) ?_
  refine z_nA hf (by decide) hx hb (hts (.arrayClass .int) (List.mem_of_getElem? (i := 4) rfl)) hK hP hD hS hA (Nat.le_of_ble_eq_true rfl) (Nat.le_of_ble_eq_true rfl) dX3_init_21 (fun b7 h8 H hf hP hD hS => ?_)
  refine z_pV (C := RX3) (T := TX3) (N := 8) (ty := (.array .int)) hf hx hb hts hin3 tyX3 tyX3_ok nmX3 hown hK hP hD hS rfl (by decide) (hts (.fieldLink RX3 19 "PodGuidewayLaw$Sim" "arrived" "[I") (List.mem_of_getElem? (i := 8) rfl)) rfl (by decide +kernel) rfl rfl dX3_init_23 (fun h9 H locs hf hP hD hS => ?_)
  refine lv_aload_n hx hb dX3_init_26 rfl (lv_at hl 0 rfl) ?_
  refine lv_iconst (v := 0) hx hb dX3_init_27 (by decide) ?_
  refine z_nP hf (by decide) hx hb hown (hts (.classLink RX3 22 RX2) (List.mem_of_getElem? (i := 9) rfl)) hO.2.2.1 hK hP hD hS hA (Nat.le_of_ble_eq_true rfl) (Nat.le_of_ble_eq_true rfl) dX3_init_28 (fun b10 h11 H hf hP hD hS => ?_)
  refine z_pV (C := RX3) (T := TX3) (N := 8) (ty := (.array (.object "PodGuidewayLaw$Pod"))) hf hx hb hts hin3 tyX3 tyX3_ok nmX3 hown hK hP hD hS rfl (by decide) (hts (.fieldLink RX3 24 "PodGuidewayLaw$Sim" "pods" "[LPodGuidewayLaw$Pod;") (List.mem_of_getElem? (i := 10) rfl)) rfl (by decide +kernel) rfl rfl dX3_init_31 (fun h12 H locs hf hP hD hS => ?_)
  refine lv_aload_n hx hb dX3_init_34 rfl (lv_at hl 0 rfl) ?_
  refine lv_iconst (v := (-1)) hx hb dX3_init_35 (by decide) ?_
  refine z_pV (C := RX3) (T := TX3) (N := 8) (ty := .int) hf hx hb hts hin3 tyX3 tyX3_ok nmX3 hown hK hP hD hS rfl (by decide) (hts (.fieldLink RX3 28 "PodGuidewayLaw$Sim" "followed" "I") (List.mem_of_getElem? (i := 11) rfl)) rfl (by decide +kernel) rfl rfl dX3_init_36 (fun h13 H locs hf hP hD hS => ?_)
  exact zq_v (u := h13) hf hx hb hr hlk hP hD hS (Nat.le_of_ble_eq_true rfl) (Nat.le_of_ble_eq_true rfl) dX3_init_39

def w_X3_more_L10 (Z : Nat → ClassId) (p0 : Nat) (p1 : Nat)  (K : Option Nat → PH → Prop) : Nat → Nat → Int32 → PH → Prop
  | 0, _, _, _ => False
  | n + 1, x2, x3, h =>
    lQ Z h 2 p0 fun v4 =>
    if v4 ≤ x3 then
      lQ Z h 2 p0 fun v6 =>
      sQ2 Z h x2 v6 p1 fun h7 =>
      K (some x2) h7
    else
      ldQ Z h 2 p0 x3 fun b8 =>
      sQ2 Z h x2 x3 b8 fun h9 =>
      w_X3_more_L10 Z p0 p1 K n x2 (x3 + 1) h9
def w_X3_more (Z : Nat → ClassId) (p0 : Nat) (p1 : Nat) (K : Option Nat → PH → Prop) (h : PH) : Prop :=
  lQ Z h 2 p0 fun v1 =>
  nQ Z h 2 (v1 + 1) 10 fun b2 h3 =>
  w_X3_more_L10 Z p0 p1 K FU b2 0 h3
abbrev rm_X3_more : Room := { frames := 0, cells := 1, slots := 10, locals := 0 }
theorem hds_X3_more : yX3_more.cls ≠ "java/lang/invoke/MethodHandle" ∧ yX3_more.cls ≠ "java/lang/invoke/VarHandle" ∧ (parseMethodDescriptor yX3_more.desc).map (fun d => d.parameters.length) = some 2 := by decide +kernel
set_option maxHeartbeats 4000000 in
set_option maxRecDepth 100000 in
theorem m_X3_more (l : Launch) (D : va_G) (Z : Nat → ClassId) (p0 : Nat) (p1 : Nat) (K : Option Nat → PH → Prop) (h : PH) (hf : w_X3_more Z p0 p1 K h) : PMq (hw []) l yX3_more wsX3_more rm_X3_more D Z pE [.ref p0, .ref p1] (hw [] h) K 1 10 := by
  refine PMq.of (cc := cX3_more) (nL := 4) (ret := (some (.array (.array .int)))) (by decide +kernel) rfl (Nat.le_of_ble_eq_true rfl) ?_
  intro p e s m below meth c A hC hE hA hP hK hD hS ls hl
  obtain ⟨hx, hb, hr, hml, hown, hts, hlk, -⟩ := hC
  have hown : s.vm.findClass RX3 = some m.cls := hown
  have hO := hE.2
  have hl : lv_has ls 4 [(0, .ref p0), (1, .ref p1)] := hl
  have L10 : ∀ (n : Nat) (x2 : Nat) (x3 : Int32) (h : PH) (H : Heap) (locs : List Loc), va_P D vwCl (hw [] h) H → va_D A (hw [] h) → va_S A s.heap H locs → ∀ ls : Array Slot, lv_has ls 4 [(0, .ref p0), (1, .ref p1), (2, .ref x2), (3, .int x3)] → w_X3_more_L10 Z p0 p1 K n x2 x3 h → W p l e rm_X3_more s m ([.ref p0, .ref p1] : List Value).toArray below meth c H locs 1 10 (MQ below (QMq D (hw []) K A) ([.ref p0, .ref p1] : List Value).toArray s 1 10 A) (F0 m 10 ls []) := by
    intro n
    induction n with
    | zero =>
      intro x2 x3 h  H locs hP hD hS ls hl hf
      exact hf.elim
    | succ n ih =>
      intro x2 x3 h  H locs hP hD hS ls hl hf
      rw [w_X3_more_L10] at hf
      refine lv_iload_n hx hb dX3_more_10 rfl (lv_at hl 3 rfl) ?_
      refine lv_aload_n hx hb dX3_more_11 rfl (lv_at hl 0 rfl) ?_
      refine z_lQ (tz := 2) hf hx hb hK rfl hP dX3_more_12 (fun v4 hf => ?_)
      refine lv_icmp_ge (tgt := 28) hx hb dX3_more_13 (by decide) (fun c5 => ?_) (fun c5 => ?_)
      · have hf := itP hf c5
        refine lv_aload_n hx hb dX3_more_28 rfl (lv_at hl 2 rfl) ?_
        refine lv_aload_n hx hb dX3_more_29 rfl (lv_at hl 0 rfl) ?_
        refine z_lQ (tz := 2) hf hx hb hK rfl hP dX3_more_30 (fun v6 hf => ?_)
        refine lv_aload_n hx hb dX3_more_31 rfl (lv_at hl 1 rfl) ?_
        refine z_sQ2 hf hx hb hO.1 hK hP hD hS dX3_more_32 (fun h7 H locs hf hP hD hS => ?_)
        refine lv_aload_n hx hb dX3_more_33 rfl (lv_at hl 2 rfl) ?_
        exact zq_q (v := (some x2)) (u := h7) hf hx hb hr (Or.inr ⟨_, rfl⟩) hlk hP hD hS (Nat.le_of_ble_eq_true rfl) (Nat.le_of_ble_eq_true rfl) dX3_more_34
      · have hf := ifP hf c5
        refine lv_aload_n hx hb dX3_more_16 rfl (lv_at hl 2 rfl) ?_
        refine lv_iload_n hx hb dX3_more_17 rfl (lv_at hl 3 rfl) ?_
        refine lv_aload_n hx hb dX3_more_18 rfl (lv_at hl 0 rfl) ?_
        refine lv_iload_n hx hb dX3_more_19 rfl (lv_at hl 3 rfl) ?_
        refine z_aQ (tz := 2) hf hx hb hK rfl rfl hP dX3_more_20 (fun b8 hf => ?_)
        refine z_sQ2 hf hx hb hO.1 hK hP hD hS dX3_more_21 (fun h9 H locs hf hP hD hS => ?_)
        refine lv_iinc (v := (x3 + 1)) (lv' := [(3, .int (x3 + 1)), (0, .ref p0), (1, .ref p1), (2, .ref x2)]) hx hb dX3_more_22 hl (k := 3) rfl rfl (by decide) rfl (fun ls hl => ?_)
        refine lv_goto (tgt := 10) hx hb dX3_more_25 (by decide) ?_
        exact ih x2 (x3 + 1) h9 _ _ hP hD hS ls (lv_sub hl [1, 2, 3, 0] rfl) hf
  unfold w_X3_more at hf
  refine lv_aload_n hx hb dX3_more_0 rfl (lv_at hl 0 rfl) ?_
  refine z_lQ (tz := 2) hf hx hb hK rfl hP dX3_more_1 (fun v1 hf => ?_)
  refine lv_iconst (v := 1) hx hb dX3_more_2 (by decide) ?_
  refine lv_iadd hx hb dX3_more_3 ?_
  refine z_nQ (t := .int) (k1 := 2) hf (by decide) hx hb hown (hts (.classLink RX3 33 "[I") (List.mem_of_getElem? (i := 1) rfl)) hO.1 hK rfl hP hD hS hA (Nat.le_of_ble_eq_true rfl) (Nat.le_of_ble_eq_true rfl) dX3_more_4 (fun b2 h3 H hf hP hD hS => ?_)
  refine lv_astore_n (lv' := [(2, .ref b2), (0, .ref p0), (1, .ref p1)]) hx hb dX3_more_7 rfl hl (by decide) rfl (fun ls hl => ?_)
  refine lv_iconst (v := 0) hx hb dX3_more_8 (by decide) ?_
  refine lv_istore_n (lv' := [(3, .int 0), (2, .ref b2), (0, .ref p0), (1, .ref p1)]) hx hb dX3_more_9 rfl hl (by decide) rfl (fun ls hl => ?_)
  exact L10 FU b2 0 h3 _ _ hP hD hS ls (lv_sub hl [2, 3, 1, 0] rfl) hf

def w_X3_build_L30 (Z : Nat → ClassId) (t : Nat) (p1 : Int32)  (K : PH → Prop) : Nat → Int32 → Nat → Nat → Nat → Int32 → PH → Prop
  | 0, _, _, _, _, _, _ => False
  | n + 1, x2, x3, x4, x5, x6, h =>
    if x2 ≤ x6 then
      sA Z h x3 x2 p1 fun h10 =>
      nQ Z h10 2 0 0 fun b11 h12 =>
      sQ3 Z h12 x5 x2 b11 fun h13 =>
      pV h13 3 0 t (.ref x3) fun h14 =>
      pV h14 3 2 t (.ref x4) fun h15 =>
      pV h15 3 1 t (.ref x5) fun h16 =>
      K h16
    else
      gR h 3 0 t fun b17 =>
      ldI Z h b17 x6 fun v18 =>
      sA Z h x3 x6 v18 fun h19 =>
      gR h19 3 2 t fun b20 =>
      ldI Z h19 b20 x6 fun v21 =>
      sA Z h19 x4 x6 v21 fun h22 =>
      gR h22 3 1 t fun b23 =>
      ldQ Z h22 3 b23 x6 fun b24 =>
      sQ3 Z h22 x5 x6 b24 fun h25 =>
      w_X3_build_L30 Z t p1 K n x2 x3 x4 x5 (x6 + 1) h25
def w_X3_build (Z : Nat → ClassId) (t : Nat) (p1 : Int32) (K : PH → Prop) (h : PH) : Prop :=
  gR h 3 0 t fun b1 =>
  lI Z h b1 fun v2 =>
  nA Z h (v2 + 1) 6 fun b3 h4 =>
  nA Z h4 (v2 + 1) 6 fun b5 h6 =>
  nQ Z h6 3 (v2 + 1) 6 fun b7 h8 =>
  w_X3_build_L30 Z t p1 K FU v2 b3 b5 b7 0 h8
abbrev rm_X3_build : Room := { frames := 0, cells := 4, slots := 18, locals := 0 }
theorem hdv_X3_build : yX3_build.cls = RX3 ∧ yX3_build.cls ≠ "java/lang/invoke/MethodHandle" ∧ yX3_build.cls ≠ "java/lang/invoke/VarHandle" ∧ (parseMethodDescriptor yX3_build.desc).map (fun d => d.parameters.length) = some 1 := by decide +kernel
set_option maxHeartbeats 4000000 in
set_option maxRecDepth 100000 in
theorem m_X3_build (l : Launch) (D : va_G) (Z : Nat → ClassId) (t : Nat) (p1 : Int32) (K : PH → Prop) (h : PH) (hf : w_X3_build Z t p1 K h) : PMv (hw []) l yX3_build wsX3_build rm_X3_build D Z pE [.ref t, .int p1] (hw [] h) K 4 18 := by
  refine PMv.of (cc := cX3_build) (nL := 7) (ret := none) (by decide +kernel) rfl (Nat.le_of_ble_eq_true rfl) ?_
  intro p e s m below meth c A hC hE hA hP hK hD hS ls hl
  obtain ⟨hx, hb, hr, hml, hown, hts, hlk, -⟩ := hC
  have hown : s.vm.findClass RX3 = some m.cls := hown
  have hO := hE.2
  have hin3 : ∀ w ∈ wsX30, w ∈ wsX3_build := fun w h => List.mem_cons_of_mem _ (List.mem_append_right _ h)
  have hl : lv_has ls 7 [(0, .ref t), (1, .int p1)] := hl
  have L30 : ∀ (n : Nat) (x2 : Int32) (x3 : Nat) (x4 : Nat) (x5 : Nat) (x6 : Int32) (h : PH) (H : Heap) (locs : List Loc), va_P D vwCl (hw [] h) H → va_D A (hw [] h) → va_S A s.heap H locs → ∀ ls : Array Slot, lv_has ls 7 [(0, .ref t), (1, .int p1), (2, .int x2), (3, .ref x3), (4, .ref x4), (5, .ref x5), (6, .int x6)] → w_X3_build_L30 Z t p1 K n x2 x3 x4 x5 x6 h → W p l e rm_X3_build s m ([.ref t, .int p1] : List Value).toArray below meth c H locs 3 18 (MQ below (QMv D (hw []) K A) ([.ref t, .int p1] : List Value).toArray s 4 18 A) (F0 m 30 ls []) := by
    intro n
    induction n with
    | zero =>
      intro x2 x3 x4 x5 x6 h  H locs hP hD hS ls hl hf
      exact hf.elim
    | succ n ih =>
      intro x2 x3 x4 x5 x6 h  H locs hP hD hS ls hl hf
      rw [w_X3_build_L30] at hf
      refine lv_iload hx hb dX3_build_30 (lv_at hl 6 rfl) ?_
      refine lv_iload_n hx hb dX3_build_32 rfl (lv_at hl 2 rfl) ?_
      refine lv_icmp_ge (tgt := 77) hx hb dX3_build_33 (by decide) (fun c9 => ?_) (fun c9 => ?_)
      · have hf := itP hf c9
        refine lv_aload_n hx hb dX3_build_77 rfl (lv_at hl 3 rfl) ?_
        refine lv_iload_n hx hb dX3_build_78 rfl (lv_at hl 2 rfl) ?_
        refine lv_iload_n hx hb dX3_build_79 rfl (lv_at hl 1 rfl) ?_
        refine z_sA hf hx hb hK hP hD hS dX3_build_80 (fun h10 H locs hf hP hD hS => ?_)
        refine lv_aload hx hb dX3_build_81 (lv_at hl 5 rfl) ?_
        refine lv_iload_n hx hb dX3_build_83 rfl (lv_at hl 2 rfl) ?_
        refine lv_iconst (v := 0) hx hb dX3_build_84 (by decide) ?_
        refine z_nQ (t := .int) (k1 := 2) hf (by decide) hx hb hown (hts (.classLink RX3 33 "[I") (List.mem_of_getElem? (i := 6) rfl)) hO.1 hK rfl hP hD hS hA (Nat.le_of_ble_eq_true rfl) (Nat.le_of_ble_eq_true rfl) dX3_build_85 (fun b11 h12 H hf hP hD hS => ?_)
        refine z_sQ3 hf hx hb hO.2.1 hK hP hD hS dX3_build_88 (fun h13 H locs hf hP hD hS => ?_)
        refine lv_aload_n hx hb dX3_build_89 rfl (lv_at hl 0 rfl) ?_
        refine lv_aload_n hx hb dX3_build_90 rfl (lv_at hl 3 rfl) ?_
        refine z_pV (C := RX3) (T := TX3) (N := 8) (ty := (.array .int)) hf hx hb hts hin3 tyX3 tyX3_ok nmX3 hown hK hP hD hS rfl (by decide) (hts (.fieldLink RX3 7 "PodGuidewayLaw$Sim" "place" "[I") (List.mem_of_getElem? (i := 1) rfl)) rfl (by decide +kernel) rfl rfl dX3_build_91 (fun h14 H locs hf hP hD hS => ?_)
        refine lv_aload_n hx hb dX3_build_94 rfl (lv_at hl 0 rfl) ?_
        refine lv_aload hx hb dX3_build_95 (lv_at hl 4 rfl) ?_
        refine z_pV (C := RX3) (T := TX3) (N := 8) (ty := (.array .int)) hf hx hb hts hin3 tyX3 tyX3_ok nmX3 hown hK hP hD hS rfl (by decide) (hts (.fieldLink RX3 19 "PodGuidewayLaw$Sim" "arrived" "[I") (List.mem_of_getElem? (i := 4) rfl)) rfl (by decide +kernel) rfl rfl dX3_build_97 (fun h15 H locs hf hP hD hS => ?_)
        refine lv_aload_n hx hb dX3_build_100 rfl (lv_at hl 0 rfl) ?_
        refine lv_aload hx hb dX3_build_101 (lv_at hl 5 rfl) ?_
        refine z_pV (C := RX3) (T := TX3) (N := 8) (ty := (.array (.array (.array .int)))) hf hx hb hts hin3 tyX3 tyX3_ok nmX3 hown hK hP hD hS rfl (by decide) (hts (.fieldLink RX3 15 "PodGuidewayLaw$Sim" "waits" "[[[I") (List.mem_of_getElem? (i := 5) rfl)) rfl (by decide +kernel) rfl rfl dX3_build_103 (fun h16 H locs hf hP hD hS => ?_)
        exact zq_v (u := h16) hf hx hb hr hlk hP hD hS (Nat.le_of_ble_eq_true rfl) (Nat.le_of_ble_eq_true rfl) dX3_build_106
      · have hf := ifP hf c9
        refine lv_aload_n hx hb dX3_build_36 rfl (lv_at hl 3 rfl) ?_
        refine lv_iload hx hb dX3_build_37 (lv_at hl 6 rfl) ?_
        refine lv_aload_n hx hb dX3_build_39 rfl (lv_at hl 0 rfl) ?_
        refine z_gR (C := RX3) (T := TX3) (N := 8) hf hx hb hts hin3 hown hK hP rfl (by decide) (hts (.fieldLink RX3 7 "PodGuidewayLaw$Sim" "place" "[I") (List.mem_of_getElem? (i := 1) rfl)) dX3_build_40 (fun b17 hf => ?_)
        refine lv_iload hx hb dX3_build_43 (lv_at hl 6 rfl) ?_
        refine z_aI hf hx hb hK hP dX3_build_45 (fun v18 hf => ?_)
        refine z_sA hf hx hb hK hP hD hS dX3_build_46 (fun h19 H locs hf hP hD hS => ?_)
        refine lv_aload hx hb dX3_build_47 (lv_at hl 4 rfl) ?_
        refine lv_iload hx hb dX3_build_49 (lv_at hl 6 rfl) ?_
        refine lv_aload_n hx hb dX3_build_51 rfl (lv_at hl 0 rfl) ?_
        refine z_gR (C := RX3) (T := TX3) (N := 8) hf hx hb hts hin3 hown hK hP rfl (by decide) (hts (.fieldLink RX3 19 "PodGuidewayLaw$Sim" "arrived" "[I") (List.mem_of_getElem? (i := 4) rfl)) dX3_build_52 (fun b20 hf => ?_)
        refine lv_iload hx hb dX3_build_55 (lv_at hl 6 rfl) ?_
        refine z_aI hf hx hb hK hP dX3_build_57 (fun v21 hf => ?_)
        refine z_sA hf hx hb hK hP hD hS dX3_build_58 (fun h22 H locs hf hP hD hS => ?_)
        refine lv_aload hx hb dX3_build_59 (lv_at hl 5 rfl) ?_
        refine lv_iload hx hb dX3_build_61 (lv_at hl 6 rfl) ?_
        refine lv_aload_n hx hb dX3_build_63 rfl (lv_at hl 0 rfl) ?_
        refine z_gR (C := RX3) (T := TX3) (N := 8) hf hx hb hts hin3 hown hK hP rfl (by decide) (hts (.fieldLink RX3 15 "PodGuidewayLaw$Sim" "waits" "[[[I") (List.mem_of_getElem? (i := 5) rfl)) dX3_build_64 (fun b23 hf => ?_)
        refine lv_iload hx hb dX3_build_67 (lv_at hl 6 rfl) ?_
        refine z_aQ (tz := 3) hf hx hb hK rfl rfl hP dX3_build_69 (fun b24 hf => ?_)
        refine z_sQ3 hf hx hb hO.2.1 hK hP hD hS dX3_build_70 (fun h25 H locs hf hP hD hS => ?_)
        refine lv_iinc (v := (x6 + 1)) (lv' := [(6, .int (x6 + 1)), (0, .ref t), (1, .int p1), (2, .int x2), (3, .ref x3), (4, .ref x4), (5, .ref x5)]) hx hb dX3_build_71 hl (k := 6) rfl rfl (by decide) rfl (fun ls hl => ?_)
        refine lv_goto (tgt := 30) hx hb dX3_build_74 (by decide) ?_
        exact ih x2 x3 x4 x5 (x6 + 1) h25 _ _ hP hD hS ls (lv_sub hl [1, 2, 3, 4, 5, 6, 0] rfl) hf
  unfold w_X3_build at hf
  refine lv_aload_n hx hb dX3_build_0 rfl (lv_at hl 0 rfl) ?_
  refine z_gR (C := RX3) (T := TX3) (N := 8) hf hx hb hts hin3 hown hK hP rfl (by decide) (hts (.fieldLink RX3 7 "PodGuidewayLaw$Sim" "place" "[I") (List.mem_of_getElem? (i := 1) rfl)) dX3_build_1 (fun b1 hf => ?_)
  refine z_lI hf hx hb hK hP dX3_build_4 (fun v2 hf => ?_)
  refine lv_istore_n (lv' := [(2, .int v2), (0, .ref t), (1, .int p1)]) hx hb dX3_build_5 rfl hl (by decide) rfl (fun ls hl => ?_)
  refine lv_iload_n hx hb dX3_build_6 rfl (lv_at hl 0 rfl) ?_
  refine lv_iconst (v := 1) hx hb dX3_build_7 (by decide) ?_
  refine lv_iadd hx hb dX3_build_8 ?_
  refine z_nA hf (by decide) hx hb (hts (.arrayClass .int) (List.mem_of_getElem? (i := 2) rfl)) hK hP hD hS hA (Nat.le_of_ble_eq_true rfl) (Nat.le_of_ble_eq_true rfl) dX3_build_9 (fun b3 h4 H hf hP hD hS => ?_)
  refine lv_astore_n (lv' := [(3, .ref b3), (2, .int v2), (0, .ref t), (1, .int p1)]) hx hb dX3_build_11 rfl hl (by decide) rfl (fun ls hl => ?_)
  refine lv_iload_n hx hb dX3_build_12 rfl (lv_at hl 1 rfl) ?_
  refine lv_iconst (v := 1) hx hb dX3_build_13 (by decide) ?_
  refine lv_iadd hx hb dX3_build_14 ?_
  refine z_nA hf (by decide) hx hb (hts (.arrayClass .int) (List.mem_of_getElem? (i := 2) rfl)) hK hP hD hS hA (Nat.le_of_ble_eq_true rfl) (Nat.le_of_ble_eq_true rfl) dX3_build_15 (fun b5 h6 H hf hP hD hS => ?_)
  refine lv_astore (lv' := [(4, .ref b5), (3, .ref b3), (2, .int v2), (0, .ref t), (1, .int p1)]) hx hb dX3_build_17 hl (by decide) rfl (fun ls hl => ?_)
  refine lv_iload_n hx hb dX3_build_19 rfl (lv_at hl 2 rfl) ?_
  refine lv_iconst (v := 1) hx hb dX3_build_20 (by decide) ?_
  refine lv_iadd hx hb dX3_build_21 ?_
  refine z_nQ (t := .array .int) (k1 := 3) hf (by decide) hx hb hown (hts (.classLink RX3 13 "[[I") (List.mem_of_getElem? (i := 3) rfl)) hO.2.1 hK rfl hP hD hS hA (Nat.le_of_ble_eq_true rfl) (Nat.le_of_ble_eq_true rfl) dX3_build_22 (fun b7 h8 H hf hP hD hS => ?_)
  refine lv_astore (lv' := [(5, .ref b7), (4, .ref b5), (3, .ref b3), (2, .int v2), (0, .ref t), (1, .int p1)]) hx hb dX3_build_25 hl (by decide) rfl (fun ls hl => ?_)
  refine lv_iconst (v := 0) hx hb dX3_build_27 (by decide) ?_
  refine lv_istore (lv' := [(6, .int 0), (5, .ref b7), (4, .ref b5), (3, .ref b3), (2, .int v2), (0, .ref t), (1, .int p1)]) hx hb dX3_build_28 hl (by decide) rfl (fun ls hl => ?_)
  exact L30 FU v2 b3 b5 b7 0 h8 _ _ hP hD hS ls (lv_sub hl [5, 6, 4, 3, 2, 1, 0] rfl) hf

def w_X3_in_L12 (Z : Nat → ClassId) (t : Nat) (p1 : Int32) (p2 : Int32)  (K : Option Nat → PH → Prop) : Nat → Nat → Int32 → Int32 → PH → Prop
  | 0, _, _, _, _ => False
  | n + 1, x3, x4, x5, h =>
    if x4 ≤ x5 then
      K none h
    else
      ldQ Z h 1 x3 x5 fun b4 =>
      gI h 2 0 b4 fun v5 =>
      if 0 ≤ v5 then
        w_X3_in_L12 Z t p1 p2 K n x3 x4 (x5 + 1) h
      else
        gI h 2 1 b4 fun v7 =>
        if v7 = p1 then
          gI h 2 2 b4 fun v9 =>
          if v9 = p2 then
            K (some b4) h
          else
            w_X3_in_L12 Z t p1 p2 K n x3 x4 (x5 + 1) h
        else
          w_X3_in_L12 Z t p1 p2 K n x3 x4 (x5 + 1) h
def w_X3_in (Z : Nat → ClassId) (t : Nat) (p1 : Int32) (p2 : Int32) (K : Option Nat → PH → Prop) (h : PH) : Prop :=
  gR h 3 3 t fun b1 =>
  lQ Z h 1 b1 fun v2 =>
  w_X3_in_L12 Z t p1 p2 K FU b1 v2 0 h
abbrev rm_X3_in : Room := { frames := 0, cells := 0, slots := 0, locals := 0 }
theorem hdv_X3_in : yX3_in.cls = RX3 ∧ yX3_in.cls ≠ "java/lang/invoke/MethodHandle" ∧ yX3_in.cls ≠ "java/lang/invoke/VarHandle" ∧ (parseMethodDescriptor yX3_in.desc).map (fun d => d.parameters.length) = some 2 := by decide +kernel
set_option maxHeartbeats 4000000 in
set_option maxRecDepth 100000 in
theorem m_X3_in (l : Launch) (D : va_G) (Z : Nat → ClassId) (t : Nat) (p1 : Int32) (p2 : Int32) (K : Option Nat → PH → Prop) (h : PH) (hf : w_X3_in Z t p1 p2 K h) : PMq (hw []) l yX3_in wsX3_in rm_X3_in D Z pE [.ref t, .int p1, .int p2] (hw [] h) K 0 0 := by
  refine PMq.of (cc := cX3_in) (nL := 7) (ret := (some (.object "PodGuidewayLaw$Pod"))) (by decide +kernel) rfl (Nat.le_of_ble_eq_true rfl) ?_
  intro p e s m below meth c A hC hE hA hP hK hD hS ls hl
  obtain ⟨hx, hb, hr, hml, hown, hts, hlk, -⟩ := hC
  have hown : s.vm.findClass RX3 = some m.cls := hown
  have hO := hE.2
  have hin2 : ∀ w ∈ wsX20, w ∈ wsX3_in := fun w h => List.mem_cons_of_mem _ (List.mem_append_right _ h)
  have hin3 : ∀ w ∈ wsX30, w ∈ wsX3_in := fun w h => List.mem_cons_of_mem _ (List.mem_append_left _ (List.mem_append_right _ h))
  have hl : lv_has ls 7 [(0, .ref t), (1, .int p1), (2, .int p2)] := hl
  have L12 : ∀ (n : Nat) (x3 : Nat) (x4 : Int32) (x5 : Int32) (h : PH) (H : Heap) (locs : List Loc), va_P D vwCl (hw [] h) H → va_D A (hw [] h) → va_S A s.heap H locs → ∀ ls : Array Slot, lv_has ls 7 [(1, .int p1), (2, .int p2), (3, .ref x3), (4, .int x4), (5, .int x5)] → w_X3_in_L12 Z t p1 p2 K n x3 x4 x5 h → W p l e rm_X3_in s m ([.ref t, .int p1, .int p2] : List Value).toArray below meth c H locs 0 0 (MQ below (QMq D (hw []) K A) ([.ref t, .int p1, .int p2] : List Value).toArray s 0 0 A) (F0 m 12 ls []) := by
    intro n
    induction n with
    | zero =>
      intro x3 x4 x5 h  H locs hP hD hS ls hl hf
      exact hf.elim
    | succ n ih =>
      intro x3 x4 x5 h  H locs hP hD hS ls hl hf
      rw [w_X3_in_L12] at hf
      refine lv_iload hx hb dX3_in_12 (lv_at hl 4 rfl) ?_
      refine lv_iload hx hb dX3_in_14 (lv_at hl 3 rfl) ?_
      refine lv_icmp_ge (tgt := 60) hx hb dX3_in_16 (by decide) (fun c3 => ?_) (fun c3 => ?_)
      · have hf := itP hf c3
        refine lv_null hx hb dX3_in_60 ?_
        exact zq_q (v := none) (u := h) hf hx hb hr (Or.inl ⟨_, rfl⟩) hlk hP hD hS (Nat.le_of_ble_eq_true rfl) (Nat.le_of_ble_eq_true rfl) dX3_in_61
      · have hf := ifP hf c3
        refine lv_aload_n hx hb dX3_in_19 rfl (lv_at hl 2 rfl) ?_
        refine lv_iload hx hb dX3_in_20 (lv_at hl 4 rfl) ?_
        refine z_aQ (tz := 1) hf hx hb hK rfl rfl hP dX3_in_22 (fun b4 hf => ?_)
        refine lv_astore (lv' := [(6, .ref b4), (1, .int p1), (2, .int p2), (3, .ref x3), (4, .int x4), (5, .int x5)]) hx hb dX3_in_23 hl (by decide) rfl (fun ls hl => ?_)
        refine lv_aload hx hb dX3_in_25 (lv_at hl 0 rfl) ?_
        refine z_gI (C := RX2) (T := TX2) (N := 7) hf hx hb hts hin2 hown hK hP rfl (by decide) (hts (.fieldLink RX3 51 "PodGuidewayLaw$Pod" "slot" "I") (List.mem_of_getElem? (i := 2) rfl)) dX3_in_27 (fun v5 hf => ?_)
        refine lv_if_ge (tgt := 54) hx hb dX3_in_30 (by decide) (fun c6 => ?_) (fun c6 => ?_)
        · have hf := itP hf c6
          refine lv_iinc (v := (x5 + 1)) (lv' := [(5, .int (x5 + 1)), (6, .ref b4), (1, .int p1), (2, .int p2), (3, .ref x3), (4, .int x4)]) hx hb dX3_in_54 hl (k := 5) rfl rfl (by decide) rfl (fun ls hl => ?_)
          refine lv_goto (tgt := 12) hx hb dX3_in_57 (by decide) ?_
          exact ih x3 x4 (x5 + 1) h _ _ hP hD hS ls (lv_sub hl [2, 3, 4, 5, 0] rfl) hf
        · have hf := ifP hf c6
          refine lv_aload hx hb dX3_in_33 (lv_at hl 0 rfl) ?_
          refine z_gI (C := RX2) (T := TX2) (N := 7) hf hx hb hts hin2 hown hK hP rfl (by decide) (hts (.fieldLink RX3 54 "PodGuidewayLaw$Pod" "at" "I") (List.mem_of_getElem? (i := 3) rfl)) dX3_in_35 (fun v7 hf => ?_)
          refine lv_iload_n hx hb dX3_in_38 rfl (lv_at hl 1 rfl) ?_
          refine lv_icmp_ne (tgt := 54) hx hb dX3_in_39 (by decide) (fun c8 => ?_) (fun c8 => ?_)
          · have hf := ifP hf c8
            refine lv_iinc (v := (x5 + 1)) (lv' := [(5, .int (x5 + 1)), (6, .ref b4), (1, .int p1), (2, .int p2), (3, .ref x3), (4, .int x4)]) hx hb dX3_in_54 hl (k := 5) rfl rfl (by decide) rfl (fun ls hl => ?_)
            refine lv_goto (tgt := 12) hx hb dX3_in_57 (by decide) ?_
            exact ih x3 x4 (x5 + 1) h _ _ hP hD hS ls (lv_sub hl [2, 3, 4, 5, 0] rfl) hf
          · have hf := itP hf c8
            refine lv_aload hx hb dX3_in_42 (lv_at hl 0 rfl) ?_
            refine z_gI (C := RX2) (T := TX2) (N := 7) hf hx hb hts hin2 hown hK hP rfl (by decide) (hts (.fieldLink RX3 57 "PodGuidewayLaw$Pod" "berth" "I") (List.mem_of_getElem? (i := 4) rfl)) dX3_in_44 (fun v9 hf => ?_)
            refine lv_iload_n hx hb dX3_in_47 rfl (lv_at hl 2 rfl) ?_
            refine lv_icmp_ne (tgt := 54) hx hb dX3_in_48 (by decide) (fun c10 => ?_) (fun c10 => ?_)
            · have hf := ifP hf c10
              refine lv_iinc (v := (x5 + 1)) (lv' := [(5, .int (x5 + 1)), (6, .ref b4), (1, .int p1), (2, .int p2), (3, .ref x3), (4, .int x4)]) hx hb dX3_in_54 hl (k := 5) rfl rfl (by decide) rfl (fun ls hl => ?_)
              refine lv_goto (tgt := 12) hx hb dX3_in_57 (by decide) ?_
              exact ih x3 x4 (x5 + 1) h _ _ hP hD hS ls (lv_sub hl [2, 3, 4, 5, 0] rfl) hf
            · have hf := itP hf c10
              refine lv_aload hx hb dX3_in_51 (lv_at hl 0 rfl) ?_
              exact zq_q (v := (some b4)) (u := h) hf hx hb hr (Or.inl ⟨_, rfl⟩) hlk hP hD hS (Nat.le_of_ble_eq_true rfl) (Nat.le_of_ble_eq_true rfl) dX3_in_53
  unfold w_X3_in at hf
  refine lv_aload_n hx hb dX3_in_0 rfl (lv_at hl 0 rfl) ?_
  refine z_gR (C := RX3) (T := TX3) (N := 8) hf hx hb hts hin3 hown hK hP rfl (by decide) (hts (.fieldLink RX3 24 "PodGuidewayLaw$Sim" "pods" "[LPodGuidewayLaw$Pod;") (List.mem_of_getElem? (i := 1) rfl)) dX3_in_1 (fun b1 hf => ?_)
  refine lv_astore_n (lv' := [(3, .ref b1), (0, .ref t), (1, .int p1), (2, .int p2)]) hx hb dX3_in_4 rfl hl (by decide) rfl (fun ls hl => ?_)
  refine lv_aload_n hx hb dX3_in_5 rfl (lv_at hl 0 rfl) ?_
  refine z_lQ (tz := 1) hf hx hb hK rfl hP dX3_in_6 (fun v2 hf => ?_)
  refine lv_istore (lv' := [(4, .int v2), (3, .ref b1), (0, .ref t), (1, .int p1), (2, .int p2)]) hx hb dX3_in_7 hl (by decide) rfl (fun ls hl => ?_)
  refine lv_iconst (v := 0) hx hb dX3_in_9 (by decide) ?_
  refine lv_istore (lv' := [(5, .int 0), (4, .int v2), (3, .ref b1), (0, .ref t), (1, .int p1), (2, .int p2)]) hx hb dX3_in_10 hl (by decide) rfl (fun ls hl => ?_)
  exact L12 FU b1 v2 0 h _ _ hP hD hS ls (lv_sub hl [4, 5, 2, 1, 0] rfl) hf

def w_X3_free_L2 (Z : Nat → ClassId) (t : Nat) (p1 : Int32)  (K : Int32 → PH → Prop) : Nat → Int32 → PH → Prop
  | 0, _, _ => False
  | n + 1, x2, h =>
    if 3 ≤ x2 then
      K (-1) h
    else
      rc3 h t ∧ w_X3_in Z t p1 x2 (fun r3 h2 =>
        opm r3 (
          K x2 h2) (fun b4 =>
          w_X3_free_L2 Z t p1 K n (x2 + 1) h2)) h
def w_X3_free (Z : Nat → ClassId) (t : Nat) (p1 : Int32) (K : Int32 → PH → Prop) (h : PH) : Prop :=
  w_X3_free_L2 Z t p1 K FU 0 h
abbrev rm_X3_free : Room := { frames := 1, cells := 0, slots := 0, locals := 26 }
theorem hdv_X3_free : yX3_free.cls = RX3 ∧ yX3_free.cls ≠ "java/lang/invoke/MethodHandle" ∧ yX3_free.cls ≠ "java/lang/invoke/VarHandle" ∧ (parseMethodDescriptor yX3_free.desc).map (fun d => d.parameters.length) = some 1 := by decide +kernel
set_option maxHeartbeats 4000000 in
set_option maxRecDepth 100000 in
theorem m_X3_free (l : Launch) (D : va_G) (Z : Nat → ClassId) (t : Nat) (p1 : Int32) (K : Int32 → PH → Prop) (h : PH) (hf : w_X3_free Z t p1 K h) : PMi (hw []) l yX3_free wsX3_free rm_X3_free D Z pE [.ref t, .int p1] (hw [] h) K 0 0 := by
  refine PMi.of (cc := cX3_free) (nL := 3) (ret := (some .int)) (by decide +kernel) rfl (Nat.le_of_ble_eq_true rfl) ?_
  intro p e s m below meth c A hC hE hA hP hK hD hS ls hl
  obtain ⟨hx, hb, hr, hml, hown, hts, hlk, -⟩ := hC
  have hown : s.vm.findClass RX3 = some m.cls := hown
  have hO := hE.2
  have hin2 : ∀ w ∈ wsX20, w ∈ wsX3_free := fun w h => List.mem_cons_of_mem _ (List.mem_append_right _ h)
  have hin3 : ∀ w ∈ wsX30, w ∈ wsX3_free := fun w h => List.mem_cons_of_mem _ (List.mem_append_left _ (List.mem_append_right _ h))
  have hl : lv_has ls 3 [(0, .ref t), (1, .int p1)] := hl
  have L2 : ∀ (n : Nat) (x2 : Int32) (h : PH) (H : Heap) (locs : List Loc), va_P D vwCl (hw [] h) H → va_D A (hw [] h) → va_S A s.heap H locs → ∀ ls : Array Slot, lv_has ls 3 [(0, .ref t), (1, .int p1), (2, .int x2)] → w_X3_free_L2 Z t p1 K n x2 h → W p l e rm_X3_free s m ([.ref t, .int p1] : List Value).toArray below meth c H locs 0 0 (MQ below (QMi D (hw []) K A) ([.ref t, .int p1] : List Value).toArray s 0 0 A) (F0 m 2 ls []) := by
    intro n
    induction n with
    | zero =>
      intro x2 h  H locs hP hD hS ls hl hf
      exact hf.elim
    | succ n ih =>
      intro x2 h  H locs hP hD hS ls hl hf
      rw [w_X3_free_L2] at hf
      refine lv_iload_n hx hb dX3_free_2 rfl (lv_at hl 2 rfl) ?_
      refine lv_iconst (v := 3) hx hb dX3_free_3 (by decide) ?_
      refine lv_icmp_ge (tgt := 24) hx hb dX3_free_4 (by decide) (fun c1 => ?_) (fun c1 => ?_)
      · have hf := itP hf c1
        refine lv_iconst (v := (-1)) hx hb dX3_free_24 (by decide) ?_
        exact zq_i (u := h) hf hx hb hr hlk hP hD hS (Nat.le_of_ble_eq_true rfl) (Nat.le_of_ble_eq_true rfl) dX3_free_25
      · have hf := ifP hf c1
        refine lv_aload_n hx hb dX3_free_7 rfl (lv_at hl 0 rfl) ?_
        refine lv_iload_n hx hb dX3_free_8 rfl (lv_at hl 1 rfl) ?_
        refine lv_iload_n hx hb dX3_free_9 rfl (lv_at hl 2 rfl) ?_
        obtain ⟨hrc3, hf⟩ := hf
        refine zk_q hwX_nil (z_VP (As := [.int p1, .int x2]) (rest := []) hrc3 pE_ok hE hS hA ⟨hx, hb, hml, hown, hts⟩ (m_X3_in l D Z t p1 x2 _ h hf) gX3_free_X3_in rfl rfl rfl hdv_X3_in ⟨Nat.le_of_ble_eq_true rfl, Nat.le_of_ble_eq_true rfl⟩ hK hP hD rfl hl.1 rfl (Nat.le_of_ble_eq_true rfl) dX3_free_10 ⟨(Nat.le_of_ble_eq_true rfl), (Nat.le_of_ble_eq_true rfl)⟩) hP hD hS hA (fun r3 h2 H locs hf hP hD hS => ?_)
        rcases r3 with _ | b4
        · have hf := opm_n hf
          refine lv_ifnonnullN hx hb dX3_free_13 ?_
          refine lv_iload_n hx hb dX3_free_16 rfl (lv_at hl 2 rfl) ?_
          exact zq_i (u := h2) hf hx hb hr hlk hP hD hS (Nat.le_of_ble_eq_true rfl) (Nat.le_of_ble_eq_true rfl) dX3_free_17
        · have hf := opm_s hf
          refine lv_ifnonnull (tgt := 18) hx hb dX3_free_13 (by decide) ?_
          refine lv_iinc (v := (x2 + 1)) (lv' := [(2, .int (x2 + 1)), (0, .ref t), (1, .int p1)]) hx hb dX3_free_18 hl (k := 2) rfl rfl (by decide) rfl (fun ls hl => ?_)
          refine lv_goto (tgt := 2) hx hb dX3_free_21 (by decide) ?_
          exact ih (x2 + 1) h2 _ _ hP hD hS ls (lv_sub hl [1, 2, 0] rfl) hf
  unfold w_X3_free at hf
  refine lv_iconst (v := 0) hx hb dX3_free_0 (by decide) ?_
  refine lv_istore_n (lv' := [(2, .int 0), (0, .ref t), (1, .int p1)]) hx hb dX3_free_1 rfl hl (by decide) rfl (fun ls hl => ?_)
  exact L2 FU 0 h _ _ hP hD hS ls (lv_sub hl [1, 2, 0] rfl) hf

def w_X3_slot_L11 (Z : Nat → ClassId) (t : Nat) (p1 : Int32)  (K : Option Nat → PH → Prop) : Nat → Nat → Int32 → Int32 → PH → Prop
  | 0, _, _, _, _ => False
  | n + 1, x2, x3, x4, h =>
    if x3 ≤ x4 then
      K none h
    else
      ldQ Z h 1 x2 x4 fun b4 =>
      gI h 2 0 b4 fun v5 =>
      if v5 = p1 then
        K (some b4) h
      else
        w_X3_slot_L11 Z t p1 K n x2 x3 (x4 + 1) h
def w_X3_slot (Z : Nat → ClassId) (t : Nat) (p1 : Int32) (K : Option Nat → PH → Prop) (h : PH) : Prop :=
  gR h 3 3 t fun b1 =>
  lQ Z h 1 b1 fun v2 =>
  w_X3_slot_L11 Z t p1 K FU b1 v2 0 h
abbrev rm_X3_slot : Room := { frames := 0, cells := 0, slots := 0, locals := 0 }
theorem hdv_X3_slot : yX3_slot.cls = RX3 ∧ yX3_slot.cls ≠ "java/lang/invoke/MethodHandle" ∧ yX3_slot.cls ≠ "java/lang/invoke/VarHandle" ∧ (parseMethodDescriptor yX3_slot.desc).map (fun d => d.parameters.length) = some 1 := by decide +kernel
set_option maxHeartbeats 4000000 in
set_option maxRecDepth 100000 in
theorem m_X3_slot (l : Launch) (D : va_G) (Z : Nat → ClassId) (t : Nat) (p1 : Int32) (K : Option Nat → PH → Prop) (h : PH) (hf : w_X3_slot Z t p1 K h) : PMq (hw []) l yX3_slot wsX3_slot rm_X3_slot D Z pE [.ref t, .int p1] (hw [] h) K 0 0 := by
  refine PMq.of (cc := cX3_slot) (nL := 6) (ret := (some (.object "PodGuidewayLaw$Pod"))) (by decide +kernel) rfl (Nat.le_of_ble_eq_true rfl) ?_
  intro p e s m below meth c A hC hE hA hP hK hD hS ls hl
  obtain ⟨hx, hb, hr, hml, hown, hts, hlk, -⟩ := hC
  have hown : s.vm.findClass RX3 = some m.cls := hown
  have hO := hE.2
  have hin2 : ∀ w ∈ wsX20, w ∈ wsX3_slot := fun w h => List.mem_cons_of_mem _ (List.mem_append_right _ h)
  have hin3 : ∀ w ∈ wsX30, w ∈ wsX3_slot := fun w h => List.mem_cons_of_mem _ (List.mem_append_left _ (List.mem_append_right _ h))
  have hl : lv_has ls 6 [(0, .ref t), (1, .int p1)] := hl
  have L11 : ∀ (n : Nat) (x2 : Nat) (x3 : Int32) (x4 : Int32) (h : PH) (H : Heap) (locs : List Loc), va_P D vwCl (hw [] h) H → va_D A (hw [] h) → va_S A s.heap H locs → ∀ ls : Array Slot, lv_has ls 6 [(1, .int p1), (2, .ref x2), (3, .int x3), (4, .int x4)] → w_X3_slot_L11 Z t p1 K n x2 x3 x4 h → W p l e rm_X3_slot s m ([.ref t, .int p1] : List Value).toArray below meth c H locs 0 0 (MQ below (QMq D (hw []) K A) ([.ref t, .int p1] : List Value).toArray s 0 0 A) (F0 m 11 ls []) := by
    intro n
    induction n with
    | zero =>
      intro x2 x3 x4 h  H locs hP hD hS ls hl hf
      exact hf.elim
    | succ n ih =>
      intro x2 x3 x4 h  H locs hP hD hS ls hl hf
      rw [w_X3_slot_L11] at hf
      refine lv_iload hx hb dX3_slot_11 (lv_at hl 3 rfl) ?_
      refine lv_iload_n hx hb dX3_slot_13 rfl (lv_at hl 2 rfl) ?_
      refine lv_icmp_ge (tgt := 41) hx hb dX3_slot_14 (by decide) (fun c3 => ?_) (fun c3 => ?_)
      · have hf := itP hf c3
        refine lv_null hx hb dX3_slot_41 ?_
        exact zq_q (v := none) (u := h) hf hx hb hr (Or.inl ⟨_, rfl⟩) hlk hP hD hS (Nat.le_of_ble_eq_true rfl) (Nat.le_of_ble_eq_true rfl) dX3_slot_42
      · have hf := ifP hf c3
        refine lv_aload_n hx hb dX3_slot_17 rfl (lv_at hl 1 rfl) ?_
        refine lv_iload hx hb dX3_slot_18 (lv_at hl 3 rfl) ?_
        refine z_aQ (tz := 1) hf hx hb hK rfl rfl hP dX3_slot_20 (fun b4 hf => ?_)
        refine lv_astore (lv' := [(5, .ref b4), (1, .int p1), (2, .ref x2), (3, .int x3), (4, .int x4)]) hx hb dX3_slot_21 hl (by decide) rfl (fun ls hl => ?_)
        refine lv_aload hx hb dX3_slot_23 (lv_at hl 0 rfl) ?_
        refine z_gI (C := RX2) (T := TX2) (N := 7) hf hx hb hts hin2 hown hK hP rfl (by decide) (hts (.fieldLink RX3 51 "PodGuidewayLaw$Pod" "slot" "I") (List.mem_of_getElem? (i := 2) rfl)) dX3_slot_25 (fun v5 hf => ?_)
        refine lv_iload_n hx hb dX3_slot_28 rfl (lv_at hl 1 rfl) ?_
        refine lv_icmp_ne (tgt := 35) hx hb dX3_slot_29 (by decide) (fun c6 => ?_) (fun c6 => ?_)
        · have hf := ifP hf c6
          refine lv_iinc (v := (x4 + 1)) (lv' := [(4, .int (x4 + 1)), (5, .ref b4), (1, .int p1), (2, .ref x2), (3, .int x3)]) hx hb dX3_slot_35 hl (k := 4) rfl rfl (by decide) rfl (fun ls hl => ?_)
          refine lv_goto (tgt := 11) hx hb dX3_slot_38 (by decide) ?_
          exact ih x2 x3 (x4 + 1) h _ _ hP hD hS ls (lv_sub hl [2, 3, 4, 0] rfl) hf
        · have hf := itP hf c6
          refine lv_aload hx hb dX3_slot_32 (lv_at hl 0 rfl) ?_
          exact zq_q (v := (some b4)) (u := h) hf hx hb hr (Or.inl ⟨_, rfl⟩) hlk hP hD hS (Nat.le_of_ble_eq_true rfl) (Nat.le_of_ble_eq_true rfl) dX3_slot_34
  unfold w_X3_slot at hf
  refine lv_aload_n hx hb dX3_slot_0 rfl (lv_at hl 0 rfl) ?_
  refine z_gR (C := RX3) (T := TX3) (N := 8) hf hx hb hts hin3 hown hK hP rfl (by decide) (hts (.fieldLink RX3 24 "PodGuidewayLaw$Sim" "pods" "[LPodGuidewayLaw$Pod;") (List.mem_of_getElem? (i := 1) rfl)) dX3_slot_1 (fun b1 hf => ?_)
  refine lv_astore_n (lv' := [(2, .ref b1), (0, .ref t), (1, .int p1)]) hx hb dX3_slot_4 rfl hl (by decide) rfl (fun ls hl => ?_)
  refine lv_aload_n hx hb dX3_slot_5 rfl (lv_at hl 0 rfl) ?_
  refine z_lQ (tz := 1) hf hx hb hK rfl hP dX3_slot_6 (fun v2 hf => ?_)
  refine lv_istore_n (lv' := [(3, .int v2), (2, .ref b1), (0, .ref t), (1, .int p1)]) hx hb dX3_slot_7 rfl hl (by decide) rfl (fun ls hl => ?_)
  refine lv_iconst (v := 0) hx hb dX3_slot_8 (by decide) ?_
  refine lv_istore (lv' := [(4, .int 0), (3, .int v2), (2, .ref b1), (0, .ref t), (1, .int p1)]) hx hb dX3_slot_9 hl (by decide) rfl (fun ls hl => ?_)
  exact L11 FU b1 v2 0 h _ _ hP hD hS ls (lv_sub hl [4, 2, 1, 0] rfl) hf

def w_X3_idle_L2 (Z : Nat → ClassId) (t : Nat) (p1 : Int32)  (K : Option Nat → PH → Prop) : Nat → Int32 → PH → Prop
  | 0, _, _ => False
  | n + 1, x2, h =>
    if 3 ≤ x2 then
      K none h
    else
      rc3 h t ∧ w_X3_in Z t p1 x2 (fun r3 h2 =>
        opm r3 (
          w_X3_idle_L2 Z t p1 K n (x2 + 1) h2) (fun b4 =>
          gI h2 2 3 b4 fun v5 =>
          if 0 ≤ v5 then
            w_X3_idle_L2 Z t p1 K n (x2 + 1) h2
          else
            K (some b4) h2)) h
def w_X3_idle (Z : Nat → ClassId) (t : Nat) (p1 : Int32) (K : Option Nat → PH → Prop) (h : PH) : Prop :=
  w_X3_idle_L2 Z t p1 K FU 0 h
abbrev rm_X3_idle : Room := { frames := 1, cells := 0, slots := 0, locals := 26 }
theorem hdv_X3_idle : yX3_idle.cls = RX3 ∧ yX3_idle.cls ≠ "java/lang/invoke/MethodHandle" ∧ yX3_idle.cls ≠ "java/lang/invoke/VarHandle" ∧ (parseMethodDescriptor yX3_idle.desc).map (fun d => d.parameters.length) = some 1 := by decide +kernel
set_option maxHeartbeats 4000000 in
set_option maxRecDepth 100000 in
theorem m_X3_idle (l : Launch) (D : va_G) (Z : Nat → ClassId) (t : Nat) (p1 : Int32) (K : Option Nat → PH → Prop) (h : PH) (hf : w_X3_idle Z t p1 K h) : PMq (hw []) l yX3_idle wsX3_idle rm_X3_idle D Z pE [.ref t, .int p1] (hw [] h) K 0 0 := by
  refine PMq.of (cc := cX3_idle) (nL := 4) (ret := (some (.object "PodGuidewayLaw$Pod"))) (by decide +kernel) rfl (Nat.le_of_ble_eq_true rfl) ?_
  intro p e s m below meth c A hC hE hA hP hK hD hS ls hl
  obtain ⟨hx, hb, hr, hml, hown, hts, hlk, -⟩ := hC
  have hown : s.vm.findClass RX3 = some m.cls := hown
  have hO := hE.2
  have hin2 : ∀ w ∈ wsX20, w ∈ wsX3_idle := fun w h => List.mem_cons_of_mem _ (List.mem_append_left _ (List.mem_append_right _ h))
  have hin3 : ∀ w ∈ wsX30, w ∈ wsX3_idle := fun w h => List.mem_cons_of_mem _ (List.mem_append_right _ h)
  have hl : lv_has ls 4 [(0, .ref t), (1, .int p1)] := hl
  have L2 : ∀ (n : Nat) (x2 : Int32) (h : PH) (H : Heap) (locs : List Loc), va_P D vwCl (hw [] h) H → va_D A (hw [] h) → va_S A s.heap H locs → ∀ ls : Array Slot, lv_has ls 4 [(0, .ref t), (1, .int p1), (2, .int x2)] → w_X3_idle_L2 Z t p1 K n x2 h → W p l e rm_X3_idle s m ([.ref t, .int p1] : List Value).toArray below meth c H locs 0 0 (MQ below (QMq D (hw []) K A) ([.ref t, .int p1] : List Value).toArray s 0 0 A) (F0 m 2 ls []) := by
    intro n
    induction n with
    | zero =>
      intro x2 h  H locs hP hD hS ls hl hf
      exact hf.elim
    | succ n ih =>
      intro x2 h  H locs hP hD hS ls hl hf
      rw [w_X3_idle_L2] at hf
      refine lv_iload_n hx hb dX3_idle_2 rfl (lv_at hl 2 rfl) ?_
      refine lv_iconst (v := 3) hx hb dX3_idle_3 (by decide) ?_
      refine lv_icmp_ge (tgt := 33) hx hb dX3_idle_4 (by decide) (fun c1 => ?_) (fun c1 => ?_)
      · have hf := itP hf c1
        refine lv_null hx hb dX3_idle_33 ?_
        exact zq_q (v := none) (u := h) hf hx hb hr (Or.inl ⟨_, rfl⟩) hlk hP hD hS (Nat.le_of_ble_eq_true rfl) (Nat.le_of_ble_eq_true rfl) dX3_idle_34
      · have hf := ifP hf c1
        refine lv_aload_n hx hb dX3_idle_7 rfl (lv_at hl 0 rfl) ?_
        refine lv_iload_n hx hb dX3_idle_8 rfl (lv_at hl 1 rfl) ?_
        refine lv_iload_n hx hb dX3_idle_9 rfl (lv_at hl 2 rfl) ?_
        obtain ⟨hrc3, hf⟩ := hf
        refine zk_q hwX_nil (z_VP (As := [.int p1, .int x2]) (rest := []) hrc3 pE_ok hE hS hA ⟨hx, hb, hml, hown, hts⟩ (m_X3_in l D Z t p1 x2 _ h hf) gX3_idle_X3_in rfl rfl rfl hdv_X3_in ⟨Nat.le_of_ble_eq_true rfl, Nat.le_of_ble_eq_true rfl⟩ hK hP hD rfl hl.1 rfl (Nat.le_of_ble_eq_true rfl) dX3_idle_10 ⟨(Nat.le_of_ble_eq_true rfl), (Nat.le_of_ble_eq_true rfl)⟩) hP hD hS hA (fun r3 h2 H locs hf hP hD hS => ?_)
        rcases r3 with _ | b4
        · have hf := opm_n hf
          refine lv_astore_nN (lv' := [(3, .null), (0, .ref t), (1, .int p1), (2, .int x2)]) hx hb dX3_idle_13 rfl hl (by decide) rfl (fun ls hl => ?_)
          refine lv_aload_nN hx hb dX3_idle_14 rfl (lv_at hl 0 rfl) ?_
          refine lv_ifnullN (tgt := 27) hx hb dX3_idle_15 (by decide) ?_
          refine lv_iinc (v := (x2 + 1)) (lv' := [(2, .int (x2 + 1)), (3, .null), (0, .ref t), (1, .int p1)]) hx hb dX3_idle_27 hl (k := 3) rfl rfl (by decide) rfl (fun ls hl => ?_)
          refine lv_goto (tgt := 2) hx hb dX3_idle_30 (by decide) ?_
          exact ih (x2 + 1) h2 _ _ hP hD hS ls (lv_sub hl [2, 3, 0] rfl) hf
        · have hf := opm_s hf
          refine lv_astore_n (lv' := [(3, .ref b4), (0, .ref t), (1, .int p1), (2, .int x2)]) hx hb dX3_idle_13 rfl hl (by decide) rfl (fun ls hl => ?_)
          refine lv_aload_n hx hb dX3_idle_14 rfl (lv_at hl 0 rfl) ?_
          refine lv_ifnull hx hb dX3_idle_15 ?_
          refine lv_aload_n hx hb dX3_idle_18 rfl (lv_at hl 0 rfl) ?_
          refine z_gI (C := RX2) (T := TX2) (N := 7) hf hx hb hts hin2 hown hK hP rfl (by decide) (hts (.fieldLink RX3 64 "PodGuidewayLaw$Pod" "goal" "I") (List.mem_of_getElem? (i := 1) rfl)) dX3_idle_19 (fun v5 hf => ?_)
          refine lv_if_ge (tgt := 27) hx hb dX3_idle_22 (by decide) (fun c6 => ?_) (fun c6 => ?_)
          · have hf := itP hf c6
            refine lv_iinc (v := (x2 + 1)) (lv' := [(2, .int (x2 + 1)), (3, .ref b4), (0, .ref t), (1, .int p1)]) hx hb dX3_idle_27 hl (k := 3) rfl rfl (by decide) rfl (fun ls hl => ?_)
            refine lv_goto (tgt := 2) hx hb dX3_idle_30 (by decide) ?_
            exact ih (x2 + 1) h2 _ _ hP hD hS ls (lv_sub hl [2, 3, 0] rfl) hf
          · have hf := ifP hf c6
            refine lv_aload_n hx hb dX3_idle_25 rfl (lv_at hl 0 rfl) ?_
            exact zq_q (v := (some b4)) (u := h2) hf hx hb hr (Or.inl ⟨_, rfl⟩) hlk hP hD hS (Nat.le_of_ble_eq_true rfl) (Nat.le_of_ble_eq_true rfl) dX3_idle_26
  unfold w_X3_idle at hf
  refine lv_iconst (v := 0) hx hb dX3_idle_0 (by decide) ?_
  refine lv_istore_n (lv' := [(2, .int 0), (0, .ref t), (1, .int p1)]) hx hb dX3_idle_1 rfl hl (by decide) rfl (fun ls hl => ?_)
  exact L2 FU 0 h _ _ hP hD hS ls (lv_sub hl [1, 2, 0] rfl) hf

def w_X3_coming_L14 (Z : Nat → ClassId) (t : Nat) (p1 : Int32)  (K : Int32 → PH → Prop) : Nat → Int32 → Nat → Int32 → Int32 → PH → Prop
  | 0, _, _, _, _, _ => False
  | n + 1, x2, x3, x4, x5, h =>
    if x4 ≤ x5 then
      K x2 h
    else
      ldQ Z h 1 x3 x5 fun b4 =>
      gI h 2 3 b4 fun v5 =>
      if v5 = p1 then
        gI h 2 4 b4 fun v7 =>
        if v7 = 0 then
          w_X3_coming_L14 Z t p1 K n (x2 + 1) x3 x4 (x5 + 1) h
        else
          w_X3_coming_L14 Z t p1 K n (x2 + 0) x3 x4 (x5 + 1) h
      else
        w_X3_coming_L14 Z t p1 K n (x2 + 0) x3 x4 (x5 + 1) h
def w_X3_coming (Z : Nat → ClassId) (t : Nat) (p1 : Int32) (K : Int32 → PH → Prop) (h : PH) : Prop :=
  gR h 3 3 t fun b1 =>
  lQ Z h 1 b1 fun v2 =>
  w_X3_coming_L14 Z t p1 K FU 0 b1 v2 0 h
abbrev rm_X3_coming : Room := { frames := 0, cells := 0, slots := 0, locals := 0 }
theorem hdv_X3_coming : yX3_coming.cls = RX3 ∧ yX3_coming.cls ≠ "java/lang/invoke/MethodHandle" ∧ yX3_coming.cls ≠ "java/lang/invoke/VarHandle" ∧ (parseMethodDescriptor yX3_coming.desc).map (fun d => d.parameters.length) = some 1 := by decide +kernel
set_option maxHeartbeats 4000000 in
set_option maxRecDepth 100000 in
theorem m_X3_coming (l : Launch) (D : va_G) (Z : Nat → ClassId) (t : Nat) (p1 : Int32) (K : Int32 → PH → Prop) (h : PH) (hf : w_X3_coming Z t p1 K h) : PMi (hw []) l yX3_coming wsX3_coming rm_X3_coming D Z pE [.ref t, .int p1] (hw [] h) K 0 0 := by
  refine PMi.of (cc := cX3_coming) (nL := 7) (ret := (some .int)) (by decide +kernel) rfl (Nat.le_of_ble_eq_true rfl) ?_
  intro p e s m below meth c A hC hE hA hP hK hD hS ls hl
  obtain ⟨hx, hb, hr, hml, hown, hts, hlk, -⟩ := hC
  have hown : s.vm.findClass RX3 = some m.cls := hown
  have hO := hE.2
  have hin2 : ∀ w ∈ wsX20, w ∈ wsX3_coming := fun w h => List.mem_cons_of_mem _ (List.mem_append_right _ h)
  have hin3 : ∀ w ∈ wsX30, w ∈ wsX3_coming := fun w h => List.mem_cons_of_mem _ (List.mem_append_left _ (List.mem_append_right _ h))
  have hl : lv_has ls 7 [(0, .ref t), (1, .int p1)] := hl
  have L14 : ∀ (n : Nat) (x2 : Int32) (x3 : Nat) (x4 : Int32) (x5 : Int32) (h : PH) (H : Heap) (locs : List Loc), va_P D vwCl (hw [] h) H → va_D A (hw [] h) → va_S A s.heap H locs → ∀ ls : Array Slot, lv_has ls 7 [(1, .int p1), (2, .int x2), (3, .ref x3), (4, .int x4), (5, .int x5)] → w_X3_coming_L14 Z t p1 K n x2 x3 x4 x5 h → W p l e rm_X3_coming s m ([.ref t, .int p1] : List Value).toArray below meth c H locs 0 0 (MQ below (QMi D (hw []) K A) ([.ref t, .int p1] : List Value).toArray s 0 0 A) (F0 m 14 ls []) := by
    intro n
    induction n with
    | zero =>
      intro x2 x3 x4 x5 h  H locs hP hD hS ls hl hf
      exact hf.elim
    | succ n ih =>
      intro x2 x3 x4 x5 h  H locs hP hD hS ls hl hf
      rw [w_X3_coming_L14] at hf
      refine lv_iload hx hb dX3_coming_14 (lv_at hl 4 rfl) ?_
      refine lv_iload hx hb dX3_coming_16 (lv_at hl 3 rfl) ?_
      refine lv_icmp_ge (tgt := 58) hx hb dX3_coming_18 (by decide) (fun c3 => ?_) (fun c3 => ?_)
      · have hf := itP hf c3
        refine lv_iload_n hx hb dX3_coming_58 rfl (lv_at hl 1 rfl) ?_
        exact zq_i (u := h) hf hx hb hr hlk hP hD hS (Nat.le_of_ble_eq_true rfl) (Nat.le_of_ble_eq_true rfl) dX3_coming_59
      · have hf := ifP hf c3
        refine lv_aload_n hx hb dX3_coming_21 rfl (lv_at hl 2 rfl) ?_
        refine lv_iload hx hb dX3_coming_22 (lv_at hl 4 rfl) ?_
        refine z_aQ (tz := 1) hf hx hb hK rfl rfl hP dX3_coming_24 (fun b4 hf => ?_)
        refine lv_astore (lv' := [(6, .ref b4), (1, .int p1), (2, .int x2), (3, .ref x3), (4, .int x4), (5, .int x5)]) hx hb dX3_coming_25 hl (by decide) rfl (fun ls hl => ?_)
        refine lv_iload_n hx hb dX3_coming_27 rfl (lv_at hl 2 rfl) ?_
        refine lv_aload hx hb dX3_coming_28 (lv_at hl 0 rfl) ?_
        refine z_gI (C := RX2) (T := TX2) (N := 7) hf hx hb hts hin2 hown hK hP rfl (by decide) (hts (.fieldLink RX3 64 "PodGuidewayLaw$Pod" "goal" "I") (List.mem_of_getElem? (i := 2) rfl)) dX3_coming_30 (fun v5 hf => ?_)
        refine lv_iload_n hx hb dX3_coming_33 rfl (lv_at hl 1 rfl) ?_
        refine lv_icmp_ne (tgt := 49) hx hb dX3_coming_34 (by decide) (fun c6 => ?_) (fun c6 => ?_)
        · have hf := ifP hf c6
          refine lv_iconst (v := 0) hx hb dX3_coming_49 (by decide) ?_
          refine lv_iadd hx hb dX3_coming_50 ?_
          refine lv_istore_n (lv' := [(2, .int (x2 + 0)), (6, .ref b4), (1, .int p1), (3, .ref x3), (4, .int x4), (5, .int x5)]) hx hb dX3_coming_51 rfl hl (by decide) rfl (fun ls hl => ?_)
          refine lv_iinc (v := (x5 + 1)) (lv' := [(5, .int (x5 + 1)), (2, .int (x2 + 0)), (6, .ref b4), (1, .int p1), (3, .ref x3), (4, .int x4)]) hx hb dX3_coming_52 hl (k := 5) rfl rfl (by decide) rfl (fun ls hl => ?_)
          refine lv_goto (tgt := 14) hx hb dX3_coming_55 (by decide) ?_
          exact ih (x2 + 0) x3 x4 (x5 + 1) h _ _ hP hD hS ls (lv_sub hl [3, 1, 4, 5, 0] rfl) hf
        · have hf := itP hf c6
          refine lv_aload hx hb dX3_coming_37 (lv_at hl 0 rfl) ?_
          refine z_gI (C := RX2) (T := TX2) (N := 7) hf hx hb hts hin2 hown hK hP rfl (by decide) (hts (.fieldLink RX3 67 "PodGuidewayLaw$Pod" "rider" "I") (List.mem_of_getElem? (i := 3) rfl)) dX3_coming_39 (fun v7 hf => ?_)
          refine lv_if_ne (tgt := 49) hx hb dX3_coming_42 (by decide) (fun c8 => ?_) (fun c8 => ?_)
          · have hf := ifP hf c8
            refine lv_iconst (v := 0) hx hb dX3_coming_49 (by decide) ?_
            refine lv_iadd hx hb dX3_coming_50 ?_
            refine lv_istore_n (lv' := [(2, .int (x2 + 0)), (6, .ref b4), (1, .int p1), (3, .ref x3), (4, .int x4), (5, .int x5)]) hx hb dX3_coming_51 rfl hl (by decide) rfl (fun ls hl => ?_)
            refine lv_iinc (v := (x5 + 1)) (lv' := [(5, .int (x5 + 1)), (2, .int (x2 + 0)), (6, .ref b4), (1, .int p1), (3, .ref x3), (4, .int x4)]) hx hb dX3_coming_52 hl (k := 5) rfl rfl (by decide) rfl (fun ls hl => ?_)
            refine lv_goto (tgt := 14) hx hb dX3_coming_55 (by decide) ?_
            exact ih (x2 + 0) x3 x4 (x5 + 1) h _ _ hP hD hS ls (lv_sub hl [3, 1, 4, 5, 0] rfl) hf
          · have hf := itP hf c8
            refine lv_iconst (v := 1) hx hb dX3_coming_45 (by decide) ?_
            refine lv_goto (tgt := 50) hx hb dX3_coming_46 (by decide) ?_
            refine lv_iadd hx hb dX3_coming_50 ?_
            refine lv_istore_n (lv' := [(2, .int (x2 + 1)), (6, .ref b4), (1, .int p1), (3, .ref x3), (4, .int x4), (5, .int x5)]) hx hb dX3_coming_51 rfl hl (by decide) rfl (fun ls hl => ?_)
            refine lv_iinc (v := (x5 + 1)) (lv' := [(5, .int (x5 + 1)), (2, .int (x2 + 1)), (6, .ref b4), (1, .int p1), (3, .ref x3), (4, .int x4)]) hx hb dX3_coming_52 hl (k := 5) rfl rfl (by decide) rfl (fun ls hl => ?_)
            refine lv_goto (tgt := 14) hx hb dX3_coming_55 (by decide) ?_
            exact ih (x2 + 1) x3 x4 (x5 + 1) h _ _ hP hD hS ls (lv_sub hl [3, 1, 4, 5, 0] rfl) hf
  unfold w_X3_coming at hf
  refine lv_iconst (v := 0) hx hb dX3_coming_0 (by decide) ?_
  refine lv_istore_n (lv' := [(2, .int 0), (0, .ref t), (1, .int p1)]) hx hb dX3_coming_1 rfl hl (by decide) rfl (fun ls hl => ?_)
  refine lv_aload_n hx hb dX3_coming_2 rfl (lv_at hl 1 rfl) ?_
  refine z_gR (C := RX3) (T := TX3) (N := 8) hf hx hb hts hin3 hown hK hP rfl (by decide) (hts (.fieldLink RX3 24 "PodGuidewayLaw$Sim" "pods" "[LPodGuidewayLaw$Pod;") (List.mem_of_getElem? (i := 1) rfl)) dX3_coming_3 (fun b1 hf => ?_)
  refine lv_astore_n (lv' := [(3, .ref b1), (2, .int 0), (0, .ref t), (1, .int p1)]) hx hb dX3_coming_6 rfl hl (by decide) rfl (fun ls hl => ?_)
  refine lv_aload_n hx hb dX3_coming_7 rfl (lv_at hl 0 rfl) ?_
  refine z_lQ (tz := 1) hf hx hb hK rfl hP dX3_coming_8 (fun v2 hf => ?_)
  refine lv_istore (lv' := [(4, .int v2), (3, .ref b1), (2, .int 0), (0, .ref t), (1, .int p1)]) hx hb dX3_coming_9 hl (by decide) rfl (fun ls hl => ?_)
  refine lv_iconst (v := 0) hx hb dX3_coming_11 (by decide) ?_
  refine lv_istore (lv' := [(5, .int 0), (4, .int v2), (3, .ref b1), (2, .int 0), (0, .ref t), (1, .int p1)]) hx hb dX3_coming_12 hl (by decide) rfl (fun ls hl => ?_)
  exact L14 FU 0 b1 v2 0 h _ _ hP hD hS ls (lv_sub hl [5, 3, 2, 1, 0] rfl) hf

def w_X3_answer_L10 (Z : Nat → ClassId) (t : Nat) (p1 : Int32) (κ2 : Int32 → PH → Prop) (K : Int32 → PH → Prop) : Nat → Int32 → Int32 → PH → Prop
  | 0, _, _, _ => False
  | n + 1, x2, x3, h =>
    gR h 3 0 t fun b2 =>
    lI Z h b2 fun v3 =>
    if v3 ≤ x3 then
      κ2 (x2 + 1) h
    else
      gR h 3 0 t fun b5 =>
      ldI Z h b5 x3 fun v6 =>
      gR h 3 0 t fun b7 =>
      ldI Z h b7 p1 fun v8 =>
      if ((v6 + x2) - (v6 + x2) / 24 * 24) = v8 then
        gR h 3 1 t fun b10 =>
        ldQ Z h 3 b10 x3 fun b11 =>
        lQ Z h 2 b11 fun v12 =>
        if v12 = 0 then
          rc3 h t ∧ w_X3_idle Z t x3 (fun r15 h14 =>
            opm r15 (
              w_X3_answer_L10 Z t p1 κ2 K n x2 (x3 + 1) h14) (fun b16 =>
              K x3 h14)) h
        else
          w_X3_answer_L10 Z t p1 κ2 K n x2 (x3 + 1) h
      else
        w_X3_answer_L10 Z t p1 κ2 K n x2 (x3 + 1) h
def w_X3_answer_L2 (Z : Nat → ClassId) (t : Nat) (p1 : Int32)  (K : Int32 → PH → Prop) : Nat → Int32 → PH → Prop
  | 0, _, _ => False
  | n + 1, x2, h =>
    if 24 ≤ x2 then
      K (-1) h
    else
      w_X3_answer_L10 Z t p1 (fun x2 h => w_X3_answer_L2 Z t p1 K n x2 h) K FU x2 0 h
def w_X3_answer (Z : Nat → ClassId) (t : Nat) (p1 : Int32) (K : Int32 → PH → Prop) (h : PH) : Prop :=
  w_X3_answer_L2 Z t p1 K FU 1 h
abbrev rm_X3_answer : Room := { frames := 2, cells := 0, slots := 0, locals := 49 }
theorem hdv_X3_answer : yX3_answer.cls = RX3 ∧ yX3_answer.cls ≠ "java/lang/invoke/MethodHandle" ∧ yX3_answer.cls ≠ "java/lang/invoke/VarHandle" ∧ (parseMethodDescriptor yX3_answer.desc).map (fun d => d.parameters.length) = some 1 := by decide +kernel
set_option maxHeartbeats 4000000 in
set_option maxRecDepth 100000 in
theorem m_X3_answer (l : Launch) (D : va_G) (Z : Nat → ClassId) (t : Nat) (p1 : Int32) (K : Int32 → PH → Prop) (h : PH) (hf : w_X3_answer Z t p1 K h) : PMi (hw []) l yX3_answer wsX3_answer rm_X3_answer D Z pE [.ref t, .int p1] (hw [] h) K 0 0 := by
  refine PMi.of (cc := cX3_answer) (nL := 4) (ret := (some .int)) (by decide +kernel) rfl (Nat.le_of_ble_eq_true rfl) ?_
  intro p e s m below meth c A hC hE hA hP hK hD hS ls hl
  obtain ⟨hx, hb, hr, hml, hown, hts, hlk, -⟩ := hC
  have hown : s.vm.findClass RX3 = some m.cls := hown
  have hO := hE.2
  have hin2 : ∀ w ∈ wsX20, w ∈ wsX3_answer := fun w h => List.mem_cons_of_mem _ (List.mem_append_right _ h)
  have hin3 : ∀ w ∈ wsX30, w ∈ wsX3_answer := fun w h => List.mem_cons_of_mem _ (List.mem_append_left _ (List.mem_append_right _ h))
  have hl : lv_has ls 4 [(0, .ref t), (1, .int p1)] := hl
  have L10 : ∀ (κ2 : Int32 → PH → Prop), (∀ (x2 : Int32) (h : PH) (H : Heap) (locs : List Loc), va_P D vwCl (hw [] h) H → va_D A (hw [] h) → va_S A s.heap H locs → ∀ ls : Array Slot, lv_has ls 4 [(0, .ref t), (1, .int p1), (2, .int x2)] → κ2 x2 h → W p l e rm_X3_answer s m ([.ref t, .int p1] : List Value).toArray below meth c H locs 0 0 (MQ below (QMi D (hw []) K A) ([.ref t, .int p1] : List Value).toArray s 0 0 A) (F0 m 2 ls [])) → ∀ (n : Nat) (x2 : Int32) (x3 : Int32) (h : PH) (H : Heap) (locs : List Loc), va_P D vwCl (hw [] h) H → va_D A (hw [] h) → va_S A s.heap H locs → ∀ ls : Array Slot, lv_has ls 4 [(0, .ref t), (1, .int p1), (2, .int x2), (3, .int x3)] → w_X3_answer_L10 Z t p1 κ2 K n x2 x3 h → W p l e rm_X3_answer s m ([.ref t, .int p1] : List Value).toArray below meth c H locs 0 0 (MQ below (QMi D (hw []) K A) ([.ref t, .int p1] : List Value).toArray s 0 0 A) (F0 m 10 ls []) := by
    intro κ2 hκ2 n
    induction n with
    | zero =>
      intro x2 x3 h  H locs hP hD hS ls hl hf
      exact hf.elim
    | succ n ih =>
      intro x2 x3 h  H locs hP hD hS ls hl hf
      rw [w_X3_answer_L10] at hf
      refine lv_iload_n hx hb dX3_answer_10 rfl (lv_at hl 3 rfl) ?_
      refine lv_aload_n hx hb dX3_answer_11 rfl (lv_at hl 0 rfl) ?_
      refine z_gR (C := RX3) (T := TX3) (N := 8) hf hx hb hts hin3 hown hK hP rfl (by decide) (hts (.fieldLink RX3 7 "PodGuidewayLaw$Sim" "place" "[I") (List.mem_of_getElem? (i := 1) rfl)) dX3_answer_12 (fun b2 hf => ?_)
      refine z_lI hf hx hb hK hP dX3_answer_15 (fun v3 hf => ?_)
      refine lv_icmp_ge (tgt := 65) hx hb dX3_answer_16 (by decide) (fun c4 => ?_) (fun c4 => ?_)
      · have hf := itP hf c4
        refine lv_iinc (v := (x2 + 1)) (lv' := [(2, .int (x2 + 1)), (0, .ref t), (1, .int p1), (3, .int x3)]) hx hb dX3_answer_65 hl (k := 2) rfl rfl (by decide) rfl (fun ls hl => ?_)
        refine lv_goto (tgt := 2) hx hb dX3_answer_68 (by decide) ?_
        exact hκ2 (x2 + 1) h _ _ hP hD hS ls (lv_sub hl [1, 2, 0] rfl) hf
      · have hf := ifP hf c4
        refine lv_aload_n hx hb dX3_answer_19 rfl (lv_at hl 0 rfl) ?_
        refine z_gR (C := RX3) (T := TX3) (N := 8) hf hx hb hts hin3 hown hK hP rfl (by decide) (hts (.fieldLink RX3 7 "PodGuidewayLaw$Sim" "place" "[I") (List.mem_of_getElem? (i := 1) rfl)) dX3_answer_20 (fun b5 hf => ?_)
        refine lv_iload_n hx hb dX3_answer_23 rfl (lv_at hl 3 rfl) ?_
        refine z_aI hf hx hb hK hP dX3_answer_24 (fun v6 hf => ?_)
        refine lv_iload_n hx hb dX3_answer_25 rfl (lv_at hl 2 rfl) ?_
        refine lv_iadd hx hb dX3_answer_26 ?_
        refine lv_bipush (v := 24) hx hb dX3_answer_27 (by decide) ?_
        refine lv_irem hx hb dX3_answer_29 (by decide) ?_
        refine lv_aload_n hx hb dX3_answer_30 rfl (lv_at hl 0 rfl) ?_
        refine z_gR (C := RX3) (T := TX3) (N := 8) hf hx hb hts hin3 hown hK hP rfl (by decide) (hts (.fieldLink RX3 7 "PodGuidewayLaw$Sim" "place" "[I") (List.mem_of_getElem? (i := 1) rfl)) dX3_answer_31 (fun b7 hf => ?_)
        refine lv_iload_n hx hb dX3_answer_34 rfl (lv_at hl 1 rfl) ?_
        refine z_aI hf hx hb hK hP dX3_answer_35 (fun v8 hf => ?_)
        refine lv_icmp_ne (tgt := 59) hx hb dX3_answer_36 (by decide) (fun c9 => ?_) (fun c9 => ?_)
        · have hf := ifP hf c9
          refine lv_iinc (v := (x3 + 1)) (lv' := [(3, .int (x3 + 1)), (0, .ref t), (1, .int p1), (2, .int x2)]) hx hb dX3_answer_59 hl (k := 3) rfl rfl (by decide) rfl (fun ls hl => ?_)
          refine lv_goto (tgt := 10) hx hb dX3_answer_62 (by decide) ?_
          exact ih x2 (x3 + 1) h _ _ hP hD hS ls (lv_sub hl [1, 2, 3, 0] rfl) hf
        · have hf := itP hf c9
          refine lv_aload_n hx hb dX3_answer_39 rfl (lv_at hl 0 rfl) ?_
          refine z_gR (C := RX3) (T := TX3) (N := 8) hf hx hb hts hin3 hown hK hP rfl (by decide) (hts (.fieldLink RX3 15 "PodGuidewayLaw$Sim" "waits" "[[[I") (List.mem_of_getElem? (i := 2) rfl)) dX3_answer_40 (fun b10 hf => ?_)
          refine lv_iload_n hx hb dX3_answer_43 rfl (lv_at hl 3 rfl) ?_
          refine z_aQ (tz := 3) hf hx hb hK rfl rfl hP dX3_answer_44 (fun b11 hf => ?_)
          refine z_lQ (tz := 2) hf hx hb hK rfl hP dX3_answer_45 (fun v12 hf => ?_)
          refine lv_if_ne (tgt := 59) hx hb dX3_answer_46 (by decide) (fun c13 => ?_) (fun c13 => ?_)
          · have hf := ifP hf c13
            refine lv_iinc (v := (x3 + 1)) (lv' := [(3, .int (x3 + 1)), (0, .ref t), (1, .int p1), (2, .int x2)]) hx hb dX3_answer_59 hl (k := 3) rfl rfl (by decide) rfl (fun ls hl => ?_)
            refine lv_goto (tgt := 10) hx hb dX3_answer_62 (by decide) ?_
            exact ih x2 (x3 + 1) h _ _ hP hD hS ls (lv_sub hl [1, 2, 3, 0] rfl) hf
          · have hf := itP hf c13
            refine lv_aload_n hx hb dX3_answer_49 rfl (lv_at hl 0 rfl) ?_
            refine lv_iload_n hx hb dX3_answer_50 rfl (lv_at hl 3 rfl) ?_
            obtain ⟨hrc3, hf⟩ := hf
            refine zk_q hwX_nil (z_VP (As := [.int x3]) (rest := []) hrc3 pE_ok hE hS hA ⟨hx, hb, hml, hown, hts⟩ (m_X3_idle l D Z t x3 _ h hf) gX3_answer_X3_idle rfl rfl rfl hdv_X3_idle ⟨Nat.le_of_ble_eq_true rfl, Nat.le_of_ble_eq_true rfl⟩ hK hP hD rfl hl.1 rfl (Nat.le_of_ble_eq_true rfl) dX3_answer_51 ⟨(Nat.le_of_ble_eq_true rfl), (Nat.le_of_ble_eq_true rfl)⟩) hP hD hS hA (fun r15 h14 H locs hf hP hD hS => ?_)
            rcases r15 with _ | b16
            · have hf := opm_n hf
              refine lv_ifnullN (tgt := 59) hx hb dX3_answer_54 (by decide) ?_
              refine lv_iinc (v := (x3 + 1)) (lv' := [(3, .int (x3 + 1)), (0, .ref t), (1, .int p1), (2, .int x2)]) hx hb dX3_answer_59 hl (k := 3) rfl rfl (by decide) rfl (fun ls hl => ?_)
              refine lv_goto (tgt := 10) hx hb dX3_answer_62 (by decide) ?_
              exact ih x2 (x3 + 1) h14 _ _ hP hD hS ls (lv_sub hl [1, 2, 3, 0] rfl) hf
            · have hf := opm_s hf
              refine lv_ifnull hx hb dX3_answer_54 ?_
              refine lv_iload_n hx hb dX3_answer_57 rfl (lv_at hl 3 rfl) ?_
              exact zq_i (u := h14) hf hx hb hr hlk hP hD hS (Nat.le_of_ble_eq_true rfl) (Nat.le_of_ble_eq_true rfl) dX3_answer_58
  have L2 : ∀ (n : Nat) (x2 : Int32) (h : PH) (H : Heap) (locs : List Loc), va_P D vwCl (hw [] h) H → va_D A (hw [] h) → va_S A s.heap H locs → ∀ ls : Array Slot, lv_has ls 4 [(0, .ref t), (1, .int p1), (2, .int x2)] → w_X3_answer_L2 Z t p1 K n x2 h → W p l e rm_X3_answer s m ([.ref t, .int p1] : List Value).toArray below meth c H locs 0 0 (MQ below (QMi D (hw []) K A) ([.ref t, .int p1] : List Value).toArray s 0 0 A) (F0 m 2 ls []) := by
    intro n
    induction n with
    | zero =>
      intro x2 h  H locs hP hD hS ls hl hf
      exact hf.elim
    | succ n ih =>
      intro x2 h  H locs hP hD hS ls hl hf
      rw [w_X3_answer_L2] at hf
      refine lv_iload_n hx hb dX3_answer_2 rfl (lv_at hl 2 rfl) ?_
      refine lv_bipush (v := 24) hx hb dX3_answer_3 (by decide) ?_
      refine lv_icmp_ge (tgt := 71) hx hb dX3_answer_5 (by decide) (fun c1 => ?_) (fun c1 => ?_)
      · have hf := itP hf c1
        refine lv_iconst (v := (-1)) hx hb dX3_answer_71 (by decide) ?_
        exact zq_i (u := h) hf hx hb hr hlk hP hD hS (Nat.le_of_ble_eq_true rfl) (Nat.le_of_ble_eq_true rfl) dX3_answer_72
      · have hf := ifP hf c1
        refine lv_iconst (v := 0) hx hb dX3_answer_8 (by decide) ?_
        refine lv_istore_n (lv' := [(3, .int 0), (0, .ref t), (1, .int p1), (2, .int x2)]) hx hb dX3_answer_9 rfl hl (by decide) rfl (fun ls hl => ?_)
        exact L10 _ ih FU x2 0 h _ _ hP hD hS ls (lv_sub hl [1, 2, 3, 0] rfl) hf
  unfold w_X3_answer at hf
  refine lv_iconst (v := 1) hx hb dX3_answer_0 (by decide) ?_
  refine lv_istore_n (lv' := [(2, .int 1), (0, .ref t), (1, .int p1)]) hx hb dX3_answer_1 rfl hl (by decide) rfl (fun ls hl => ?_)
  exact L2 FU 1 h _ _ hP hD hS ls (lv_sub hl [1, 2, 0] rfl) hf

def w_X3_told_L160 (Z : Nat → ClassId) (t : Nat) (p1 : Int32) (κ129 : Int32 → Nat → Int32 → Int32 → PH → Prop) (K : Int32 → PH → Prop) (y0 : Int32) (x3 : Nat) (x4 : Int32) (x5 : Int32) (x6 : Nat) (h : PH) : Prop :=
  if p1 = 6 then
    gI h 2 0 x6 fun v15 =>
    if v15 < 0 then
      κ129 (y0 + 0) x3 x4 (x5 + 1) h
    else
      κ129 (y0 + (-1)) x3 x4 (x5 + 1) h
  else
    κ129 (y0 + 0) x3 x4 (x5 + 1) h
def w_X3_told_L129 (Z : Nat → ClassId) (t : Nat) (p1 : Int32)  (K : Int32 → PH → Prop) : Nat → Int32 → Nat → Int32 → Int32 → PH → Prop
  | 0, _, _, _, _, _ => False
  | n + 1, x2, x3, x4, x5, h =>
    if x4 ≤ x5 then
      K x2 h
    else
      ldQ Z h 1 x3 x5 fun b12 =>
      if p1 = 4 then
        gI h 2 4 b12 fun v17 =>
        if v17 ≤ 0 then
          w_X3_told_L160 Z t p1 (fun x2 x3 x4 x5 h => w_X3_told_L129 Z t p1 K n x2 x3 x4 x5 h) K x2 x3 x4 x5 b12 h
        else
          w_X3_told_L129 Z t p1 K n (x2 + 1) x3 x4 (x5 + 1) h
      else
        w_X3_told_L160 Z t p1 (fun x2 x3 x4 x5 h => w_X3_told_L129 Z t p1 K n x2 x3 x4 x5 h) K x2 x3 x4 x5 b12 h
def w_X3_told_L84 (Z : Nat → ClassId) (t : Nat) (p1 : Int32)  (K : Int32 → PH → Prop) : Nat → Int32 → Nat → Int32 → Int32 → PH → Prop
  | 0, _, _, _, _, _ => False
  | n + 1, x2, x3, x4, x5, h =>
    if x4 ≤ x5 then
      gR h 3 3 t fun b9 =>
      lQ Z h 1 b9 fun v10 =>
      w_X3_told_L129 Z t p1 K FU x2 b9 v10 0 h
    else
      ldI Z h x3 x5 fun v19 =>
      if p1 = 5 then
        w_X3_told_L84 Z t p1 K n (x2 + v19) x3 x4 (x5 + 1) h
      else
        w_X3_told_L84 Z t p1 K n (x2 + 0) x3 x4 (x5 + 1) h
def w_X3_told_L38 (Z : Nat → ClassId) (t : Nat) (p1 : Int32)  (K : Int32 → PH → Prop) : Nat → Int32 → Nat → Int32 → Int32 → PH → Prop
  | 0, _, _, _, _, _ => False
  | n + 1, x2, x3, x4, x5, h =>
    if x4 ≤ x5 then
      gR h 3 2 t fun b6 =>
      lI Z h b6 fun v7 =>
      w_X3_told_L84 Z t p1 K FU x2 b6 v7 0 h
    else
      ldQ Z h 3 x3 x5 fun b21 =>
      if p1 = 3 then
        lQ Z h 2 b21 fun v23 =>
        w_X3_told_L38 Z t p1 K n (x2 + v23) x3 x4 (x5 + 1) h
      else
        w_X3_told_L38 Z t p1 K n (x2 + 0) x3 x4 (x5 + 1) h
def w_X3_told_L25 (Z : Nat → ClassId) (t : Nat) (p1 : Int32)  (K : Int32 → PH → Prop) (y0 : Int32) (h : PH) : Prop :=
  gR h 3 1 t fun b3 =>
  lQ Z h 3 b3 fun v4 =>
  w_X3_told_L38 Z t p1 K FU y0 b3 v4 0 h
def w_X3_told (Z : Nat → ClassId) (t : Nat) (p1 : Int32) (K : Int32 → PH → Prop) (h : PH) : Prop :=
  if p1 = 7 then
    gI h 3 5 t fun v24 =>
    w_X3_told_L25 Z t p1 K v24 h
  else
    if p1 = 6 then
      w_X3_told_L25 Z t p1 K 24 h
    else
      w_X3_told_L25 Z t p1 K 0 h
abbrev rm_X3_told : Room := { frames := 0, cells := 0, slots := 0, locals := 0 }
theorem hdv_X3_told : yX3_told.cls = RX3 ∧ yX3_told.cls ≠ "java/lang/invoke/MethodHandle" ∧ yX3_told.cls ≠ "java/lang/invoke/VarHandle" ∧ (parseMethodDescriptor yX3_told.desc).map (fun d => d.parameters.length) = some 1 := by decide +kernel
set_option maxHeartbeats 4000000 in
set_option maxRecDepth 100000 in
theorem m_X3_told (l : Launch) (D : va_G) (Z : Nat → ClassId) (t : Nat) (p1 : Int32) (K : Int32 → PH → Prop) (h : PH) (hf : w_X3_told Z t p1 K h) : PMi (hw []) l yX3_told wsX3_told rm_X3_told D Z pE [.ref t, .int p1] (hw [] h) K 0 0 := by
  refine PMi.of (cc := cX3_told) (nL := 7) (ret := (some .int)) (by decide +kernel) rfl (Nat.le_of_ble_eq_true rfl) ?_
  intro p e s m below meth c A hC hE hA hP hK hD hS ls hl
  obtain ⟨hx, hb, hr, hml, hown, hts, hlk, -⟩ := hC
  have hown : s.vm.findClass RX3 = some m.cls := hown
  have hO := hE.2
  have hin2 : ∀ w ∈ wsX20, w ∈ wsX3_told := fun w h => List.mem_cons_of_mem _ (List.mem_append_right _ h)
  have hin3 : ∀ w ∈ wsX30, w ∈ wsX3_told := fun w h => List.mem_cons_of_mem _ (List.mem_append_left _ (List.mem_append_right _ h))
  have hl : lv_has ls 7 [(0, .ref t), (1, .int p1)] := hl
  have L160 : ∀ (κ129 : Int32 → Nat → Int32 → Int32 → PH → Prop), (∀ (x2 : Int32) (x3 : Nat) (x4 : Int32) (x5 : Int32) (h : PH) (H : Heap) (locs : List Loc), va_P D vwCl (hw [] h) H → va_D A (hw [] h) → va_S A s.heap H locs → ∀ ls : Array Slot, lv_has ls 7 [(1, .int p1), (2, .int x2), (3, .ref x3), (4, .int x4), (5, .int x5)] → κ129 x2 x3 x4 x5 h → W p l e rm_X3_told s m ([.ref t, .int p1] : List Value).toArray below meth c H locs 0 0 (MQ below (QMi D (hw []) K A) ([.ref t, .int p1] : List Value).toArray s 0 0 A) (F0 m 129 ls [])) → ∀ (y0 : Int32) (x3 : Nat) (x4 : Int32) (x5 : Int32) (x6 : Nat) (h : PH) (H : Heap) (locs : List Loc), va_P D vwCl (hw [] h) H → va_D A (hw [] h) → va_S A s.heap H locs → ∀ ls : Array Slot, lv_has ls 7 [(1, .int p1), (3, .ref x3), (4, .int x4), (5, .int x5), (6, .ref x6)] → w_X3_told_L160 Z t p1 κ129 K y0 x3 x4 x5 x6 h → W p l e rm_X3_told s m ([.ref t, .int p1] : List Value).toArray below meth c H locs 0 0 (MQ below (QMi D (hw []) K A) ([.ref t, .int p1] : List Value).toArray s 0 0 A) (F0 m 160 ls [.int y0]) := by
    intro κ129 hκ129 y0 x3 x4 x5 x6 h H locs hP hD hS ls hl hf
    unfold w_X3_told_L160 at hf
    refine lv_iload_n hx hb dX3_told_160 rfl (lv_at hl 0 rfl) ?_
    refine lv_bipush (v := 6) hx hb dX3_told_161 (by decide) ?_
    refine lv_icmp_ne (tgt := 178) hx hb dX3_told_163 (by decide) (fun c14 => ?_) (fun c14 => ?_)
    · have hf := ifP hf c14
      refine lv_iconst (v := 0) hx hb dX3_told_178 (by decide) ?_
      refine lv_iadd hx hb dX3_told_179 ?_
      refine lv_istore_n (lv' := [(2, .int (y0 + 0)), (1, .int p1), (3, .ref x3), (4, .int x4), (5, .int x5), (6, .ref x6)]) hx hb dX3_told_180 rfl hl (by decide) rfl (fun ls hl => ?_)
      refine lv_iinc (v := (x5 + 1)) (lv' := [(5, .int (x5 + 1)), (2, .int (y0 + 0)), (1, .int p1), (3, .ref x3), (4, .int x4), (6, .ref x6)]) hx hb dX3_told_181 hl (k := 4) rfl rfl (by decide) rfl (fun ls hl => ?_)
      refine lv_goto (tgt := 129) hx hb dX3_told_184 (by decide) ?_
      exact hκ129 (y0 + 0) x3 x4 (x5 + 1) h _ _ hP hD hS ls (lv_sub hl [2, 1, 3, 4, 0] rfl) hf
    · have hf := itP hf c14
      refine lv_aload hx hb dX3_told_166 (lv_at hl 4 rfl) ?_
      refine z_gI (C := RX2) (T := TX2) (N := 7) hf hx hb hts hin2 hown hK hP rfl (by decide) (hts (.fieldLink RX3 51 "PodGuidewayLaw$Pod" "slot" "I") (List.mem_of_getElem? (i := 6) rfl)) dX3_told_168 (fun v15 hf => ?_)
      refine lv_if_lt (tgt := 178) hx hb dX3_told_171 (by decide) (fun c16 => ?_) (fun c16 => ?_)
      · have hf := itP hf c16
        refine lv_iconst (v := 0) hx hb dX3_told_178 (by decide) ?_
        refine lv_iadd hx hb dX3_told_179 ?_
        refine lv_istore_n (lv' := [(2, .int (y0 + 0)), (1, .int p1), (3, .ref x3), (4, .int x4), (5, .int x5), (6, .ref x6)]) hx hb dX3_told_180 rfl hl (by decide) rfl (fun ls hl => ?_)
        refine lv_iinc (v := (x5 + 1)) (lv' := [(5, .int (x5 + 1)), (2, .int (y0 + 0)), (1, .int p1), (3, .ref x3), (4, .int x4), (6, .ref x6)]) hx hb dX3_told_181 hl (k := 4) rfl rfl (by decide) rfl (fun ls hl => ?_)
        refine lv_goto (tgt := 129) hx hb dX3_told_184 (by decide) ?_
        exact hκ129 (y0 + 0) x3 x4 (x5 + 1) h _ _ hP hD hS ls (lv_sub hl [2, 1, 3, 4, 0] rfl) hf
      · have hf := ifP hf c16
        refine lv_iconst (v := (-1)) hx hb dX3_told_174 (by decide) ?_
        refine lv_goto (tgt := 179) hx hb dX3_told_175 (by decide) ?_
        refine lv_iadd hx hb dX3_told_179 ?_
        refine lv_istore_n (lv' := [(2, .int (y0 + (-1))), (1, .int p1), (3, .ref x3), (4, .int x4), (5, .int x5), (6, .ref x6)]) hx hb dX3_told_180 rfl hl (by decide) rfl (fun ls hl => ?_)
        refine lv_iinc (v := (x5 + 1)) (lv' := [(5, .int (x5 + 1)), (2, .int (y0 + (-1))), (1, .int p1), (3, .ref x3), (4, .int x4), (6, .ref x6)]) hx hb dX3_told_181 hl (k := 4) rfl rfl (by decide) rfl (fun ls hl => ?_)
        refine lv_goto (tgt := 129) hx hb dX3_told_184 (by decide) ?_
        exact hκ129 (y0 + (-1)) x3 x4 (x5 + 1) h _ _ hP hD hS ls (lv_sub hl [2, 1, 3, 4, 0] rfl) hf
  have L129 : ∀ (n : Nat) (x2 : Int32) (x3 : Nat) (x4 : Int32) (x5 : Int32) (h : PH) (H : Heap) (locs : List Loc), va_P D vwCl (hw [] h) H → va_D A (hw [] h) → va_S A s.heap H locs → ∀ ls : Array Slot, lv_has ls 7 [(1, .int p1), (2, .int x2), (3, .ref x3), (4, .int x4), (5, .int x5)] → w_X3_told_L129 Z t p1 K n x2 x3 x4 x5 h → W p l e rm_X3_told s m ([.ref t, .int p1] : List Value).toArray below meth c H locs 0 0 (MQ below (QMi D (hw []) K A) ([.ref t, .int p1] : List Value).toArray s 0 0 A) (F0 m 129 ls []) := by
    intro n
    induction n with
    | zero =>
      intro x2 x3 x4 x5 h  H locs hP hD hS ls hl hf
      exact hf.elim
    | succ n ih =>
      intro x2 x3 x4 x5 h  H locs hP hD hS ls hl hf
      rw [w_X3_told_L129] at hf
      refine lv_iload hx hb dX3_told_129 (lv_at hl 4 rfl) ?_
      refine lv_iload hx hb dX3_told_131 (lv_at hl 3 rfl) ?_
      refine lv_icmp_ge (tgt := 187) hx hb dX3_told_133 (by decide) (fun c11 => ?_) (fun c11 => ?_)
      · have hf := itP hf c11
        refine lv_iload_n hx hb dX3_told_187 rfl (lv_at hl 1 rfl) ?_
        exact zq_i (u := h) hf hx hb hr hlk hP hD hS (Nat.le_of_ble_eq_true rfl) (Nat.le_of_ble_eq_true rfl) dX3_told_188
      · have hf := ifP hf c11
        refine lv_aload_n hx hb dX3_told_136 rfl (lv_at hl 2 rfl) ?_
        refine lv_iload hx hb dX3_told_137 (lv_at hl 4 rfl) ?_
        refine z_aQ (tz := 1) hf hx hb hK rfl rfl hP dX3_told_139 (fun b12 hf => ?_)
        refine lv_astore (lv' := [(6, .ref b12), (1, .int p1), (2, .int x2), (3, .ref x3), (4, .int x4), (5, .int x5)]) hx hb dX3_told_140 hl (by decide) rfl (fun ls hl => ?_)
        refine lv_iload_n hx hb dX3_told_142 rfl (lv_at hl 2 rfl) ?_
        refine lv_iload_n hx hb dX3_told_143 rfl (lv_at hl 1 rfl) ?_
        refine lv_iconst (v := 4) hx hb dX3_told_144 (by decide) ?_
        refine lv_icmp_ne (tgt := 160) hx hb dX3_told_145 (by decide) (fun c13 => ?_) (fun c13 => ?_)
        · have hf := ifP hf c13
          exact L160 _ ih x2 x3 x4 x5 b12 h _ _ hP hD hS ls (lv_sub hl [1, 3, 4, 5, 0] rfl) hf
        · have hf := itP hf c13
          refine lv_aload hx hb dX3_told_148 (lv_at hl 0 rfl) ?_
          refine z_gI (C := RX2) (T := TX2) (N := 7) hf hx hb hts hin2 hown hK hP rfl (by decide) (hts (.fieldLink RX3 67 "PodGuidewayLaw$Pod" "rider" "I") (List.mem_of_getElem? (i := 5) rfl)) dX3_told_150 (fun v17 hf => ?_)
          refine lv_if_le (tgt := 160) hx hb dX3_told_153 (by decide) (fun c18 => ?_) (fun c18 => ?_)
          · have hf := itP hf c18
            exact L160 _ ih x2 x3 x4 x5 b12 h _ _ hP hD hS ls (lv_sub hl [1, 3, 4, 5, 0] rfl) hf
          · have hf := ifP hf c18
            refine lv_iconst (v := 1) hx hb dX3_told_156 (by decide) ?_
            refine lv_goto (tgt := 179) hx hb dX3_told_157 (by decide) ?_
            refine lv_iadd hx hb dX3_told_179 ?_
            refine lv_istore_n (lv' := [(2, .int (x2 + 1)), (6, .ref b12), (1, .int p1), (3, .ref x3), (4, .int x4), (5, .int x5)]) hx hb dX3_told_180 rfl hl (by decide) rfl (fun ls hl => ?_)
            refine lv_iinc (v := (x5 + 1)) (lv' := [(5, .int (x5 + 1)), (2, .int (x2 + 1)), (6, .ref b12), (1, .int p1), (3, .ref x3), (4, .int x4)]) hx hb dX3_told_181 hl (k := 5) rfl rfl (by decide) rfl (fun ls hl => ?_)
            refine lv_goto (tgt := 129) hx hb dX3_told_184 (by decide) ?_
            exact ih (x2 + 1) x3 x4 (x5 + 1) h _ _ hP hD hS ls (lv_sub hl [3, 1, 4, 5, 0] rfl) hf
  have L84 : ∀ (n : Nat) (x2 : Int32) (x3 : Nat) (x4 : Int32) (x5 : Int32) (h : PH) (H : Heap) (locs : List Loc), va_P D vwCl (hw [] h) H → va_D A (hw [] h) → va_S A s.heap H locs → ∀ ls : Array Slot, lv_has ls 7 [(0, .ref t), (1, .int p1), (2, .int x2), (3, .ref x3), (4, .int x4), (5, .int x5)] → w_X3_told_L84 Z t p1 K n x2 x3 x4 x5 h → W p l e rm_X3_told s m ([.ref t, .int p1] : List Value).toArray below meth c H locs 0 0 (MQ below (QMi D (hw []) K A) ([.ref t, .int p1] : List Value).toArray s 0 0 A) (F0 m 84 ls []) := by
    intro n
    induction n with
    | zero =>
      intro x2 x3 x4 x5 h  H locs hP hD hS ls hl hf
      exact hf.elim
    | succ n ih =>
      intro x2 x3 x4 x5 h  H locs hP hD hS ls hl hf
      rw [w_X3_told_L84] at hf
      refine lv_iload hx hb dX3_told_84 (lv_at hl 5 rfl) ?_
      refine lv_iload hx hb dX3_told_86 (lv_at hl 4 rfl) ?_
      refine lv_icmp_ge (tgt := 117) hx hb dX3_told_88 (by decide) (fun c8 => ?_) (fun c8 => ?_)
      · have hf := itP hf c8
        refine lv_aload_n hx hb dX3_told_117 rfl (lv_at hl 0 rfl) ?_
        refine z_gR (C := RX3) (T := TX3) (N := 8) hf hx hb hts hin3 hown hK hP rfl (by decide) (hts (.fieldLink RX3 24 "PodGuidewayLaw$Sim" "pods" "[LPodGuidewayLaw$Pod;") (List.mem_of_getElem? (i := 4) rfl)) dX3_told_118 (fun b9 hf => ?_)
        refine lv_astore_n (lv' := [(3, .ref b9), (0, .ref t), (1, .int p1), (2, .int x2), (4, .int x4), (5, .int x5)]) hx hb dX3_told_121 rfl hl (by decide) rfl (fun ls hl => ?_)
        refine lv_aload_n hx hb dX3_told_122 rfl (lv_at hl 0 rfl) ?_
        refine z_lQ (tz := 1) hf hx hb hK rfl hP dX3_told_123 (fun v10 hf => ?_)
        refine lv_istore (lv' := [(4, .int v10), (3, .ref b9), (0, .ref t), (1, .int p1), (2, .int x2), (5, .int x5)]) hx hb dX3_told_124 hl (by decide) rfl (fun ls hl => ?_)
        refine lv_iconst (v := 0) hx hb dX3_told_126 (by decide) ?_
        refine lv_istore (lv' := [(5, .int 0), (4, .int v10), (3, .ref b9), (0, .ref t), (1, .int p1), (2, .int x2)]) hx hb dX3_told_127 hl (by decide) rfl (fun ls hl => ?_)
        exact L129 FU x2 b9 v10 0 h _ _ hP hD hS ls (lv_sub hl [4, 5, 2, 1, 0] rfl) hf
      · have hf := ifP hf c8
        refine lv_aload_n hx hb dX3_told_91 rfl (lv_at hl 3 rfl) ?_
        refine lv_iload hx hb dX3_told_92 (lv_at hl 5 rfl) ?_
        refine z_aI hf hx hb hK hP dX3_told_94 (fun v19 hf => ?_)
        refine lv_istore (lv' := [(6, .int v19), (0, .ref t), (1, .int p1), (2, .int x2), (3, .ref x3), (4, .int x4), (5, .int x5)]) hx hb dX3_told_95 hl (by decide) rfl (fun ls hl => ?_)
        refine lv_iload_n hx hb dX3_told_97 rfl (lv_at hl 3 rfl) ?_
        refine lv_iload_n hx hb dX3_told_98 rfl (lv_at hl 2 rfl) ?_
        refine lv_iconst (v := 5) hx hb dX3_told_99 (by decide) ?_
        refine lv_icmp_ne (tgt := 108) hx hb dX3_told_100 (by decide) (fun c20 => ?_) (fun c20 => ?_)
        · have hf := ifP hf c20
          refine lv_iconst (v := 0) hx hb dX3_told_108 (by decide) ?_
          refine lv_iadd hx hb dX3_told_109 ?_
          refine lv_istore_n (lv' := [(2, .int (x2 + 0)), (6, .int v19), (0, .ref t), (1, .int p1), (3, .ref x3), (4, .int x4), (5, .int x5)]) hx hb dX3_told_110 rfl hl (by decide) rfl (fun ls hl => ?_)
          refine lv_iinc (v := (x5 + 1)) (lv' := [(5, .int (x5 + 1)), (2, .int (x2 + 0)), (6, .int v19), (0, .ref t), (1, .int p1), (3, .ref x3), (4, .int x4)]) hx hb dX3_told_111 hl (k := 6) rfl rfl (by decide) rfl (fun ls hl => ?_)
          refine lv_goto (tgt := 84) hx hb dX3_told_114 (by decide) ?_
          exact ih (x2 + 0) x3 x4 (x5 + 1) h _ _ hP hD hS ls (lv_sub hl [3, 4, 1, 5, 6, 0] rfl) hf
        · have hf := itP hf c20
          refine lv_iload hx hb dX3_told_103 (lv_at hl 0 rfl) ?_
          refine lv_goto (tgt := 109) hx hb dX3_told_105 (by decide) ?_
          refine lv_iadd hx hb dX3_told_109 ?_
          refine lv_istore_n (lv' := [(2, .int (x2 + v19)), (6, .int v19), (0, .ref t), (1, .int p1), (3, .ref x3), (4, .int x4), (5, .int x5)]) hx hb dX3_told_110 rfl hl (by decide) rfl (fun ls hl => ?_)
          refine lv_iinc (v := (x5 + 1)) (lv' := [(5, .int (x5 + 1)), (2, .int (x2 + v19)), (6, .int v19), (0, .ref t), (1, .int p1), (3, .ref x3), (4, .int x4)]) hx hb dX3_told_111 hl (k := 6) rfl rfl (by decide) rfl (fun ls hl => ?_)
          refine lv_goto (tgt := 84) hx hb dX3_told_114 (by decide) ?_
          exact ih (x2 + v19) x3 x4 (x5 + 1) h _ _ hP hD hS ls (lv_sub hl [3, 4, 1, 5, 6, 0] rfl) hf
  have L38 : ∀ (n : Nat) (x2 : Int32) (x3 : Nat) (x4 : Int32) (x5 : Int32) (h : PH) (H : Heap) (locs : List Loc), va_P D vwCl (hw [] h) H → va_D A (hw [] h) → va_S A s.heap H locs → ∀ ls : Array Slot, lv_has ls 7 [(0, .ref t), (1, .int p1), (2, .int x2), (3, .ref x3), (4, .int x4), (5, .int x5)] → w_X3_told_L38 Z t p1 K n x2 x3 x4 x5 h → W p l e rm_X3_told s m ([.ref t, .int p1] : List Value).toArray below meth c H locs 0 0 (MQ below (QMi D (hw []) K A) ([.ref t, .int p1] : List Value).toArray s 0 0 A) (F0 m 38 ls []) := by
    intro n
    induction n with
    | zero =>
      intro x2 x3 x4 x5 h  H locs hP hD hS ls hl hf
      exact hf.elim
    | succ n ih =>
      intro x2 x3 x4 x5 h  H locs hP hD hS ls hl hf
      rw [w_X3_told_L38] at hf
      refine lv_iload hx hb dX3_told_38 (lv_at hl 5 rfl) ?_
      refine lv_iload hx hb dX3_told_40 (lv_at hl 4 rfl) ?_
      refine lv_icmp_ge (tgt := 72) hx hb dX3_told_42 (by decide) (fun c5 => ?_) (fun c5 => ?_)
      · have hf := itP hf c5
        refine lv_aload_n hx hb dX3_told_72 rfl (lv_at hl 0 rfl) ?_
        refine z_gR (C := RX3) (T := TX3) (N := 8) hf hx hb hts hin3 hown hK hP rfl (by decide) (hts (.fieldLink RX3 19 "PodGuidewayLaw$Sim" "arrived" "[I") (List.mem_of_getElem? (i := 3) rfl)) dX3_told_73 (fun b6 hf => ?_)
        refine lv_astore_n (lv' := [(3, .ref b6), (0, .ref t), (1, .int p1), (2, .int x2), (4, .int x4), (5, .int x5)]) hx hb dX3_told_76 rfl hl (by decide) rfl (fun ls hl => ?_)
        refine lv_aload_n hx hb dX3_told_77 rfl (lv_at hl 0 rfl) ?_
        refine z_lI hf hx hb hK hP dX3_told_78 (fun v7 hf => ?_)
        refine lv_istore (lv' := [(4, .int v7), (3, .ref b6), (0, .ref t), (1, .int p1), (2, .int x2), (5, .int x5)]) hx hb dX3_told_79 hl (by decide) rfl (fun ls hl => ?_)
        refine lv_iconst (v := 0) hx hb dX3_told_81 (by decide) ?_
        refine lv_istore (lv' := [(5, .int 0), (4, .int v7), (3, .ref b6), (0, .ref t), (1, .int p1), (2, .int x2)]) hx hb dX3_told_82 hl (by decide) rfl (fun ls hl => ?_)
        exact L84 FU x2 b6 v7 0 h _ _ hP hD hS ls (lv_sub hl [3, 4, 5, 2, 1, 0] rfl) hf
      · have hf := ifP hf c5
        refine lv_aload_n hx hb dX3_told_45 rfl (lv_at hl 3 rfl) ?_
        refine lv_iload hx hb dX3_told_46 (lv_at hl 5 rfl) ?_
        refine z_aQ (tz := 3) hf hx hb hK rfl rfl hP dX3_told_48 (fun b21 hf => ?_)
        refine lv_astore (lv' := [(6, .ref b21), (0, .ref t), (1, .int p1), (2, .int x2), (3, .ref x3), (4, .int x4), (5, .int x5)]) hx hb dX3_told_49 hl (by decide) rfl (fun ls hl => ?_)
        refine lv_iload_n hx hb dX3_told_51 rfl (lv_at hl 3 rfl) ?_
        refine lv_iload_n hx hb dX3_told_52 rfl (lv_at hl 2 rfl) ?_
        refine lv_iconst (v := 3) hx hb dX3_told_53 (by decide) ?_
        refine lv_icmp_ne (tgt := 63) hx hb dX3_told_54 (by decide) (fun c22 => ?_) (fun c22 => ?_)
        · have hf := ifP hf c22
          refine lv_iconst (v := 0) hx hb dX3_told_63 (by decide) ?_
          refine lv_iadd hx hb dX3_told_64 ?_
          refine lv_istore_n (lv' := [(2, .int (x2 + 0)), (6, .ref b21), (0, .ref t), (1, .int p1), (3, .ref x3), (4, .int x4), (5, .int x5)]) hx hb dX3_told_65 rfl hl (by decide) rfl (fun ls hl => ?_)
          refine lv_iinc (v := (x5 + 1)) (lv' := [(5, .int (x5 + 1)), (2, .int (x2 + 0)), (6, .ref b21), (0, .ref t), (1, .int p1), (3, .ref x3), (4, .int x4)]) hx hb dX3_told_66 hl (k := 6) rfl rfl (by decide) rfl (fun ls hl => ?_)
          refine lv_goto (tgt := 38) hx hb dX3_told_69 (by decide) ?_
          exact ih (x2 + 0) x3 x4 (x5 + 1) h _ _ hP hD hS ls (lv_sub hl [3, 4, 1, 5, 6, 0] rfl) hf
        · have hf := itP hf c22
          refine lv_aload hx hb dX3_told_57 (lv_at hl 0 rfl) ?_
          refine z_lQ (tz := 2) hf hx hb hK rfl hP dX3_told_59 (fun v23 hf => ?_)
          refine lv_goto (tgt := 64) hx hb dX3_told_60 (by decide) ?_
          refine lv_iadd hx hb dX3_told_64 ?_
          refine lv_istore_n (lv' := [(2, .int (x2 + v23)), (6, .ref b21), (0, .ref t), (1, .int p1), (3, .ref x3), (4, .int x4), (5, .int x5)]) hx hb dX3_told_65 rfl hl (by decide) rfl (fun ls hl => ?_)
          refine lv_iinc (v := (x5 + 1)) (lv' := [(5, .int (x5 + 1)), (2, .int (x2 + v23)), (6, .ref b21), (0, .ref t), (1, .int p1), (3, .ref x3), (4, .int x4)]) hx hb dX3_told_66 hl (k := 6) rfl rfl (by decide) rfl (fun ls hl => ?_)
          refine lv_goto (tgt := 38) hx hb dX3_told_69 (by decide) ?_
          exact ih (x2 + v23) x3 x4 (x5 + 1) h _ _ hP hD hS ls (lv_sub hl [3, 4, 1, 5, 6, 0] rfl) hf
  have L25 : ∀ (y0 : Int32) (h : PH) (H : Heap) (locs : List Loc), va_P D vwCl (hw [] h) H → va_D A (hw [] h) → va_S A s.heap H locs → ∀ ls : Array Slot, lv_has ls 7 [(0, .ref t), (1, .int p1)] → w_X3_told_L25 Z t p1 K y0 h → W p l e rm_X3_told s m ([.ref t, .int p1] : List Value).toArray below meth c H locs 0 0 (MQ below (QMi D (hw []) K A) ([.ref t, .int p1] : List Value).toArray s 0 0 A) (F0 m 25 ls [.int y0]) := by
    intro y0 h H locs hP hD hS ls hl hf
    unfold w_X3_told_L25 at hf
    refine lv_istore_n (lv' := [(2, .int y0), (0, .ref t), (1, .int p1)]) hx hb dX3_told_25 rfl hl (by decide) rfl (fun ls hl => ?_)
    refine lv_aload_n hx hb dX3_told_26 rfl (lv_at hl 1 rfl) ?_
    refine z_gR (C := RX3) (T := TX3) (N := 8) hf hx hb hts hin3 hown hK hP rfl (by decide) (hts (.fieldLink RX3 15 "PodGuidewayLaw$Sim" "waits" "[[[I") (List.mem_of_getElem? (i := 2) rfl)) dX3_told_27 (fun b3 hf => ?_)
    refine lv_astore_n (lv' := [(3, .ref b3), (2, .int y0), (0, .ref t), (1, .int p1)]) hx hb dX3_told_30 rfl hl (by decide) rfl (fun ls hl => ?_)
    refine lv_aload_n hx hb dX3_told_31 rfl (lv_at hl 0 rfl) ?_
    refine z_lQ (tz := 3) hf hx hb hK rfl hP dX3_told_32 (fun v4 hf => ?_)
    refine lv_istore (lv' := [(4, .int v4), (3, .ref b3), (2, .int y0), (0, .ref t), (1, .int p1)]) hx hb dX3_told_33 hl (by decide) rfl (fun ls hl => ?_)
    refine lv_iconst (v := 0) hx hb dX3_told_35 (by decide) ?_
    refine lv_istore (lv' := [(5, .int 0), (4, .int v4), (3, .ref b3), (2, .int y0), (0, .ref t), (1, .int p1)]) hx hb dX3_told_36 hl (by decide) rfl (fun ls hl => ?_)
    exact L38 FU y0 b3 v4 0 h _ _ hP hD hS ls (lv_sub hl [4, 5, 3, 2, 1, 0] rfl) hf
  unfold w_X3_told at hf
  refine lv_iload_n hx hb dX3_told_0 rfl (lv_at hl 1 rfl) ?_
  refine lv_bipush (v := 7) hx hb dX3_told_1 (by decide) ?_
  refine lv_icmp_ne (tgt := 13) hx hb dX3_told_3 (by decide) (fun c1 => ?_) (fun c1 => ?_)
  · have hf := ifP hf c1
    refine lv_iload_n hx hb dX3_told_13 rfl (lv_at hl 1 rfl) ?_
    refine lv_bipush (v := 6) hx hb dX3_told_14 (by decide) ?_
    refine lv_icmp_ne (tgt := 24) hx hb dX3_told_16 (by decide) (fun c2 => ?_) (fun c2 => ?_)
    · have hf := ifP hf c2
      refine lv_iconst (v := 0) hx hb dX3_told_24 (by decide) ?_
      exact L25 0 h _ _ hP hD hS ls (lv_sub hl [0, 1] rfl) hf
    · have hf := itP hf c2
      refine lv_bipush (v := 24) hx hb dX3_told_19 (by decide) ?_
      refine lv_goto (tgt := 25) hx hb dX3_told_21 (by decide) ?_
      exact L25 24 h _ _ hP hD hS ls (lv_sub hl [0, 1] rfl) hf
  · have hf := itP hf c1
    refine lv_aload_n hx hb dX3_told_6 rfl (lv_at hl 0 rfl) ?_
    refine z_gI (C := RX3) (T := TX3) (N := 8) hf hx hb hts hin3 hown hK hP rfl (by decide) (hts (.fieldLink RX3 45 "PodGuidewayLaw$Sim" "answered" "I") (List.mem_of_getElem? (i := 1) rfl)) dX3_told_7 (fun v24 hf => ?_)
    refine lv_goto (tgt := 25) hx hb dX3_told_10 (by decide) ?_
    exact L25 v24 h _ _ hP hD hS ls (lv_sub hl [0, 1] rfl) hf

