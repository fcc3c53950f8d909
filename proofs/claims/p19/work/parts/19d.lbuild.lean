def w_L_build_L56 (Z : Nat → ClassId) (L : Nat) (xs : Nat → Int32) (κ10 : Nat → Int32 → RS → RS → PH → Prop) (K : Option Nat → WX → Prop) (y0 : Int32) (y1 : Int32) (y2 : Nat) (x2 : Nat) (x3 : Int32) (S : RS) (T : RS) (h : PH) : Prop :=
  w_L_act Z y2 (y1 + y0) (fun v12 u11 =>
    if v12 = 0 then
      K none (u11.1, u11.2.1, u11.2.2)
    else
      if x3 ≤ 12 then
        κ10 x2 (x3 + 1) u11.1 u11.2.1 u11.2.2
      else
        if (x3 - x3 / 3 * 3) = 0 then
          okP3 (f_X1_pass u11.1 u11.2.1 1) fun v17 S18 T19 =>
          rc3 u11.2.2 x2 ∧ w_X3_pass Z x2 (fun v21 h20 =>
            if v17 = v21 then
              κ10 x2 (x3 + 1) S18 T19 h20
            else
              K none (S18, T19, h20)) u11.2.2
        else
          κ10 x2 (x3 + 1) u11.1 u11.2.1 u11.2.2) (S, T, h)
def w_L_build_L10 (Z : Nat → ClassId) (L : Nat) (xs : Nat → Int32)  (K : Option Nat → WX → Prop) : Nat → Nat → Int32 → RS → RS → PH → Prop
  | 0, _, _, _, _, _ => False
  | n + 1, x2, x3, S, T, h =>
    if 36 ≤ x3 then
      K (some x2) (S, T, h)
    else
      obP (f_L_cell L xs (x3 - x3 / 16 * 16)) fun v5 =>
      if 10 ≤ x3 then
        w_L_build_L56 Z L xs (fun x2 x3 S T h => w_L_build_L10 Z L xs K n x2 x3 S T h) K 0 ((v5 >>> (((x3 / 16) * 4) &&& 31)) + (281 * x3)) x2 x2 x3 S T h
      else
        w_L_build_L56 Z L xs (fun x2 x3 S T h => w_L_build_L10 Z L xs K n x2 x3 S T h) K (512 * (x3 - x3 / 2 * 2)) ((v5 >>> (((x3 / 16) * 4) &&& 31)) + (281 * x3)) x2 x2 x3 S T h
def wf_L_build (Z : Nat → ClassId) (L : Nat) (xs : Nat → Int32) (K : Option Nat → WX → Prop) (S T : RS) (h : PH) : Prop :=
  nO h 3 [.null, .null, .null, .null, .int 0, .int 0, .int 0, .int 0] fun b1 h2 =>
  w_X3_init Z b1 (fun h3 =>
    w_L_build_L10 Z L xs K 40 b1 0 S T h3) h2
def w_L_build (Z : Nat → ClassId) (L : Nat) (xs : Nat → Int32) (K : Option Nat → WX → Prop) (u0 : WX) : Prop := wf_L_build Z L xs K u0.1 u0.2.1 u0.2.2
abbrev rm_L_build : Room := { frames := 10, cells := 1765, slots := 13568, locals := 186 }
theorem hds_L_build : yL_build.cls ≠ "java/lang/invoke/MethodHandle" ∧ yL_build.cls ≠ "java/lang/invoke/VarHandle" ∧ (parseMethodDescriptor yL_build.desc).map (fun d => d.parameters.length) = some 2 := by decide +kernel
set_option maxHeartbeats 4000000 in
set_option maxRecDepth 100000 in
theorem m_L_build (l : Launch) (D : va_G) (Z : Nat → ClassId) (o : Nat) (a b : Nat → Nat) (bs L : Nat) (xs : Nat → Int32)  (K : Option Nat → WX → Prop) (u0 : WX) (hf : w_L_build Z L xs K u0) : PMq (owx Z o a b) l yL_build wsL_build rm_L_build D Z (sE bs L xs) [.ref o, .ref bs] (owx Z o a b u0) K 1765 13568 := by
  obtain ⟨S, T, h⟩ := u0
  refine PMq.of (cc := cL_build) (nL := 4) (ret := (some (.object "PodGuidewayLaw$Sim"))) (by decide +kernel) rfl (Nat.le_of_ble_eq_true rfl) ?_
  intro p e s m below meth c A hC hE hA hP hK hD hS ls hl
  obtain ⟨hx, hb, hr, hml, hown, hts, hlk, -⟩ := hC
  have hown : s.vm.findClass RL = some m.cls := hown
  have hO := hE.1.2
  have hin2 : ∀ w ∈ wsX20, w ∈ wsL_build := fun w h => List.mem_cons_of_mem _ (List.mem_append_left _ (List.mem_append_left _ (List.mem_append_left _ (List.mem_append_left _ (List.mem_append_left _ (List.mem_append_right _ h))))))
  have hin3 : ∀ w ∈ wsX30, w ∈ wsL_build := fun w h => List.mem_cons_of_mem _ (List.mem_append_left _ (List.mem_append_left _ (List.mem_append_left _ (List.mem_append_left _ (List.mem_append_left _ (List.mem_append_left _ (List.mem_append_right _ h)))))))
  have hP : va_P D vwCl (hw (owl Z o a b S T) h) s.heap := hP
  have hD : va_D A (hw (owl Z o a b S T) h) := hD
  have hl : lv_has ls 4 [(0, .ref o), (1, .ref bs)] := hl
  have L56 : ∀ (rc rs : Nat), ∀ (κ10 : Nat → Int32 → RS → RS → PH → Prop), (∀ (x2 : Nat) (x3 : Int32) (S : RS) (T : RS) (h : PH) (cc sc : Nat) (H : Heap) (locs : List Loc), cc + (rc) ≤ 1765 → sc + (rs) ≤ 13568 → va_P D vwCl (hw (owl Z o a b S T) h) H → va_D A (hw (owl Z o a b S T) h) → va_S A s.heap H locs → ∀ ls : Array Slot, lv_has ls 4 [(0, .ref o), (1, .ref bs), (2, .ref x2), (3, .int x3)] → κ10 x2 x3 S T h → W p l e rm_L_build s m ([.ref o, .ref bs] : List Value).toArray below meth c H locs cc sc (MQ below (QMq D (owx Z o a b) K A) ([.ref o, .ref bs] : List Value).toArray s 1765 13568 A) (F0 m 10 ls [])) → ∀ (y0 : Int32) (y1 : Int32) (y2 : Nat) (x2 : Nat) (x3 : Int32) (S : RS) (T : RS) (h : PH) (cc sc : Nat) (H : Heap) (locs : List Loc), cc + (44 + rc) ≤ 1765 → sc + (339 + rs) ≤ 13568 → va_P D vwCl (hw (owl Z o a b S T) h) H → va_D A (hw (owl Z o a b S T) h) → va_S A s.heap H locs → ∀ ls : Array Slot, lv_has ls 4 [(0, .ref o), (1, .ref bs), (2, .ref x2), (3, .int x3)] → w_L_build_L56 Z L xs κ10 K y0 y1 y2 x2 x3 S T h → W p l e rm_L_build s m ([.ref o, .ref bs] : List Value).toArray below meth c H locs cc sc (MQ below (QMq D (owx Z o a b) K A) ([.ref o, .ref bs] : List Value).toArray s 1765 13568 A) (F0 m 56 ls [.int y0, .int y1, .ref y2, .ref o]) := by
    intro rc rs κ10 hκ10 y0 y1 y2 x2 x3 S T h cc sc H locs hcc hsc hP hD hS ls hl hf
    unfold w_L_build_L56 at hf
    refine lv_iadd hx hb dL_build_56 ?_
    refine zk_i0 (z_SG (w0 := owx Z o a b (S, T, h)) (As := [.ref o, .ref y2, .int (y1 + y0)]) (rest := []) pE_ok hE.1 hS hA ⟨hx, hb, hml, hown, hts⟩ (m_L_act l D Z o a b y2 (y1 + y0) _ (S, T, h) hf) gL_build_L_act rfl rfl rfl hds_L_act ⟨Nat.le_of_ble_eq_true rfl, Nat.le_of_ble_eq_true rfl⟩ hK hP hD rfl hl.1 rfl (Nat.le_of_ble_eq_true rfl) dL_build_57 ⟨(show cc + 4 ≤ 1765 from by omega), (show sc + 19 ≤ 13568 from by omega)⟩) hD hS hA (fun v12 u11 H locs hf hP hD hS => ?_)
    have hP : va_P D vwCl (hw (owl Z o a b u11.1 u11.2.1) u11.2.2) H := hP
    have hD : va_D A (hw (owl Z o a b u11.1 u11.2.1) u11.2.2) := hD
    refine lv_if_ne (tgt := 65) hx hb dL_build_60 (by decide) (fun c13 => ?_) (fun c13 => ?_)
    · have hf := ifP hf c13
      refine lv_iload_n hx hb dL_build_65 rfl (lv_at hl 3 rfl) ?_
      refine lv_bipush (v := 12) hx hb dL_build_66 (by decide) ?_
      refine lv_icmp_le (tgt := 91) hx hb dL_build_68 (by decide) (fun c14 => ?_) (fun c14 => ?_)
      · have hf := itP hf c14
        refine lv_iinc (v := (x3 + 1)) (lv' := [(3, .int (x3 + 1)), (0, .ref o), (1, .ref bs), (2, .ref x2)]) hx hb dL_build_91 hl (k := 3) rfl rfl (by decide) rfl (fun ls hl => ?_)
        refine lv_goto (tgt := 10) hx hb dL_build_94 (by decide) ?_
        exact hκ10 x2 (x3 + 1) u11.1 u11.2.1 u11.2.2 (cc + 4) (sc + 19) _ _ (by omega) (by omega) hP hD hS ls (lv_sub hl [1, 2, 3, 0] rfl) hf
      · have hf := ifP hf c14
        refine lv_iload_n hx hb dL_build_71 rfl (lv_at hl 3 rfl) ?_
        refine lv_iconst (v := 3) hx hb dL_build_72 (by decide) ?_
        refine lv_irem hx hb dL_build_73 (by decide) ?_
        refine lv_if_ne (tgt := 91) hx hb dL_build_74 (by decide) (fun c15 => ?_) (fun c15 => ?_)
        · have hf := ifP hf c15
          refine lv_iinc (v := (x3 + 1)) (lv' := [(3, .int (x3 + 1)), (0, .ref o), (1, .ref bs), (2, .ref x2)]) hx hb dL_build_91 hl (k := 3) rfl rfl (by decide) rfl (fun ls hl => ?_)
          refine lv_goto (tgt := 10) hx hb dL_build_94 (by decide) ?_
          exact hκ10 x2 (x3 + 1) u11.1 u11.2.1 u11.2.2 (cc + 4) (sc + 19) _ _ (by omega) (by omega) hP hD hS ls (lv_sub hl [1, 2, 3, 0] rfl) hf
        · have hf := itP hf c15
          refine lv_aload_n hx hb dL_build_77 rfl (lv_at hl 0 rfl) ?_
          refine lv_iconst (v := 1) hx hb dL_build_78 (by decide) ?_
          obtain ⟨v17, S18, T19, hv16, hf⟩ := hf
          refine zk_ci (z_VG (As := [.int 1]) (rest := []) (q0 := 0) (ci := 1) xE_ok hE.1.1 hS hA ⟨hx, hb, hml, hown, hts⟩ (ok_X1_pass l D Z o a b u11.1 u11.2.1 1 v17 S18 T19 hv16) gL_build_X1_pass rfl rfl rfl hdv_X1_pass ⟨Nat.le_of_ble_eq_true rfl, Nat.le_of_ble_eq_true rfl⟩ hK (hw_X hP) (hw_XD hD) rfl rfl rfl rfl hl.1 rfl (Nat.le_of_ble_eq_true rfl) dL_build_79 ⟨(show (cc + 4) + 0 ≤ 1765 from by omega), (show (sc + 19) + 0 ≤ 13568 from by omega)⟩) hP hD hS hA (fun H locs hP hD hS => ?_)
          refine lv_aload_n hx hb dL_build_82 rfl (lv_at hl 2 rfl) ?_
          obtain ⟨hrc3, hf⟩ := hf
          refine zk_i hwX_owl (z_VP (As := []) (rest := [.int v17]) hrc3 pE_ok hE.1 hS hA ⟨hx, hb, hml, hown, hts⟩ (m_X3_pass l D Z x2 _ u11.2.2 hf) gL_build_X3_pass rfl rfl rfl hdv_X3_pass ⟨Nat.le_of_ble_eq_true rfl, Nat.le_of_ble_eq_true rfl⟩ hK hP hD rfl hl.1 rfl (Nat.le_of_ble_eq_true rfl) dL_build_83 ⟨(show (cc + 4) + 40 ≤ 1765 from by omega), (show (sc + 19) + 320 ≤ 13568 from by omega)⟩) hP hD hS hA (fun v21 h20 H locs hf hP hD hS => ?_)
          refine lv_icmp_eq (tgt := 91) hx hb dL_build_86 (by decide) (fun c22 => ?_) (fun c22 => ?_)
          · have hf := itP hf c22
            refine lv_iinc (v := (x3 + 1)) (lv' := [(3, .int (x3 + 1)), (0, .ref o), (1, .ref bs), (2, .ref x2)]) hx hb dL_build_91 hl (k := 3) rfl rfl (by decide) rfl (fun ls hl => ?_)
            refine lv_goto (tgt := 10) hx hb dL_build_94 (by decide) ?_
            exact hκ10 x2 (x3 + 1) S18 T19 h20 (cc + 44) (sc + 339) _ _ (by omega) (by omega) hP hD hS ls (lv_sub hl [1, 2, 3, 0] rfl) hf
          · have hf := ifP hf c22
            refine lv_null hx hb dL_build_89 ?_
            exact zq_q (v := none) (u := (S18, T19, h20)) hf hx hb hr (Or.inl ⟨_, rfl⟩) hlk hP hD hS (show (cc + 44) ≤ 1765 from by omega) (show (sc + 339) ≤ 13568 from by omega) dL_build_90
    · have hf := itP hf c13
      refine lv_null hx hb dL_build_63 ?_
      exact zq_q (v := none) (u := (u11.1, u11.2.1, u11.2.2)) hf hx hb hr (Or.inl ⟨_, rfl⟩) hlk hP hD hS (show (cc + 4) ≤ 1765 from by omega) (show (sc + 19) ≤ 13568 from by omega) dL_build_64
  have L10 : ∀ (n : Nat) (x2 : Nat) (x3 : Int32) (S : RS) (T : RS) (h : PH) (cc sc : Nat) (H : Heap) (locs : List Loc), cc + (44 * n + 0) ≤ 1765 → sc + (339 * n + 0) ≤ 13568 → va_P D vwCl (hw (owl Z o a b S T) h) H → va_D A (hw (owl Z o a b S T) h) → va_S A s.heap H locs → ∀ ls : Array Slot, lv_has ls 4 [(0, .ref o), (1, .ref bs), (2, .ref x2), (3, .int x3)] → w_L_build_L10 Z L xs K n x2 x3 S T h → W p l e rm_L_build s m ([.ref o, .ref bs] : List Value).toArray below meth c H locs cc sc (MQ below (QMq D (owx Z o a b) K A) ([.ref o, .ref bs] : List Value).toArray s 1765 13568 A) (F0 m 10 ls []) := by
    intro n
    induction n with
    | zero =>
      intro x2 x3 S T h cc sc  H locs hcc hsc hP hD hS ls hl hf
      exact hf.elim
    | succ n ih =>
      intro x2 x3 S T h cc sc  H locs hcc hsc hP hD hS ls hl hf
      rw [w_L_build_L10] at hf
      refine lv_iload_n hx hb dL_build_10 rfl (lv_at hl 3 rfl) ?_
      refine lv_bipush (v := 36) hx hb dL_build_11 (by decide) ?_
      refine lv_icmp_ge (tgt := 97) hx hb dL_build_13 (by decide) (fun c4 => ?_) (fun c4 => ?_)
      · have hf := itP hf c4
        refine lv_aload_n hx hb dL_build_97 rfl (lv_at hl 2 rfl) ?_
        exact zq_q (v := (some x2)) (u := (S, T, h)) hf hx hb hr (Or.inl ⟨_, rfl⟩) hlk hP hD hS (show cc ≤ 1765 from by omega) (show sc ≤ 13568 from by omega) dL_build_98
      · have hf := ifP hf c4
        refine lv_aload_n hx hb dL_build_16 rfl (lv_at hl 0 rfl) ?_
        refine lv_aload_n hx hb dL_build_17 rfl (lv_at hl 2 rfl) ?_
        refine lv_aload_n hx hb dL_build_18 rfl (lv_at hl 1 rfl) ?_
        refine lv_iload_n hx hb dL_build_19 rfl (lv_at hl 3 rfl) ?_
        refine lv_bipush (v := 16) hx hb dL_build_20 (by decide) ?_
        refine lv_irem hx hb dL_build_22 (by decide) ?_
        obtain ⟨v5, hv6, hf⟩ := hf
        refine zc_i (z_SG (w0 := []) (As := [.ref bs, .int (x3 - x3 / 16 * 16)]) (rest := [.ref x2, .ref o]) sE_ok hE hS hA ⟨hx, hb, hml, hown, hts⟩ (m_L_cell l D Z bs L xs (x3 - x3 / 16 * 16) v5 hv6) gL_build_L_cell rfl rfl rfl hds_L_cell ⟨Nat.le_of_ble_eq_true rfl, Nat.le_of_ble_eq_true rfl⟩ hK z_nilP (A := A) z_nilD rfl hl.1 rfl (Nat.le_of_ble_eq_true rfl) dL_build_23 ⟨(show cc + 0 ≤ 1765 from by omega), (show sc + 0 ≤ 13568 from by omega)⟩) hP hS hA (fun H locs hP hS => ?_)
        refine lv_iload_n hx hb dL_build_26 rfl (lv_at hl 3 rfl) ?_
        refine lv_bipush (v := 16) hx hb dL_build_27 (by decide) ?_
        refine lv_idiv hx hb dL_build_29 (by decide) ?_
        refine lv_iconst (v := 4) hx hb dL_build_30 (by decide) ?_
        refine lv_imul hx hb dL_build_31 ?_
        refine lv_ishr hx hb dL_build_32 ?_
        refine lv_sipush (v := 281) hx hb dL_build_33 (by decide) ?_
        refine lv_iload_n hx hb dL_build_36 rfl (lv_at hl 3 rfl) ?_
        refine lv_imul hx hb dL_build_37 ?_
        refine lv_iadd hx hb dL_build_38 ?_
        refine lv_iload_n hx hb dL_build_39 rfl (lv_at hl 3 rfl) ?_
        refine lv_bipush (v := 10) hx hb dL_build_40 (by decide) ?_
        refine lv_icmp_ge (tgt := 55) hx hb dL_build_42 (by decide) (fun c7 => ?_) (fun c7 => ?_)
        · have hf := itP hf c7
          refine lv_iconst (v := 0) hx hb dL_build_55 (by decide) ?_
          exact L56 (44 * n + 0) (339 * n + 0) _ ih 0 ((v5 >>> (((x3 / 16) * 4) &&& 31)) + (281 * x3)) x2 x2 x3 S T h cc sc _ _ (by omega) (by omega) hP hD hS ls (lv_sub hl [0, 1, 2, 3] rfl) hf
        · have hf := ifP hf c7
          refine lv_sipush (v := 512) hx hb dL_build_45 (by decide) ?_
          refine lv_iload_n hx hb dL_build_48 rfl (lv_at hl 3 rfl) ?_
          refine lv_iconst (v := 2) hx hb dL_build_49 (by decide) ?_
          refine lv_irem hx hb dL_build_50 (by decide) ?_
          refine lv_imul hx hb dL_build_51 ?_
          refine lv_goto (tgt := 56) hx hb dL_build_52 (by decide) ?_
          exact L56 (44 * n + 0) (339 * n + 0) _ ih (512 * (x3 - x3 / 2 * 2)) ((v5 >>> (((x3 / 16) * 4) &&& 31)) + (281 * x3)) x2 x2 x3 S T h cc sc _ _ (by omega) (by omega) hP hD hS ls (lv_sub hl [0, 1, 2, 3] rfl) hf
  unfold w_L_build wf_L_build at hf
  dsimp only at hf
  refine z_nO (C := RX3) (T := TX3) (N := 8) (ty := tyX3) hf hx hb hts hin3 tyX3_ok hown (hts (.classLink RL 10 RX3) (List.mem_of_getElem? (i := 1) rfl)) (hts (.instantiable RX3 8) (List.mem_of_getElem? (i := 2) rfl)) (hts (.initialized RX3) (List.mem_of_getElem? (i := 3) rfl)) hK hP hD hS hA rfl (by decide) (show 0 + 1 ≤ 1765 from by omega) (show 0 + 8 ≤ 13568 from by omega) dL_build_0 (fun b1 h2 H hf hP hD hS => ?_)
  refine lv_dup hx hb dL_build_3 rfl ?_
  refine zk_v hwX_owl (z_IN (w0 := hw [] h2) (As := []) (rest := [.ref b1]) pE_ok hE.1 hS hA ⟨hx, hb, hml, hown, hts⟩ (m_X3_init l D Z b1 _ h2 hf) gL_build_X3_init_n70 rfl rfl rfl rfl hO.2.2.2.2 (hts (.initialized RX3) (List.mem_of_getElem? (i := 3) rfl)) (hts (.instanceMethod yX3_init) (List.mem_of_getElem? (i := 4) rfl)) hdi_X3_init ⟨Nat.le_of_ble_eq_true rfl, Nat.le_of_ble_eq_true rfl⟩ hK (hw_pl hP) (hw_plD hD) rfl hl.1 rfl (Nat.le_of_ble_eq_true rfl) dL_build_4 ⟨(show 1 + 4 ≤ 1765 from by omega), (show 8 + 0 ≤ 13568 from by omega)⟩) hP hD hS hA (fun h3 H locs hf hP hD hS => ?_)
  refine lv_astore_n (lv' := [(2, .ref b1), (0, .ref o), (1, .ref bs)]) hx hb dL_build_7 rfl hl (by decide) rfl (fun ls hl => ?_)
  refine lv_iconst (v := 0) hx hb dL_build_8 (by decide) ?_
  refine lv_istore_n (lv' := [(3, .int 0), (2, .ref b1), (0, .ref o), (1, .ref bs)]) hx hb dL_build_9 rfl hl (by decide) rfl (fun ls hl => ?_)
  exact L10 40 b1 0 S T h3 5 8 _ _ (by omega) (by omega) hP hD hS ls (lv_sub hl [2, 3, 1, 0] rfl) hf

