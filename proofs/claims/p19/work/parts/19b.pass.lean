def w_X3_pass_L603 (Z : Nat → ClassId) (t : Nat) (κ578 : Int32 → Nat → Int32 → Int32 → PH → Prop) (K : Int32 → PH → Prop) : Nat → Int32 → Nat → Int32 → Int32 → Nat → Int32 → Int32 → PH → Prop
  | 0, _, _, _, _, _, _, _, _ => False
  | n + 1, x1, x3, x4, x5, x7, x8, x9, h =>
    if x8 ≤ x9 then
      κ578 x1 x3 x4 (x5 + 1) h
    else
      ldQ Z h 2 x7 x9 fun b18 =>
      ldI Z h b18 1 fun v19 =>
      sA Z h b18 1 (v19 + 1) fun h20 =>
      w_X3_pass_L603 Z t κ578 K n x1 x3 x4 x5 x7 x8 (x9 + 1) h20
def w_X3_pass_L578 (Z : Nat → ClassId) (t : Nat)  (K : Int32 → PH → Prop) : Nat → Int32 → Nat → Int32 → Int32 → PH → Prop
  | 0, _, _, _, _, _ => False
  | n + 1, x1, x3, x4, x5, h =>
    if x4 ≤ x5 then
      gI h 3 4 t fun v13 =>
      pV h 3 4 t (.int (v13 + 1)) fun h14 =>
      K x1 h14
    else
      ldQ Z h 3 x3 x5 fun b15 =>
      lQ Z h 2 b15 fun v16 =>
      w_X3_pass_L603 Z t (fun x1 x3 x4 x5 h => w_X3_pass_L578 Z t K n x1 x3 x4 x5 h) K FU x1 x3 x4 x5 b15 v16 0 h
def w_X3_pass_L490 (Z : Nat → ClassId) (t : Nat) (κ454 : Int32 → Int32 → Int32 → Int32 → PH → Prop) (K : Int32 → PH → Prop) : Nat → Int32 → Int32 → Int32 → Int32 → Nat → Int32 → Int32 → PH → Prop
  | 0, _, _, _, _, _, _, _, _ => False
  | n + 1, x1, x2, x3, x4, x5, x6, x7, h =>
    if x4 ≤ x7 then
      if x6 = 0 then
        κ454 x1 x2 x3 (x4 + (-1)) h
      else
        gR h 3 0 t fun b34 =>
        ldI Z h b34 x3 fun v35 =>
        pV h 2 0 x5 (.int v35) fun h36 =>
        κ454 x1 x2 x3 (x4 + (-1)) h36
    else
      if x6 = 0 then
        w_X3_pass_L490 Z t κ454 K n x1 x2 x3 x4 x5 0 (x7 + 1) h
      else
        rc3 h t ∧ w_X3_in Z t x3 x7 (fun r39 h38 =>
          opm r39 (
            w_X3_pass_L490 Z t κ454 K n x1 x2 x3 x4 x5 1 (x7 + 1) h38) (fun b40 =>
            rc3 h38 t ∧ w_X3_in Z t x3 x7 (fun r42 h41 =>
              opm r42 (
                False) (fun b43 =>
                gI h41 2 3 b43 fun v44 =>
                if 0 ≤ v44 then
                  w_X3_pass_L490 Z t κ454 K n x1 x2 x3 x4 x5 0 (x7 + 1) h41
                else
                  w_X3_pass_L490 Z t κ454 K n x1 x2 x3 x4 x5 1 (x7 + 1) h41)) h38)) h
def w_X3_pass_L454 (Z : Nat → ClassId) (t : Nat) (κ430 : Int32 → Int32 → Int32 → PH → Prop) (K : Int32 → PH → Prop) : Nat → Int32 → Int32 → Int32 → Int32 → PH → Prop
  | 0, _, _, _, _, _ => False
  | n + 1, x1, x2, x3, x4, h =>
    if x4 < 0 then
      κ430 x1 x2 (x3 + 1) h
    else
      rc3 h t ∧ w_X3_in Z t x3 x4 (fun r28 h27 =>
        opm r28 (
          w_X3_pass_L454 Z t κ430 K n x1 x2 x3 (x4 + (-1)) h27) (fun b29 =>
          gI h27 2 3 b29 fun v30 =>
          if 0 ≤ v30 then
            w_X3_pass_L490 Z t (fun x1 x2 x3 x4 h => w_X3_pass_L454 Z t κ430 K n x1 x2 x3 x4 h) K FU x1 x2 x3 x4 b29 1 0 h27
          else
            w_X3_pass_L454 Z t κ430 K n x1 x2 x3 (x4 + (-1)) h27)) h
def w_X3_pass_L430 (Z : Nat → ClassId) (t : Nat)  (K : Int32 → PH → Prop) : Nat → Int32 → Int32 → Int32 → PH → Prop
  | 0, _, _, _, _ => False
  | n + 1, x1, x2, x3, h =>
    if x2 ≤ x3 then
      gR h 3 1 t fun b10 =>
      lQ Z h 3 b10 fun v11 =>
      w_X3_pass_L578 Z t K FU x1 b10 v11 0 h
    else
      gR h 3 0 t fun b21 =>
      ldI Z h b21 x3 fun v22 =>
      rc3 h t ∧ w_X3_slot Z t v22 (fun r24 h23 =>
        opm r24 (
          w_X3_pass_L454 Z t (fun x1 x2 x3 h => w_X3_pass_L430 Z t K n x1 x2 x3 h) K FU x1 x2 x3 2 h23) (fun b25 =>
          w_X3_pass_L430 Z t K n x1 x2 (x3 + 1) h23)) h
def w_X3_pass_L368 (Z : Nat → ClassId) (t : Nat)  (K : Int32 → PH → Prop) : Nat → Int32 → Int32 → Int32 → PH → Prop
  | 0, _, _, _, _ => False
  | n + 1, x1, x2, x3, h =>
    if x2 ≤ x3 then
      w_X3_pass_L430 Z t K FU x1 x2 0 h
    else
      gR h 3 1 t fun b46 =>
      ldQ Z h 3 b46 x3 fun b47 =>
      lQ Z h 2 b47 fun v48 =>
      rc3 h t ∧ w_X3_coming Z t x3 (fun v50 h49 =>
        if v48 ≤ v50 then
          w_X3_pass_L368 Z t K n x1 x2 (x3 + 1) h49
        else
          rc3 h49 t ∧ w_X3_answer Z t x3 (fun v53 h52 =>
            if 0 ≤ v53 then
              rc3 h52 t ∧ w_X3_answer Z t x3 (fun v56 h55 =>
                rc3 h55 t ∧ w_X3_idle Z t v56 (fun r58 h57 =>
                  opm r58 (
                    False) (fun b59 =>
                    pV h57 2 3 b59 (.int x3) fun h60 =>
                    gI h60 3 5 t fun v61 =>
                    pV h60 3 5 t (.int (v61 + 1)) fun h62 =>
                    w_X3_pass_L368 Z t K n x1 x2 (x3 + 1) h62)) h55) h52
            else
              w_X3_pass_L368 Z t K n x1 x2 (x3 + 1) h52) h49) h
def w_X3_pass_L312 (Z : Nat → ClassId) (t : Nat) (κ237 : Int32 → Int32 → Int32 → Option Nat → PH → Prop) (K : Int32 → PH → Prop) : Nat → Int32 → Int32 → Int32 → Nat → Int32 → PH → Prop
  | 0, _, _, _, _, _, _ => False
  | n + 1, x1, x2, x3, x6, x7, h =>
    lQ Z h 2 x6 fun v86 =>
    if v86 ≤ x7 then
      gR h 3 1 t fun b88 =>
      sQ3 Z h b88 x3 x6 fun h89 =>
      rc3 h89 t ∧ w_X3_idle Z t x3 (fun r91 h90 =>
        opm r91 (
          κ237 x1 x2 x3 none h90) (fun b92 =>
          κ237 x1 x2 x3 (some b92) h90)) h89
    else
      gR h 3 1 t fun b93 =>
      ldQ Z h 3 b93 x3 fun b94 =>
      ldQ Z h 2 b94 (x7 + 1) fun b95 =>
      sQ2 Z h x6 x7 b95 fun h96 =>
      w_X3_pass_L312 Z t κ237 K n x1 x2 x3 x6 (x7 + 1) h96
def w_X3_pass_L237 (Z : Nat → ClassId) (t : Nat) (κ225 : Int32 → Int32 → Int32 → PH → Prop) (K : Int32 → PH → Prop) : Nat → Int32 → Int32 → Int32 → Option Nat → PH → Prop
  | 0, _, _, _, _, _ => False
  | n + 1, x1, x2, x3, x4, h =>
    opm x4 (
      κ225 x1 x2 (x3 + 1) h) (fun b66 =>
      gR h 3 1 t fun b67 =>
      ldQ Z h 3 b67 x3 fun b68 =>
      lQ Z h 2 b68 fun v69 =>
      if v69 ≤ 0 then
        κ225 x1 x2 (x3 + 1) h
      else
        gR h 3 1 t fun b71 =>
        ldQ Z h 3 b71 x3 fun b72 =>
        ldQ Z h 2 b72 0 fun b73 =>
        ldI Z h b73 0 fun v74 =>
        pV h 2 3 b66 (.int v74) fun h75 =>
        ldI Z h75 b73 2 fun v76 =>
        pV h75 2 4 b66 (.int (1 + v76)) fun h77 =>
        gI h77 3 6 t fun v78 =>
        ldI Z h77 b73 1 fun v79 =>
        pV h77 3 6 t (.int (v78 + v79)) fun h80 =>
        gR h80 3 1 t fun b81 =>
        ldQ Z h80 3 b81 x3 fun b82 =>
        lQ Z h80 2 b82 fun v83 =>
        nQ Z h80 2 (v83 - 1) 8 fun b84 h85 =>
        w_X3_pass_L312 Z t (fun x1 x2 x3 x4 h => w_X3_pass_L237 Z t κ225 K n x1 x2 x3 x4 h) K FU x1 x2 x3 b84 0 h85)
def w_X3_pass_L225 (Z : Nat → ClassId) (t : Nat)  (K : Int32 → PH → Prop) : Nat → Int32 → Int32 → Int32 → PH → Prop
  | 0, _, _, _, _ => False
  | n + 1, x1, x2, x3, h =>
    if x2 ≤ x3 then
      w_X3_pass_L368 Z t K FU x1 x2 0 h
    else
      rc3 h t ∧ w_X3_idle Z t x3 (fun r64 h63 =>
        opm r64 (
          w_X3_pass_L237 Z t (fun x1 x2 x3 h => w_X3_pass_L225 Z t K n x1 x2 x3 h) K 5 x1 x2 x3 none h63) (fun b65 =>
          w_X3_pass_L237 Z t (fun x1 x2 x3 h => w_X3_pass_L225 Z t K n x1 x2 x3 h) K 5 x1 x2 x3 (some b65) h63)) h
def w_X3_pass_L175 (Z : Nat → ClassId) (t : Nat) (κ75 : Int32 → Int32 → Int32 → PH → Prop) (K : Int32 → PH → Prop) (x1 : Int32) (x2 : Int32) (x3 : Int32) (x4 : Nat) (x5 : Int32) (h : PH) : Prop :=
  pV h 2 0 x4 (.int (-1)) fun h111 =>
  pV h111 2 1 x4 (.int x3) fun h112 =>
  pV h112 2 2 x4 (.int x5) fun h113 =>
  pV h113 2 3 x4 (.int (-1)) fun h114 =>
  pV h114 2 4 x4 (.int 0) fun h115 =>
  gI h115 2 6 x4 fun v116 =>
  pV h115 2 6 x4 (.int (v116 + 1)) fun h117 =>
  κ75 x1 x2 (x3 + 1) h117
def w_X3_pass_L156 (Z : Nat → ClassId) (t : Nat) (κ75 : Int32 → Int32 → Int32 → PH → Prop) (K : Int32 → PH → Prop) (x1 : Int32) (x2 : Int32) (x3 : Int32) (x4 : Nat) (x5 : Int32) (h : PH) : Prop :=
  gI h 2 4 x4 fun v109 =>
  if v109 = 2 then
    gI h 3 4 t fun v118 =>
    pV h 3 7 t (.int (v118 + 1)) fun h119 =>
    w_X3_pass_L175 Z t κ75 K x1 x2 x3 x4 x5 h119
  else
    w_X3_pass_L175 Z t κ75 K x1 x2 x3 x4 x5 h
def w_X3_pass_L75 (Z : Nat → ClassId) (t : Nat)  (K : Int32 → PH → Prop) : Nat → Int32 → Int32 → Int32 → PH → Prop
  | 0, _, _, _, _ => False
  | n + 1, x1, x2, x3, h =>
    if x2 ≤ x3 then
      w_X3_pass_L225 Z t K 8 x1 x2 0 h
    else
      gR h 3 0 t fun b97 =>
      ldI Z h b97 x3 fun v98 =>
      rc3 h t ∧ w_X3_slot Z t v98 (fun r100 h99 =>
        opm r100 (
          w_X3_pass_L75 Z t K n x1 x2 (x3 + 1) h99) (fun b101 =>
          gI h99 2 3 b101 fun v102 =>
          if v102 = x3 then
            rc3 h99 t ∧ w_X3_free Z t x3 (fun v105 h104 =>
              if 0 ≤ v105 then
                gI h104 2 4 b101 fun v107 =>
                if v107 ≤ 0 then
                  w_X3_pass_L156 Z t (fun x1 x2 x3 h => w_X3_pass_L75 Z t K n x1 x2 x3 h) K x1 x2 x3 b101 v105 h104
                else
                  gR h104 3 2 t fun b120 =>
                  ldI Z h104 b120 x3 fun v121 =>
                  sA Z h104 b120 x3 (v121 + 1) fun h122 =>
                  w_X3_pass_L156 Z t (fun x1 x2 x3 h => w_X3_pass_L75 Z t K n x1 x2 x3 h) K (x1 + 1) x2 x3 b101 v105 h122
              else
                gI h104 2 5 b101 fun v123 =>
                pV h104 2 5 b101 (.int (v123 + 1)) fun h124 =>
                w_X3_pass_L75 Z t K n x1 x2 (x3 + 1) h124) h99
          else
            w_X3_pass_L75 Z t K n x1 x2 (x3 + 1) h99)) h
def w_X3_pass_L20 (Z : Nat → ClassId) (t : Nat)  (K : Int32 → PH → Prop) : Nat → Int32 → Int32 → Nat → Int32 → Int32 → PH → Prop
  | 0, _, _, _, _, _, _ => False
  | n + 1, x1, x2, x3, x4, x5, h =>
    if x4 ≤ x5 then
      w_X3_pass_L75 Z t K FU x1 x2 0 h
    else
      ldQ Z h 1 x3 x5 fun b125 =>
      gI h 2 0 b125 fun v126 =>
      if v126 < 0 then
        w_X3_pass_L20 Z t K n x1 x2 x3 x4 (x5 + 1) h
      else
        gI h 2 0 b125 fun v128 =>
        if v128 = 23 then
          pV h 2 0 b125 (.int 0) fun h132 =>
          w_X3_pass_L20 Z t K n x1 x2 x3 x4 (x5 + 1) h132
        else
          gI h 2 0 b125 fun v130 =>
          pV h 2 0 b125 (.int (v130 + 1)) fun h131 =>
          w_X3_pass_L20 Z t K n x1 x2 x3 x4 (x5 + 1) h131
def w_X3_pass (Z : Nat → ClassId) (t : Nat) (K : Int32 → PH → Prop) (h : PH) : Prop :=
  gR h 3 0 t fun b1 =>
  lI Z h b1 fun v2 =>
  gR h 3 3 t fun b3 =>
  lQ Z h 1 b3 fun v4 =>
  w_X3_pass_L20 Z t K FU 0 v2 b3 v4 0 h
abbrev rm_X3_pass : Room := { frames := 3, cells := 40, slots := 320, locals := 72 }
theorem hdv_X3_pass : yX3_pass.cls = RX3 ∧ yX3_pass.cls ≠ "java/lang/invoke/MethodHandle" ∧ yX3_pass.cls ≠ "java/lang/invoke/VarHandle" ∧ (parseMethodDescriptor yX3_pass.desc).map (fun d => d.parameters.length) = some 0 := by decide +kernel
set_option maxHeartbeats 4000000 in
set_option maxRecDepth 100000 in
theorem m_X3_pass (l : Launch) (D : va_G) (Z : Nat → ClassId) (t : Nat) (K : Int32 → PH → Prop) (h : PH) (hf : w_X3_pass Z t K h) : PMi (hw []) l yX3_pass wsX3_pass rm_X3_pass D Z pE [.ref t] (hw [] h) K 40 320 := by
  refine PMi.of (cc := cX3_pass) (nL := 11) (ret := (some .int)) (by decide +kernel) rfl (Nat.le_of_ble_eq_true rfl) ?_
  intro p e s m below meth c A hC hE hA hP hK hD hS ls hl
  obtain ⟨hx, hb, hr, hml, hown, hts, hlk, -⟩ := hC
  have hown : s.vm.findClass RX3 = some m.cls := hown
  have hO := hE.2
  have hin2 : ∀ w ∈ wsX20, w ∈ wsX3_pass := fun w h => List.mem_cons_of_mem _ (List.mem_append_right _ h)
  have hin3 : ∀ w ∈ wsX30, w ∈ wsX3_pass := fun w h => List.mem_cons_of_mem _ (List.mem_append_left _ (List.mem_append_right _ h))
  have hl : lv_has ls 11 [(0, .ref t)] := hl
  have L603 : ∀ (rc rs : Nat), ∀ (κ578 : Int32 → Nat → Int32 → Int32 → PH → Prop), (∀ (x1 : Int32) (x3 : Nat) (x4 : Int32) (x5 : Int32) (h : PH) (cc sc : Nat) (H : Heap) (locs : List Loc), cc + (rc) ≤ 40 → sc + (rs) ≤ 320 → va_P D vwCl (hw [] h) H → va_D A (hw [] h) → va_S A s.heap H locs → ∀ ls : Array Slot, lv_has ls 11 [(0, .ref t), (1, .int x1), (3, .ref x3), (4, .int x4), (5, .int x5)] → κ578 x1 x3 x4 x5 h → W p l e rm_X3_pass s m ([.ref t] : List Value).toArray below meth c H locs cc sc (MQ below (QMi D (hw []) K A) ([.ref t] : List Value).toArray s 40 320 A) (F0 m 578 ls [])) → ∀ (n : Nat) (x1 : Int32) (x3 : Nat) (x4 : Int32) (x5 : Int32) (x7 : Nat) (x8 : Int32) (x9 : Int32) (h : PH) (cc sc : Nat) (H : Heap) (locs : List Loc), cc + (0 + rc) ≤ 40 → sc + (0 + rs) ≤ 320 → va_P D vwCl (hw [] h) H → va_D A (hw [] h) → va_S A s.heap H locs → ∀ ls : Array Slot, lv_has ls 11 [(0, .ref t), (1, .int x1), (3, .ref x3), (4, .int x4), (5, .int x5), (7, .ref x7), (8, .int x8), (9, .int x9)] → w_X3_pass_L603 Z t κ578 K n x1 x3 x4 x5 x7 x8 x9 h → W p l e rm_X3_pass s m ([.ref t] : List Value).toArray below meth c H locs cc sc (MQ below (QMi D (hw []) K A) ([.ref t] : List Value).toArray s 40 320 A) (F0 m 603 ls []) := by
    intro rc rs κ578 hκ578 n
    induction n with
    | zero =>
      intro x1 x3 x4 x5 x7 x8 x9 h cc sc  H locs hcc hsc hP hD hS ls hl hf
      exact hf.elim
    | succ n ih =>
      intro x1 x3 x4 x5 x7 x8 x9 h cc sc  H locs hcc hsc hP hD hS ls hl hf
      rw [w_X3_pass_L603] at hf
      refine lv_iload hx hb dX3_pass_603 (lv_at hl 7 rfl) ?_
      refine lv_iload hx hb dX3_pass_605 (lv_at hl 6 rfl) ?_
      refine lv_icmp_ge (tgt := 631) hx hb dX3_pass_607 (by decide) (fun c17 => ?_) (fun c17 => ?_)
      · have hf := itP hf c17
        refine lv_iinc (v := (x5 + 1)) (lv' := [(5, .int (x5 + 1)), (0, .ref t), (1, .int x1), (3, .ref x3), (4, .int x4), (7, .ref x7), (8, .int x8), (9, .int x9)]) hx hb dX3_pass_631 hl (k := 4) rfl rfl (by decide) rfl (fun ls hl => ?_)
        refine lv_goto (tgt := 578) hx hb dX3_pass_634 (by decide) ?_
        exact hκ578 x1 x3 x4 (x5 + 1) h cc sc _ _ (by omega) (by omega) hP hD hS ls (lv_sub hl [1, 2, 3, 4, 0] rfl) hf
      · have hf := ifP hf c17
        refine lv_aload hx hb dX3_pass_610 (lv_at hl 5 rfl) ?_
        refine lv_iload hx hb dX3_pass_612 (lv_at hl 7 rfl) ?_
        refine z_aQ (tz := 2) hf hx hb hK rfl rfl hP dX3_pass_614 (fun b18 hf => ?_)
        refine lv_astore (lv' := [(10, .ref b18), (0, .ref t), (1, .int x1), (3, .ref x3), (4, .int x4), (5, .int x5), (7, .ref x7), (8, .int x8), (9, .int x9)]) hx hb dX3_pass_615 hl (by decide) rfl (fun ls hl => ?_)
        refine lv_aload hx hb dX3_pass_617 (lv_at hl 0 rfl) ?_
        refine lv_iconst (v := 1) hx hb dX3_pass_619 (by decide) ?_
        refine lv_dup2_11 hx hb dX3_pass_620 rfl rfl ?_
        refine z_aI hf hx hb hK hP dX3_pass_621 (fun v19 hf => ?_)
        refine lv_iconst (v := 1) hx hb dX3_pass_622 (by decide) ?_
        refine lv_iadd hx hb dX3_pass_623 ?_
        refine z_sA hf hx hb hK hP hD hS dX3_pass_624 (fun h20 H locs hf hP hD hS => ?_)
        refine lv_iinc (v := (x9 + 1)) (lv' := [(9, .int (x9 + 1)), (10, .ref b18), (0, .ref t), (1, .int x1), (3, .ref x3), (4, .int x4), (5, .int x5), (7, .ref x7), (8, .int x8)]) hx hb dX3_pass_625 hl (k := 8) rfl rfl (by decide) rfl (fun ls hl => ?_)
        refine lv_goto (tgt := 603) hx hb dX3_pass_628 (by decide) ?_
        exact ih x1 x3 x4 x5 x7 x8 (x9 + 1) h20 cc sc _ _ (by omega) (by omega) hP hD hS ls (lv_sub hl [2, 3, 4, 5, 6, 7, 8, 0] rfl) hf
  have L578 : ∀ (n : Nat) (x1 : Int32) (x3 : Nat) (x4 : Int32) (x5 : Int32) (h : PH) (cc sc : Nat) (H : Heap) (locs : List Loc), cc + (0) ≤ 40 → sc + (0) ≤ 320 → va_P D vwCl (hw [] h) H → va_D A (hw [] h) → va_S A s.heap H locs → ∀ ls : Array Slot, lv_has ls 11 [(0, .ref t), (1, .int x1), (3, .ref x3), (4, .int x4), (5, .int x5)] → w_X3_pass_L578 Z t K n x1 x3 x4 x5 h → W p l e rm_X3_pass s m ([.ref t] : List Value).toArray below meth c H locs cc sc (MQ below (QMi D (hw []) K A) ([.ref t] : List Value).toArray s 40 320 A) (F0 m 578 ls []) := by
    intro n
    induction n with
    | zero =>
      intro x1 x3 x4 x5 h cc sc  H locs hcc hsc hP hD hS ls hl hf
      exact hf.elim
    | succ n ih =>
      intro x1 x3 x4 x5 h cc sc  H locs hcc hsc hP hD hS ls hl hf
      rw [w_X3_pass_L578] at hf
      refine lv_iload hx hb dX3_pass_578 (lv_at hl 4 rfl) ?_
      refine lv_iload hx hb dX3_pass_580 (lv_at hl 3 rfl) ?_
      refine lv_icmp_ge (tgt := 637) hx hb dX3_pass_582 (by decide) (fun c12 => ?_) (fun c12 => ?_)
      · have hf := itP hf c12
        refine lv_aload_n hx hb dX3_pass_637 rfl (lv_at hl 0 rfl) ?_
        refine lv_dup hx hb dX3_pass_638 rfl ?_
        refine z_gI (C := RX3) (T := TX3) (N := 8) hf hx hb hts hin3 hown hK hP rfl (by decide) (hts (.fieldLink RX3 42 "PodGuidewayLaw$Sim" "minute" "I") (List.mem_of_getElem? (i := 8) rfl)) dX3_pass_639 (fun v13 hf => ?_)
        refine lv_iconst (v := 1) hx hb dX3_pass_642 (by decide) ?_
        refine lv_iadd hx hb dX3_pass_643 ?_
        refine z_pV (C := RX3) (T := TX3) (N := 8) (ty := .int) hf hx hb hts hin3 tyX3 tyX3_ok nmX3 hown hK hP hD hS rfl (by decide) (hts (.fieldLink RX3 42 "PodGuidewayLaw$Sim" "minute" "I") (List.mem_of_getElem? (i := 8) rfl)) rfl (by decide +kernel) rfl rfl dX3_pass_644 (fun h14 H locs hf hP hD hS => ?_)
        refine lv_iload_n hx hb dX3_pass_647 rfl (lv_at hl 1 rfl) ?_
        exact zq_i (u := h14) hf hx hb hr hlk hP hD hS (show cc ≤ 40 from by omega) (show sc ≤ 320 from by omega) dX3_pass_648
      · have hf := ifP hf c12
        refine lv_aload_n hx hb dX3_pass_585 rfl (lv_at hl 2 rfl) ?_
        refine lv_iload hx hb dX3_pass_586 (lv_at hl 4 rfl) ?_
        refine z_aQ (tz := 3) hf hx hb hK rfl rfl hP dX3_pass_588 (fun b15 hf => ?_)
        refine lv_astore (lv' := [(6, .ref b15), (0, .ref t), (1, .int x1), (3, .ref x3), (4, .int x4), (5, .int x5)]) hx hb dX3_pass_589 hl (by decide) rfl (fun ls hl => ?_)
        refine lv_aload hx hb dX3_pass_591 (lv_at hl 0 rfl) ?_
        refine lv_astore (lv' := [(7, .ref b15), (6, .ref b15), (0, .ref t), (1, .int x1), (3, .ref x3), (4, .int x4), (5, .int x5)]) hx hb dX3_pass_593 hl (by decide) rfl (fun ls hl => ?_)
        refine lv_aload hx hb dX3_pass_595 (lv_at hl 0 rfl) ?_
        refine z_lQ (tz := 2) hf hx hb hK rfl hP dX3_pass_597 (fun v16 hf => ?_)
        refine lv_istore (lv' := [(8, .int v16), (7, .ref b15), (6, .ref b15), (0, .ref t), (1, .int x1), (3, .ref x3), (4, .int x4), (5, .int x5)]) hx hb dX3_pass_598 hl (by decide) rfl (fun ls hl => ?_)
        refine lv_iconst (v := 0) hx hb dX3_pass_600 (by decide) ?_
        refine lv_istore (lv' := [(9, .int 0), (8, .int v16), (7, .ref b15), (6, .ref b15), (0, .ref t), (1, .int x1), (3, .ref x3), (4, .int x4), (5, .int x5)]) hx hb dX3_pass_601 hl (by decide) rfl (fun ls hl => ?_)
        exact L603 (0) (0) _ ih FU x1 x3 x4 x5 b15 v16 0 h cc sc _ _ (by omega) (by omega) hP hD hS ls (lv_sub hl [4, 5, 6, 7, 8, 2, 1, 0] rfl) hf
  have L490 : ∀ (rc rs : Nat), ∀ (κ454 : Int32 → Int32 → Int32 → Int32 → PH → Prop), (∀ (x1 : Int32) (x2 : Int32) (x3 : Int32) (x4 : Int32) (h : PH) (cc sc : Nat) (H : Heap) (locs : List Loc), cc + (rc) ≤ 40 → sc + (rs) ≤ 320 → va_P D vwCl (hw [] h) H → va_D A (hw [] h) → va_S A s.heap H locs → ∀ ls : Array Slot, lv_has ls 11 [(0, .ref t), (1, .int x1), (2, .int x2), (3, .int x3), (4, .int x4)] → κ454 x1 x2 x3 x4 h → W p l e rm_X3_pass s m ([.ref t] : List Value).toArray below meth c H locs cc sc (MQ below (QMi D (hw []) K A) ([.ref t] : List Value).toArray s 40 320 A) (F0 m 454 ls [])) → ∀ (n : Nat) (x1 : Int32) (x2 : Int32) (x3 : Int32) (x4 : Int32) (x5 : Nat) (x6 : Int32) (x7 : Int32) (h : PH) (cc sc : Nat) (H : Heap) (locs : List Loc), cc + (0 + rc) ≤ 40 → sc + (0 + rs) ≤ 320 → va_P D vwCl (hw [] h) H → va_D A (hw [] h) → va_S A s.heap H locs → ∀ ls : Array Slot, lv_has ls 11 [(0, .ref t), (1, .int x1), (2, .int x2), (3, .int x3), (4, .int x4), (5, .ref x5), (6, .int x6), (7, .int x7)] → w_X3_pass_L490 Z t κ454 K n x1 x2 x3 x4 x5 x6 x7 h → W p l e rm_X3_pass s m ([.ref t] : List Value).toArray below meth c H locs cc sc (MQ below (QMi D (hw []) K A) ([.ref t] : List Value).toArray s 40 320 A) (F0 m 490 ls []) := by
    intro rc rs κ454 hκ454 n
    induction n with
    | zero =>
      intro x1 x2 x3 x4 x5 x6 x7 h cc sc  H locs hcc hsc hP hD hS ls hl hf
      exact hf.elim
    | succ n ih =>
      intro x1 x2 x3 x4 x5 x6 x7 h cc sc  H locs hcc hsc hP hD hS ls hl hf
      rw [w_X3_pass_L490] at hf
      refine lv_iload hx hb dX3_pass_490 (lv_at hl 7 rfl) ?_
      refine lv_iload hx hb dX3_pass_492 (lv_at hl 4 rfl) ?_
      refine lv_icmp_ge (tgt := 538) hx hb dX3_pass_494 (by decide) (fun c32 => ?_) (fun c32 => ?_)
      · have hf := itP hf c32
        refine lv_iload hx hb dX3_pass_538 (lv_at hl 6 rfl) ?_
        refine lv_if_eq (tgt := 554) hx hb dX3_pass_540 (by decide) (fun c33 => ?_) (fun c33 => ?_)
        · have hf := itP hf c33
          refine lv_iinc (v := (x4 + (-1))) (lv' := [(4, .int (x4 + (-1))), (0, .ref t), (1, .int x1), (2, .int x2), (3, .int x3), (5, .ref x5), (6, .int x6), (7, .int x7)]) hx hb dX3_pass_554 hl (k := 4) rfl rfl (by decide) rfl (fun ls hl => ?_)
          refine lv_goto (tgt := 454) hx hb dX3_pass_557 (by decide) ?_
          exact hκ454 x1 x2 x3 (x4 + (-1)) h cc sc _ _ (by omega) (by omega) hP hD hS ls (lv_sub hl [1, 2, 3, 4, 0] rfl) hf
        · have hf := ifP hf c33
          refine lv_aload hx hb dX3_pass_543 (lv_at hl 5 rfl) ?_
          refine lv_aload_n hx hb dX3_pass_545 rfl (lv_at hl 0 rfl) ?_
          refine z_gR (C := RX3) (T := TX3) (N := 8) hf hx hb hts hin3 hown hK hP rfl (by decide) (hts (.fieldLink RX3 7 "PodGuidewayLaw$Sim" "place" "[I") (List.mem_of_getElem? (i := 1) rfl)) dX3_pass_546 (fun b34 hf => ?_)
          refine lv_iload_n hx hb dX3_pass_549 rfl (lv_at hl 3 rfl) ?_
          refine z_aI hf hx hb hK hP dX3_pass_550 (fun v35 hf => ?_)
          refine z_pV (C := RX2) (T := TX2) (N := 7) (ty := .int) hf hx hb hts hin2 tyX2 tyX2_ok nmX2 hown hK hP hD hS rfl (by decide) (hts (.fieldLink RX3 51 "PodGuidewayLaw$Pod" "slot" "I") (List.mem_of_getElem? (i := 3) rfl)) rfl (by decide +kernel) rfl rfl dX3_pass_551 (fun h36 H locs hf hP hD hS => ?_)
          refine lv_iinc (v := (x4 + (-1))) (lv' := [(4, .int (x4 + (-1))), (0, .ref t), (1, .int x1), (2, .int x2), (3, .int x3), (5, .ref x5), (6, .int x6), (7, .int x7)]) hx hb dX3_pass_554 hl (k := 4) rfl rfl (by decide) rfl (fun ls hl => ?_)
          refine lv_goto (tgt := 454) hx hb dX3_pass_557 (by decide) ?_
          exact hκ454 x1 x2 x3 (x4 + (-1)) h36 cc sc _ _ (by omega) (by omega) hP hD hS ls (lv_sub hl [1, 2, 3, 4, 0] rfl) hf
      · have hf := ifP hf c32
        refine lv_iload hx hb dX3_pass_497 (lv_at hl 6 rfl) ?_
        refine lv_if_eq (tgt := 529) hx hb dX3_pass_499 (by decide) (fun c37 => ?_) (fun c37 => ?_)
        · have hf := itP hf c37
          refine lv_iconst (v := 0) hx hb dX3_pass_529 (by decide) ?_
          refine lv_istore (lv' := [(6, .int 0), (0, .ref t), (1, .int x1), (2, .int x2), (3, .int x3), (4, .int x4), (5, .ref x5), (7, .int x7)]) hx hb dX3_pass_530 hl (by decide) rfl (fun ls hl => ?_)
          refine lv_iinc (v := (x7 + 1)) (lv' := [(7, .int (x7 + 1)), (6, .int 0), (0, .ref t), (1, .int x1), (2, .int x2), (3, .int x3), (4, .int x4), (5, .ref x5)]) hx hb dX3_pass_532 hl (k := 7) rfl rfl (by decide) rfl (fun ls hl => ?_)
          refine lv_goto (tgt := 490) hx hb dX3_pass_535 (by decide) ?_
          exact ih x1 x2 x3 x4 x5 0 (x7 + 1) h cc sc _ _ (by omega) (by omega) hP hD hS ls (lv_sub hl [2, 3, 4, 5, 6, 7, 1, 0] rfl) hf
        · have hf := ifP hf c37
          refine lv_aload_n hx hb dX3_pass_502 rfl (lv_at hl 0 rfl) ?_
          refine lv_iload_n hx hb dX3_pass_503 rfl (lv_at hl 3 rfl) ?_
          refine lv_iload hx hb dX3_pass_504 (lv_at hl 7 rfl) ?_
          obtain ⟨hrc3, hf⟩ := hf
          refine zk_q hwX_nil (z_VP (As := [.int x3, .int x7]) (rest := []) hrc3 pE_ok hE hS hA ⟨hx, hb, hml, hown, hts⟩ (m_X3_in l D Z t x3 x7 _ h hf) gX3_pass_X3_in rfl rfl rfl hdv_X3_in ⟨Nat.le_of_ble_eq_true rfl, Nat.le_of_ble_eq_true rfl⟩ hK hP hD rfl hl.1 rfl (Nat.le_of_ble_eq_true rfl) dX3_pass_506 ⟨(show cc + 0 ≤ 40 from by omega), (show sc + 0 ≤ 320 from by omega)⟩) hP hD hS hA (fun r39 h38 H locs hf hP hD hS => ?_)
          rcases r39 with _ | b40
          · have hf := opm_n hf
            refine lv_ifnullN (tgt := 525) hx hb dX3_pass_509 (by decide) ?_
            refine lv_iconst (v := 1) hx hb dX3_pass_525 (by decide) ?_
            refine lv_goto (tgt := 530) hx hb dX3_pass_526 (by decide) ?_
            refine lv_istore (lv' := [(6, .int 1), (0, .ref t), (1, .int x1), (2, .int x2), (3, .int x3), (4, .int x4), (5, .ref x5), (7, .int x7)]) hx hb dX3_pass_530 hl (by decide) rfl (fun ls hl => ?_)
            refine lv_iinc (v := (x7 + 1)) (lv' := [(7, .int (x7 + 1)), (6, .int 1), (0, .ref t), (1, .int x1), (2, .int x2), (3, .int x3), (4, .int x4), (5, .ref x5)]) hx hb dX3_pass_532 hl (k := 7) rfl rfl (by decide) rfl (fun ls hl => ?_)
            refine lv_goto (tgt := 490) hx hb dX3_pass_535 (by decide) ?_
            exact ih x1 x2 x3 x4 x5 1 (x7 + 1) h38 cc sc _ _ (by omega) (by omega) hP hD hS ls (lv_sub hl [2, 3, 4, 5, 6, 7, 1, 0] rfl) hf
          · have hf := opm_s hf
            refine lv_ifnull hx hb dX3_pass_509 ?_
            refine lv_aload_n hx hb dX3_pass_512 rfl (lv_at hl 0 rfl) ?_
            refine lv_iload_n hx hb dX3_pass_513 rfl (lv_at hl 3 rfl) ?_
            refine lv_iload hx hb dX3_pass_514 (lv_at hl 7 rfl) ?_
            obtain ⟨hrc3, hf⟩ := hf
            refine zk_q hwX_nil (z_VP (As := [.int x3, .int x7]) (rest := []) hrc3 pE_ok hE hS hA ⟨hx, hb, hml, hown, hts⟩ (m_X3_in l D Z t x3 x7 _ h38 hf) gX3_pass_X3_in rfl rfl rfl hdv_X3_in ⟨Nat.le_of_ble_eq_true rfl, Nat.le_of_ble_eq_true rfl⟩ hK hP hD rfl hl.1 rfl (Nat.le_of_ble_eq_true rfl) dX3_pass_516 ⟨(show cc + 0 ≤ 40 from by omega), (show sc + 0 ≤ 320 from by omega)⟩) hP hD hS hA (fun r42 h41 H locs hf hP hD hS => ?_)
            rcases r42 with _ | b43
            · have hf := opm_n hf
              exact hf.elim
            · have hf := opm_s hf
              refine z_gI (C := RX2) (T := TX2) (N := 7) hf hx hb hts hin2 hown hK hP rfl (by decide) (hts (.fieldLink RX3 64 "PodGuidewayLaw$Pod" "goal" "I") (List.mem_of_getElem? (i := 4) rfl)) dX3_pass_519 (fun v44 hf => ?_)
              refine lv_if_ge (tgt := 529) hx hb dX3_pass_522 (by decide) (fun c45 => ?_) (fun c45 => ?_)
              · have hf := itP hf c45
                refine lv_iconst (v := 0) hx hb dX3_pass_529 (by decide) ?_
                refine lv_istore (lv' := [(6, .int 0), (0, .ref t), (1, .int x1), (2, .int x2), (3, .int x3), (4, .int x4), (5, .ref x5), (7, .int x7)]) hx hb dX3_pass_530 hl (by decide) rfl (fun ls hl => ?_)
                refine lv_iinc (v := (x7 + 1)) (lv' := [(7, .int (x7 + 1)), (6, .int 0), (0, .ref t), (1, .int x1), (2, .int x2), (3, .int x3), (4, .int x4), (5, .ref x5)]) hx hb dX3_pass_532 hl (k := 7) rfl rfl (by decide) rfl (fun ls hl => ?_)
                refine lv_goto (tgt := 490) hx hb dX3_pass_535 (by decide) ?_
                exact ih x1 x2 x3 x4 x5 0 (x7 + 1) h41 cc sc _ _ (by omega) (by omega) hP hD hS ls (lv_sub hl [2, 3, 4, 5, 6, 7, 1, 0] rfl) hf
              · have hf := ifP hf c45
                refine lv_iconst (v := 1) hx hb dX3_pass_525 (by decide) ?_
                refine lv_goto (tgt := 530) hx hb dX3_pass_526 (by decide) ?_
                refine lv_istore (lv' := [(6, .int 1), (0, .ref t), (1, .int x1), (2, .int x2), (3, .int x3), (4, .int x4), (5, .ref x5), (7, .int x7)]) hx hb dX3_pass_530 hl (by decide) rfl (fun ls hl => ?_)
                refine lv_iinc (v := (x7 + 1)) (lv' := [(7, .int (x7 + 1)), (6, .int 1), (0, .ref t), (1, .int x1), (2, .int x2), (3, .int x3), (4, .int x4), (5, .ref x5)]) hx hb dX3_pass_532 hl (k := 7) rfl rfl (by decide) rfl (fun ls hl => ?_)
                refine lv_goto (tgt := 490) hx hb dX3_pass_535 (by decide) ?_
                exact ih x1 x2 x3 x4 x5 1 (x7 + 1) h41 cc sc _ _ (by omega) (by omega) hP hD hS ls (lv_sub hl [2, 3, 4, 5, 6, 7, 1, 0] rfl) hf
  have L454 : ∀ (rc rs : Nat), ∀ (κ430 : Int32 → Int32 → Int32 → PH → Prop), (∀ (x1 : Int32) (x2 : Int32) (x3 : Int32) (h : PH) (cc sc : Nat) (H : Heap) (locs : List Loc), cc + (rc) ≤ 40 → sc + (rs) ≤ 320 → va_P D vwCl (hw [] h) H → va_D A (hw [] h) → va_S A s.heap H locs → ∀ ls : Array Slot, lv_has ls 11 [(0, .ref t), (1, .int x1), (2, .int x2), (3, .int x3)] → κ430 x1 x2 x3 h → W p l e rm_X3_pass s m ([.ref t] : List Value).toArray below meth c H locs cc sc (MQ below (QMi D (hw []) K A) ([.ref t] : List Value).toArray s 40 320 A) (F0 m 430 ls [])) → ∀ (n : Nat) (x1 : Int32) (x2 : Int32) (x3 : Int32) (x4 : Int32) (h : PH) (cc sc : Nat) (H : Heap) (locs : List Loc), cc + (0 + rc) ≤ 40 → sc + (0 + rs) ≤ 320 → va_P D vwCl (hw [] h) H → va_D A (hw [] h) → va_S A s.heap H locs → ∀ ls : Array Slot, lv_has ls 11 [(0, .ref t), (1, .int x1), (2, .int x2), (3, .int x3), (4, .int x4)] → w_X3_pass_L454 Z t κ430 K n x1 x2 x3 x4 h → W p l e rm_X3_pass s m ([.ref t] : List Value).toArray below meth c H locs cc sc (MQ below (QMi D (hw []) K A) ([.ref t] : List Value).toArray s 40 320 A) (F0 m 454 ls []) := by
    intro rc rs κ430 hκ430 n
    induction n with
    | zero =>
      intro x1 x2 x3 x4 h cc sc  H locs hcc hsc hP hD hS ls hl hf
      exact hf.elim
    | succ n ih =>
      intro x1 x2 x3 x4 h cc sc  H locs hcc hsc hP hD hS ls hl hf
      rw [w_X3_pass_L454] at hf
      refine lv_iload hx hb dX3_pass_454 (lv_at hl 4 rfl) ?_
      refine lv_if_lt (tgt := 560) hx hb dX3_pass_456 (by decide) (fun c26 => ?_) (fun c26 => ?_)
      · have hf := itP hf c26
        refine lv_iinc (v := (x3 + 1)) (lv' := [(3, .int (x3 + 1)), (0, .ref t), (1, .int x1), (2, .int x2), (4, .int x4)]) hx hb dX3_pass_560 hl (k := 3) rfl rfl (by decide) rfl (fun ls hl => ?_)
        refine lv_goto (tgt := 430) hx hb dX3_pass_563 (by decide) ?_
        exact hκ430 x1 x2 (x3 + 1) h cc sc _ _ (by omega) (by omega) hP hD hS ls (lv_sub hl [1, 2, 3, 0] rfl) hf
      · have hf := ifP hf c26
        refine lv_aload_n hx hb dX3_pass_459 rfl (lv_at hl 0 rfl) ?_
        refine lv_iload_n hx hb dX3_pass_460 rfl (lv_at hl 3 rfl) ?_
        refine lv_iload hx hb dX3_pass_461 (lv_at hl 4 rfl) ?_
        obtain ⟨hrc3, hf⟩ := hf
        refine zk_q hwX_nil (z_VP (As := [.int x3, .int x4]) (rest := []) hrc3 pE_ok hE hS hA ⟨hx, hb, hml, hown, hts⟩ (m_X3_in l D Z t x3 x4 _ h hf) gX3_pass_X3_in rfl rfl rfl hdv_X3_in ⟨Nat.le_of_ble_eq_true rfl, Nat.le_of_ble_eq_true rfl⟩ hK hP hD rfl hl.1 rfl (Nat.le_of_ble_eq_true rfl) dX3_pass_463 ⟨(show cc + 0 ≤ 40 from by omega), (show sc + 0 ≤ 320 from by omega)⟩) hP hD hS hA (fun r28 h27 H locs hf hP hD hS => ?_)
        rcases r28 with _ | b29
        · have hf := opm_n hf
          refine lv_astoreN (lv' := [(5, .null), (0, .ref t), (1, .int x1), (2, .int x2), (3, .int x3), (4, .int x4)]) hx hb dX3_pass_466 hl (by decide) rfl (fun ls hl => ?_)
          refine lv_aloadN hx hb dX3_pass_468 (lv_at hl 0 rfl) ?_
          refine lv_ifnullN (tgt := 554) hx hb dX3_pass_470 (by decide) ?_
          refine lv_iinc (v := (x4 + (-1))) (lv' := [(4, .int (x4 + (-1))), (5, .null), (0, .ref t), (1, .int x1), (2, .int x2), (3, .int x3)]) hx hb dX3_pass_554 hl (k := 5) rfl rfl (by decide) rfl (fun ls hl => ?_)
          refine lv_goto (tgt := 454) hx hb dX3_pass_557 (by decide) ?_
          exact ih x1 x2 x3 (x4 + (-1)) h27 cc sc _ _ (by omega) (by omega) hP hD hS ls (lv_sub hl [2, 3, 4, 5, 0] rfl) hf
        · have hf := opm_s hf
          refine lv_astore (lv' := [(5, .ref b29), (0, .ref t), (1, .int x1), (2, .int x2), (3, .int x3), (4, .int x4)]) hx hb dX3_pass_466 hl (by decide) rfl (fun ls hl => ?_)
          refine lv_aload hx hb dX3_pass_468 (lv_at hl 0 rfl) ?_
          refine lv_ifnull hx hb dX3_pass_470 ?_
          refine lv_aload hx hb dX3_pass_473 (lv_at hl 0 rfl) ?_
          refine z_gI (C := RX2) (T := TX2) (N := 7) hf hx hb hts hin2 hown hK hP rfl (by decide) (hts (.fieldLink RX3 64 "PodGuidewayLaw$Pod" "goal" "I") (List.mem_of_getElem? (i := 4) rfl)) dX3_pass_475 (fun v30 hf => ?_)
          refine lv_if_ge (tgt := 484) hx hb dX3_pass_478 (by decide) (fun c31 => ?_) (fun c31 => ?_)
          · have hf := itP hf c31
            refine lv_iconst (v := 1) hx hb dX3_pass_484 (by decide) ?_
            refine lv_istore (lv' := [(6, .int 1), (5, .ref b29), (0, .ref t), (1, .int x1), (2, .int x2), (3, .int x3), (4, .int x4)]) hx hb dX3_pass_485 hl (by decide) rfl (fun ls hl => ?_)
            refine lv_iconst (v := 0) hx hb dX3_pass_487 (by decide) ?_
            refine lv_istore (lv' := [(7, .int 0), (6, .int 1), (5, .ref b29), (0, .ref t), (1, .int x1), (2, .int x2), (3, .int x3), (4, .int x4)]) hx hb dX3_pass_488 hl (by decide) rfl (fun ls hl => ?_)
            exact L490 (0 + rc) (0 + rs) _ ih FU x1 x2 x3 x4 b29 1 0 h27 cc sc _ _ (by omega) (by omega) hP hD hS ls (lv_sub hl [3, 4, 5, 6, 7, 2, 1, 0] rfl) hf
          · have hf := ifP hf c31
            refine lv_goto (tgt := 554) hx hb dX3_pass_481 (by decide) ?_
            refine lv_iinc (v := (x4 + (-1))) (lv' := [(4, .int (x4 + (-1))), (5, .ref b29), (0, .ref t), (1, .int x1), (2, .int x2), (3, .int x3)]) hx hb dX3_pass_554 hl (k := 5) rfl rfl (by decide) rfl (fun ls hl => ?_)
            refine lv_goto (tgt := 454) hx hb dX3_pass_557 (by decide) ?_
            exact ih x1 x2 x3 (x4 + (-1)) h27 cc sc _ _ (by omega) (by omega) hP hD hS ls (lv_sub hl [2, 3, 4, 5, 0] rfl) hf
  have L430 : ∀ (n : Nat) (x1 : Int32) (x2 : Int32) (x3 : Int32) (h : PH) (cc sc : Nat) (H : Heap) (locs : List Loc), cc + (0) ≤ 40 → sc + (0) ≤ 320 → va_P D vwCl (hw [] h) H → va_D A (hw [] h) → va_S A s.heap H locs → ∀ ls : Array Slot, lv_has ls 11 [(0, .ref t), (1, .int x1), (2, .int x2), (3, .int x3)] → w_X3_pass_L430 Z t K n x1 x2 x3 h → W p l e rm_X3_pass s m ([.ref t] : List Value).toArray below meth c H locs cc sc (MQ below (QMi D (hw []) K A) ([.ref t] : List Value).toArray s 40 320 A) (F0 m 430 ls []) := by
    intro n
    induction n with
    | zero =>
      intro x1 x2 x3 h cc sc  H locs hcc hsc hP hD hS ls hl hf
      exact hf.elim
    | succ n ih =>
      intro x1 x2 x3 h cc sc  H locs hcc hsc hP hD hS ls hl hf
      rw [w_X3_pass_L430] at hf
      refine lv_iload_n hx hb dX3_pass_430 rfl (lv_at hl 3 rfl) ?_
      refine lv_iload_n hx hb dX3_pass_431 rfl (lv_at hl 2 rfl) ?_
      refine lv_icmp_ge (tgt := 566) hx hb dX3_pass_432 (by decide) (fun c9 => ?_) (fun c9 => ?_)
      · have hf := itP hf c9
        refine lv_aload_n hx hb dX3_pass_566 rfl (lv_at hl 0 rfl) ?_
        refine z_gR (C := RX3) (T := TX3) (N := 8) hf hx hb hts hin3 hown hK hP rfl (by decide) (hts (.fieldLink RX3 15 "PodGuidewayLaw$Sim" "waits" "[[[I") (List.mem_of_getElem? (i := 13) rfl)) dX3_pass_567 (fun b10 hf => ?_)
        refine lv_astore_n (lv' := [(3, .ref b10), (0, .ref t), (1, .int x1), (2, .int x2)]) hx hb dX3_pass_570 rfl hl (by decide) rfl (fun ls hl => ?_)
        refine lv_aload_n hx hb dX3_pass_571 rfl (lv_at hl 0 rfl) ?_
        refine z_lQ (tz := 3) hf hx hb hK rfl hP dX3_pass_572 (fun v11 hf => ?_)
        refine lv_istore (lv' := [(4, .int v11), (3, .ref b10), (0, .ref t), (1, .int x1), (2, .int x2)]) hx hb dX3_pass_573 hl (by decide) rfl (fun ls hl => ?_)
        refine lv_iconst (v := 0) hx hb dX3_pass_575 (by decide) ?_
        refine lv_istore (lv' := [(5, .int 0), (4, .int v11), (3, .ref b10), (0, .ref t), (1, .int x1), (2, .int x2)]) hx hb dX3_pass_576 hl (by decide) rfl (fun ls hl => ?_)
        exact L578 FU x1 b10 v11 0 h cc sc _ _ (by omega) (by omega) hP hD hS ls (lv_sub hl [3, 4, 2, 1, 0] rfl) hf
      · have hf := ifP hf c9
        refine lv_aload_n hx hb dX3_pass_435 rfl (lv_at hl 0 rfl) ?_
        refine lv_aload_n hx hb dX3_pass_436 rfl (lv_at hl 0 rfl) ?_
        refine z_gR (C := RX3) (T := TX3) (N := 8) hf hx hb hts hin3 hown hK hP rfl (by decide) (hts (.fieldLink RX3 7 "PodGuidewayLaw$Sim" "place" "[I") (List.mem_of_getElem? (i := 1) rfl)) dX3_pass_437 (fun b21 hf => ?_)
        refine lv_iload_n hx hb dX3_pass_440 rfl (lv_at hl 3 rfl) ?_
        refine z_aI hf hx hb hK hP dX3_pass_441 (fun v22 hf => ?_)
        obtain ⟨hrc3, hf⟩ := hf
        refine zk_q hwX_nil (z_VP (As := [.int v22]) (rest := []) hrc3 pE_ok hE hS hA ⟨hx, hb, hml, hown, hts⟩ (m_X3_slot l D Z t v22 _ h hf) gX3_pass_X3_slot rfl rfl rfl hdv_X3_slot ⟨Nat.le_of_ble_eq_true rfl, Nat.le_of_ble_eq_true rfl⟩ hK hP hD rfl hl.1 rfl (Nat.le_of_ble_eq_true rfl) dX3_pass_442 ⟨(show cc + 0 ≤ 40 from by omega), (show sc + 0 ≤ 320 from by omega)⟩) hP hD hS hA (fun r24 h23 H locs hf hP hD hS => ?_)
        rcases r24 with _ | b25
        · have hf := opm_n hf
          refine lv_ifnullN (tgt := 451) hx hb dX3_pass_445 (by decide) ?_
          refine lv_iconst (v := 2) hx hb dX3_pass_451 (by decide) ?_
          refine lv_istore (lv' := [(4, .int 2), (0, .ref t), (1, .int x1), (2, .int x2), (3, .int x3)]) hx hb dX3_pass_452 hl (by decide) rfl (fun ls hl => ?_)
          exact L454 (0) (0) _ ih FU x1 x2 x3 2 h23 cc sc _ _ (by omega) (by omega) hP hD hS ls (lv_sub hl [1, 2, 3, 4, 0] rfl) hf
        · have hf := opm_s hf
          refine lv_ifnull hx hb dX3_pass_445 ?_
          refine lv_goto (tgt := 560) hx hb dX3_pass_448 (by decide) ?_
          refine lv_iinc (v := (x3 + 1)) (lv' := [(3, .int (x3 + 1)), (0, .ref t), (1, .int x1), (2, .int x2)]) hx hb dX3_pass_560 hl (k := 3) rfl rfl (by decide) rfl (fun ls hl => ?_)
          refine lv_goto (tgt := 430) hx hb dX3_pass_563 (by decide) ?_
          exact ih x1 x2 (x3 + 1) h23 cc sc _ _ (by omega) (by omega) hP hD hS ls (lv_sub hl [1, 2, 3, 0] rfl) hf
  have L368 : ∀ (n : Nat) (x1 : Int32) (x2 : Int32) (x3 : Int32) (h : PH) (cc sc : Nat) (H : Heap) (locs : List Loc), cc + (0) ≤ 40 → sc + (0) ≤ 320 → va_P D vwCl (hw [] h) H → va_D A (hw [] h) → va_S A s.heap H locs → ∀ ls : Array Slot, lv_has ls 11 [(0, .ref t), (1, .int x1), (2, .int x2), (3, .int x3)] → w_X3_pass_L368 Z t K n x1 x2 x3 h → W p l e rm_X3_pass s m ([.ref t] : List Value).toArray below meth c H locs cc sc (MQ below (QMi D (hw []) K A) ([.ref t] : List Value).toArray s 40 320 A) (F0 m 368 ls []) := by
    intro n
    induction n with
    | zero =>
      intro x1 x2 x3 h cc sc  H locs hcc hsc hP hD hS ls hl hf
      exact hf.elim
    | succ n ih =>
      intro x1 x2 x3 h cc sc  H locs hcc hsc hP hD hS ls hl hf
      rw [w_X3_pass_L368] at hf
      refine lv_iload_n hx hb dX3_pass_368 rfl (lv_at hl 3 rfl) ?_
      refine lv_iload_n hx hb dX3_pass_369 rfl (lv_at hl 2 rfl) ?_
      refine lv_icmp_ge (tgt := 428) hx hb dX3_pass_370 (by decide) (fun c8 => ?_) (fun c8 => ?_)
      · have hf := itP hf c8
        refine lv_iconst (v := 0) hx hb dX3_pass_428 (by decide) ?_
        refine lv_istore_n (lv' := [(3, .int 0), (0, .ref t), (1, .int x1), (2, .int x2)]) hx hb dX3_pass_429 rfl hl (by decide) rfl (fun ls hl => ?_)
        exact L430 FU x1 x2 0 h cc sc _ _ (by omega) (by omega) hP hD hS ls (lv_sub hl [1, 2, 3, 0] rfl) hf
      · have hf := ifP hf c8
        refine lv_aload_n hx hb dX3_pass_373 rfl (lv_at hl 0 rfl) ?_
        refine z_gR (C := RX3) (T := TX3) (N := 8) hf hx hb hts hin3 hown hK hP rfl (by decide) (hts (.fieldLink RX3 15 "PodGuidewayLaw$Sim" "waits" "[[[I") (List.mem_of_getElem? (i := 13) rfl)) dX3_pass_374 (fun b46 hf => ?_)
        refine lv_iload_n hx hb dX3_pass_377 rfl (lv_at hl 3 rfl) ?_
        refine z_aQ (tz := 3) hf hx hb hK rfl rfl hP dX3_pass_378 (fun b47 hf => ?_)
        refine z_lQ (tz := 2) hf hx hb hK rfl hP dX3_pass_379 (fun v48 hf => ?_)
        refine lv_aload_n hx hb dX3_pass_380 rfl (lv_at hl 0 rfl) ?_
        refine lv_iload_n hx hb dX3_pass_381 rfl (lv_at hl 3 rfl) ?_
        obtain ⟨hrc3, hf⟩ := hf
        refine zk_i hwX_nil (z_VP (As := [.int x3]) (rest := [.int v48]) hrc3 pE_ok hE hS hA ⟨hx, hb, hml, hown, hts⟩ (m_X3_coming l D Z t x3 _ h hf) gX3_pass_X3_coming rfl rfl rfl hdv_X3_coming ⟨Nat.le_of_ble_eq_true rfl, Nat.le_of_ble_eq_true rfl⟩ hK hP hD rfl hl.1 rfl (Nat.le_of_ble_eq_true rfl) dX3_pass_382 ⟨(show cc + 0 ≤ 40 from by omega), (show sc + 0 ≤ 320 from by omega)⟩) hP hD hS hA (fun v50 h49 H locs hf hP hD hS => ?_)
        refine lv_icmp_le (tgt := 422) hx hb dX3_pass_385 (by decide) (fun c51 => ?_) (fun c51 => ?_)
        · have hf := itP hf c51
          refine lv_iinc (v := (x3 + 1)) (lv' := [(3, .int (x3 + 1)), (0, .ref t), (1, .int x1), (2, .int x2)]) hx hb dX3_pass_422 hl (k := 3) rfl rfl (by decide) rfl (fun ls hl => ?_)
          refine lv_goto (tgt := 368) hx hb dX3_pass_425 (by decide) ?_
          exact ih x1 x2 (x3 + 1) h49 cc sc _ _ (by omega) (by omega) hP hD hS ls (lv_sub hl [1, 2, 3, 0] rfl) hf
        · have hf := ifP hf c51
          refine lv_aload_n hx hb dX3_pass_388 rfl (lv_at hl 0 rfl) ?_
          refine lv_iload_n hx hb dX3_pass_389 rfl (lv_at hl 3 rfl) ?_
          obtain ⟨hrc3, hf⟩ := hf
          refine zk_i hwX_nil (z_VP (As := [.int x3]) (rest := []) hrc3 pE_ok hE hS hA ⟨hx, hb, hml, hown, hts⟩ (m_X3_answer l D Z t x3 _ h49 hf) gX3_pass_X3_answer rfl rfl rfl hdv_X3_answer ⟨Nat.le_of_ble_eq_true rfl, Nat.le_of_ble_eq_true rfl⟩ hK hP hD rfl hl.1 rfl (Nat.le_of_ble_eq_true rfl) dX3_pass_390 ⟨(show cc + 0 ≤ 40 from by omega), (show sc + 0 ≤ 320 from by omega)⟩) hP hD hS hA (fun v53 h52 H locs hf hP hD hS => ?_)
          refine lv_if_ge (tgt := 399) hx hb dX3_pass_393 (by decide) (fun c54 => ?_) (fun c54 => ?_)
          · have hf := itP hf c54
            refine lv_aload_n hx hb dX3_pass_399 rfl (lv_at hl 0 rfl) ?_
            refine lv_aload_n hx hb dX3_pass_400 rfl (lv_at hl 0 rfl) ?_
            refine lv_iload_n hx hb dX3_pass_401 rfl (lv_at hl 3 rfl) ?_
            obtain ⟨hrc3, hf⟩ := hf
            refine zk_i hwX_nil (z_VP (As := [.int x3]) (rest := [.ref t]) hrc3 pE_ok hE hS hA ⟨hx, hb, hml, hown, hts⟩ (m_X3_answer l D Z t x3 _ h52 hf) gX3_pass_X3_answer rfl rfl rfl hdv_X3_answer ⟨Nat.le_of_ble_eq_true rfl, Nat.le_of_ble_eq_true rfl⟩ hK hP hD rfl hl.1 rfl (Nat.le_of_ble_eq_true rfl) dX3_pass_402 ⟨(show cc + 0 ≤ 40 from by omega), (show sc + 0 ≤ 320 from by omega)⟩) hP hD hS hA (fun v56 h55 H locs hf hP hD hS => ?_)
            obtain ⟨hrc3, hf⟩ := hf
            refine zk_q hwX_nil (z_VP (As := [.int v56]) (rest := []) hrc3 pE_ok hE hS hA ⟨hx, hb, hml, hown, hts⟩ (m_X3_idle l D Z t v56 _ h55 hf) gX3_pass_X3_idle rfl rfl rfl hdv_X3_idle ⟨Nat.le_of_ble_eq_true rfl, Nat.le_of_ble_eq_true rfl⟩ hK hP hD rfl hl.1 rfl (Nat.le_of_ble_eq_true rfl) dX3_pass_405 ⟨(show cc + 0 ≤ 40 from by omega), (show sc + 0 ≤ 320 from by omega)⟩) hP hD hS hA (fun r58 h57 H locs hf hP hD hS => ?_)
            rcases r58 with _ | b59
            · have hf := opm_n hf
              refine lv_iload_n hx hb dX3_pass_408 rfl (lv_at hl 3 rfl) ?_
              exact hf.elim
            · have hf := opm_s hf
              refine lv_iload_n hx hb dX3_pass_408 rfl (lv_at hl 3 rfl) ?_
              refine z_pV (C := RX2) (T := TX2) (N := 7) (ty := .int) hf hx hb hts hin2 tyX2 tyX2_ok nmX2 hown hK hP hD hS rfl (by decide) (hts (.fieldLink RX3 64 "PodGuidewayLaw$Pod" "goal" "I") (List.mem_of_getElem? (i := 4) rfl)) rfl (by decide +kernel) rfl rfl dX3_pass_409 (fun h60 H locs hf hP hD hS => ?_)
              refine lv_aload_n hx hb dX3_pass_412 rfl (lv_at hl 0 rfl) ?_
              refine lv_dup hx hb dX3_pass_413 rfl ?_
              refine z_gI (C := RX3) (T := TX3) (N := 8) hf hx hb hts hin3 hown hK hP rfl (by decide) (hts (.fieldLink RX3 45 "PodGuidewayLaw$Sim" "answered" "I") (List.mem_of_getElem? (i := 16) rfl)) dX3_pass_414 (fun v61 hf => ?_)
              refine lv_iconst (v := 1) hx hb dX3_pass_417 (by decide) ?_
              refine lv_iadd hx hb dX3_pass_418 ?_
              refine z_pV (C := RX3) (T := TX3) (N := 8) (ty := .int) hf hx hb hts hin3 tyX3 tyX3_ok nmX3 hown hK hP hD hS rfl (by decide) (hts (.fieldLink RX3 45 "PodGuidewayLaw$Sim" "answered" "I") (List.mem_of_getElem? (i := 16) rfl)) rfl (by decide +kernel) rfl rfl dX3_pass_419 (fun h62 H locs hf hP hD hS => ?_)
              refine lv_iinc (v := (x3 + 1)) (lv' := [(3, .int (x3 + 1)), (0, .ref t), (1, .int x1), (2, .int x2)]) hx hb dX3_pass_422 hl (k := 3) rfl rfl (by decide) rfl (fun ls hl => ?_)
              refine lv_goto (tgt := 368) hx hb dX3_pass_425 (by decide) ?_
              exact ih x1 x2 (x3 + 1) h62 cc sc _ _ (by omega) (by omega) hP hD hS ls (lv_sub hl [1, 2, 3, 0] rfl) hf
          · have hf := ifP hf c54
            refine lv_goto (tgt := 422) hx hb dX3_pass_396 (by decide) ?_
            refine lv_iinc (v := (x3 + 1)) (lv' := [(3, .int (x3 + 1)), (0, .ref t), (1, .int x1), (2, .int x2)]) hx hb dX3_pass_422 hl (k := 3) rfl rfl (by decide) rfl (fun ls hl => ?_)
            refine lv_goto (tgt := 368) hx hb dX3_pass_425 (by decide) ?_
            exact ih x1 x2 (x3 + 1) h52 cc sc _ _ (by omega) (by omega) hP hD hS ls (lv_sub hl [1, 2, 3, 0] rfl) hf
  have L312 : ∀ (rc rs : Nat), ∀ (κ237 : Int32 → Int32 → Int32 → Option Nat → PH → Prop), (∀ (x1 : Int32) (x2 : Int32) (x3 : Int32) (x4 : Option Nat) (h : PH) (cc sc : Nat) (H : Heap) (locs : List Loc), cc + (rc) ≤ 40 → sc + (rs) ≤ 320 → va_P D vwCl (hw [] h) H → va_D A (hw [] h) → va_S A s.heap H locs → ∀ ls : Array Slot, lv_has ls 11 [(0, .ref t), (1, .int x1), (2, .int x2), (3, .int x3), (4, va_rf x4)] → κ237 x1 x2 x3 x4 h → W p l e rm_X3_pass s m ([.ref t] : List Value).toArray below meth c H locs cc sc (MQ below (QMi D (hw []) K A) ([.ref t] : List Value).toArray s 40 320 A) (F0 m 237 ls [])) → ∀ (n : Nat) (x1 : Int32) (x2 : Int32) (x3 : Int32) (x6 : Nat) (x7 : Int32) (h : PH) (cc sc : Nat) (H : Heap) (locs : List Loc), cc + (0 + rc) ≤ 40 → sc + (0 + rs) ≤ 320 → va_P D vwCl (hw [] h) H → va_D A (hw [] h) → va_S A s.heap H locs → ∀ ls : Array Slot, lv_has ls 11 [(0, .ref t), (1, .int x1), (2, .int x2), (3, .int x3), (6, .ref x6), (7, .int x7)] → w_X3_pass_L312 Z t κ237 K n x1 x2 x3 x6 x7 h → W p l e rm_X3_pass s m ([.ref t] : List Value).toArray below meth c H locs cc sc (MQ below (QMi D (hw []) K A) ([.ref t] : List Value).toArray s 40 320 A) (F0 m 312 ls []) := by
    intro rc rs κ237 hκ237 n
    induction n with
    | zero =>
      intro x1 x2 x3 x6 x7 h cc sc  H locs hcc hsc hP hD hS ls hl hf
      exact hf.elim
    | succ n ih =>
      intro x1 x2 x3 x6 x7 h cc sc  H locs hcc hsc hP hD hS ls hl hf
      rw [w_X3_pass_L312] at hf
      refine lv_iload hx hb dX3_pass_312 (lv_at hl 5 rfl) ?_
      refine lv_aload hx hb dX3_pass_314 (lv_at hl 4 rfl) ?_
      refine z_lQ (tz := 2) hf hx hb hK rfl hP dX3_pass_316 (fun v86 hf => ?_)
      refine lv_icmp_ge (tgt := 342) hx hb dX3_pass_317 (by decide) (fun c87 => ?_) (fun c87 => ?_)
      · have hf := itP hf c87
        refine lv_aload_n hx hb dX3_pass_342 rfl (lv_at hl 0 rfl) ?_
        refine z_gR (C := RX3) (T := TX3) (N := 8) hf hx hb hts hin3 hown hK hP rfl (by decide) (hts (.fieldLink RX3 15 "PodGuidewayLaw$Sim" "waits" "[[[I") (List.mem_of_getElem? (i := 13) rfl)) dX3_pass_343 (fun b88 hf => ?_)
        refine lv_iload_n hx hb dX3_pass_346 rfl (lv_at hl 3 rfl) ?_
        refine lv_aload hx hb dX3_pass_347 (lv_at hl 4 rfl) ?_
        refine z_sQ3 hf hx hb hO.2.1 hK hP hD hS dX3_pass_349 (fun h89 H locs hf hP hD hS => ?_)
        refine lv_aload_n hx hb dX3_pass_350 rfl (lv_at hl 0 rfl) ?_
        refine lv_iload_n hx hb dX3_pass_351 rfl (lv_at hl 3 rfl) ?_
        obtain ⟨hrc3, hf⟩ := hf
        refine zk_q hwX_nil (z_VP (As := [.int x3]) (rest := []) hrc3 pE_ok hE hS hA ⟨hx, hb, hml, hown, hts⟩ (m_X3_idle l D Z t x3 _ h89 hf) gX3_pass_X3_idle rfl rfl rfl hdv_X3_idle ⟨Nat.le_of_ble_eq_true rfl, Nat.le_of_ble_eq_true rfl⟩ hK hP hD rfl hl.1 rfl (Nat.le_of_ble_eq_true rfl) dX3_pass_352 ⟨(show cc + 0 ≤ 40 from by omega), (show sc + 0 ≤ 320 from by omega)⟩) hP hD hS hA (fun r91 h90 H locs hf hP hD hS => ?_)
        rcases r91 with _ | b92
        · have hf := opm_n hf
          refine lv_astoreN (lv' := [(4, .null), (0, .ref t), (1, .int x1), (2, .int x2), (3, .int x3), (6, .ref x6), (7, .int x7)]) hx hb dX3_pass_355 hl (by decide) rfl (fun ls hl => ?_)
          refine lv_goto (tgt := 237) hx hb dX3_pass_357 (by decide) ?_
          exact hκ237 x1 x2 x3 none h90 cc sc _ _ (by omega) (by omega) hP hD hS ls (lv_sub hl [1, 2, 3, 4, 0] rfl) hf
        · have hf := opm_s hf
          refine lv_astore (lv' := [(4, .ref b92), (0, .ref t), (1, .int x1), (2, .int x2), (3, .int x3), (6, .ref x6), (7, .int x7)]) hx hb dX3_pass_355 hl (by decide) rfl (fun ls hl => ?_)
          refine lv_goto (tgt := 237) hx hb dX3_pass_357 (by decide) ?_
          exact hκ237 x1 x2 x3 (some b92) h90 cc sc _ _ (by omega) (by omega) hP hD hS ls (lv_sub hl [1, 2, 3, 4, 0] rfl) hf
      · have hf := ifP hf c87
        refine lv_aload hx hb dX3_pass_320 (lv_at hl 4 rfl) ?_
        refine lv_iload hx hb dX3_pass_322 (lv_at hl 5 rfl) ?_
        refine lv_aload_n hx hb dX3_pass_324 rfl (lv_at hl 0 rfl) ?_
        refine z_gR (C := RX3) (T := TX3) (N := 8) hf hx hb hts hin3 hown hK hP rfl (by decide) (hts (.fieldLink RX3 15 "PodGuidewayLaw$Sim" "waits" "[[[I") (List.mem_of_getElem? (i := 13) rfl)) dX3_pass_325 (fun b93 hf => ?_)
        refine lv_iload_n hx hb dX3_pass_328 rfl (lv_at hl 3 rfl) ?_
        refine z_aQ (tz := 3) hf hx hb hK rfl rfl hP dX3_pass_329 (fun b94 hf => ?_)
        refine lv_iload hx hb dX3_pass_330 (lv_at hl 5 rfl) ?_
        refine lv_iconst (v := 1) hx hb dX3_pass_332 (by decide) ?_
        refine lv_iadd hx hb dX3_pass_333 ?_
        refine z_aQ (tz := 2) hf hx hb hK rfl rfl hP dX3_pass_334 (fun b95 hf => ?_)
        refine z_sQ2 hf hx hb hO.1 hK hP hD hS dX3_pass_335 (fun h96 H locs hf hP hD hS => ?_)
        refine lv_iinc (v := (x7 + 1)) (lv' := [(7, .int (x7 + 1)), (0, .ref t), (1, .int x1), (2, .int x2), (3, .int x3), (6, .ref x6)]) hx hb dX3_pass_336 hl (k := 5) rfl rfl (by decide) rfl (fun ls hl => ?_)
        refine lv_goto (tgt := 312) hx hb dX3_pass_339 (by decide) ?_
        exact ih x1 x2 x3 x6 (x7 + 1) h96 cc sc _ _ (by omega) (by omega) hP hD hS ls (lv_sub hl [1, 2, 3, 4, 5, 0] rfl) hf
  have L237 : ∀ (rc rs : Nat), ∀ (κ225 : Int32 → Int32 → Int32 → PH → Prop), (∀ (x1 : Int32) (x2 : Int32) (x3 : Int32) (h : PH) (cc sc : Nat) (H : Heap) (locs : List Loc), cc + (rc) ≤ 40 → sc + (rs) ≤ 320 → va_P D vwCl (hw [] h) H → va_D A (hw [] h) → va_S A s.heap H locs → ∀ ls : Array Slot, lv_has ls 11 [(0, .ref t), (1, .int x1), (2, .int x2), (3, .int x3)] → κ225 x1 x2 x3 h → W p l e rm_X3_pass s m ([.ref t] : List Value).toArray below meth c H locs cc sc (MQ below (QMi D (hw []) K A) ([.ref t] : List Value).toArray s 40 320 A) (F0 m 225 ls [])) → ∀ (n : Nat) (x1 : Int32) (x2 : Int32) (x3 : Int32) (x4 : Option Nat) (h : PH) (cc sc : Nat) (H : Heap) (locs : List Loc), cc + (1 * n + 0 + rc) ≤ 40 → sc + (8 * n + 0 + rs) ≤ 320 → va_P D vwCl (hw [] h) H → va_D A (hw [] h) → va_S A s.heap H locs → ∀ ls : Array Slot, lv_has ls 11 [(0, .ref t), (1, .int x1), (2, .int x2), (3, .int x3), (4, va_rf x4)] → w_X3_pass_L237 Z t κ225 K n x1 x2 x3 x4 h → W p l e rm_X3_pass s m ([.ref t] : List Value).toArray below meth c H locs cc sc (MQ below (QMi D (hw []) K A) ([.ref t] : List Value).toArray s 40 320 A) (F0 m 237 ls []) := by
    intro rc rs κ225 hκ225 n
    induction n with
    | zero =>
      intro x1 x2 x3 x4 h cc sc  H locs hcc hsc hP hD hS ls hl hf
      exact hf.elim
    | succ n ih =>
      intro x1 x2 x3 x4 h cc sc  H locs hcc hsc hP hD hS ls hl hf
      rw [w_X3_pass_L237] at hf
      rcases x4 with _ | b66
      · have hf := opm_n hf
        have hl : lv_has ls 11 [(0, .ref t), (1, .int x1), (2, .int x2), (3, .int x3), (4, .null)] := hl
        refine lv_aloadN hx hb dX3_pass_237 (lv_at hl 4 rfl) ?_
        refine lv_ifnullN (tgt := 360) hx hb dX3_pass_239 (by decide) ?_
        refine lv_iinc (v := (x3 + 1)) (lv' := [(3, .int (x3 + 1)), (0, .ref t), (1, .int x1), (2, .int x2), (4, .null)]) hx hb dX3_pass_360 hl (k := 3) rfl rfl (by decide) rfl (fun ls hl => ?_)
        refine lv_goto (tgt := 225) hx hb dX3_pass_363 (by decide) ?_
        exact hκ225 x1 x2 (x3 + 1) h cc sc _ _ (by omega) (by omega) hP hD hS ls (lv_sub hl [1, 2, 3, 0] rfl) hf
      · have hf := opm_s hf
        have hl : lv_has ls 11 [(0, .ref t), (1, .int x1), (2, .int x2), (3, .int x3), (4, .ref b66)] := hl
        refine lv_aload hx hb dX3_pass_237 (lv_at hl 4 rfl) ?_
        refine lv_ifnull hx hb dX3_pass_239 ?_
        refine lv_aload_n hx hb dX3_pass_242 rfl (lv_at hl 0 rfl) ?_
        refine z_gR (C := RX3) (T := TX3) (N := 8) hf hx hb hts hin3 hown hK hP rfl (by decide) (hts (.fieldLink RX3 15 "PodGuidewayLaw$Sim" "waits" "[[[I") (List.mem_of_getElem? (i := 13) rfl)) dX3_pass_243 (fun b67 hf => ?_)
        refine lv_iload_n hx hb dX3_pass_246 rfl (lv_at hl 3 rfl) ?_
        refine z_aQ (tz := 3) hf hx hb hK rfl rfl hP dX3_pass_247 (fun b68 hf => ?_)
        refine z_lQ (tz := 2) hf hx hb hK rfl hP dX3_pass_248 (fun v69 hf => ?_)
        refine lv_if_le (tgt := 360) hx hb dX3_pass_249 (by decide) (fun c70 => ?_) (fun c70 => ?_)
        · have hf := itP hf c70
          refine lv_iinc (v := (x3 + 1)) (lv' := [(3, .int (x3 + 1)), (0, .ref t), (1, .int x1), (2, .int x2), (4, .ref b66)]) hx hb dX3_pass_360 hl (k := 3) rfl rfl (by decide) rfl (fun ls hl => ?_)
          refine lv_goto (tgt := 225) hx hb dX3_pass_363 (by decide) ?_
          exact hκ225 x1 x2 (x3 + 1) h cc sc _ _ (by omega) (by omega) hP hD hS ls (lv_sub hl [1, 2, 3, 0] rfl) hf
        · have hf := ifP hf c70
          refine lv_aload_n hx hb dX3_pass_252 rfl (lv_at hl 0 rfl) ?_
          refine z_gR (C := RX3) (T := TX3) (N := 8) hf hx hb hts hin3 hown hK hP rfl (by decide) (hts (.fieldLink RX3 15 "PodGuidewayLaw$Sim" "waits" "[[[I") (List.mem_of_getElem? (i := 13) rfl)) dX3_pass_253 (fun b71 hf => ?_)
          refine lv_iload_n hx hb dX3_pass_256 rfl (lv_at hl 3 rfl) ?_
          refine z_aQ (tz := 3) hf hx hb hK rfl rfl hP dX3_pass_257 (fun b72 hf => ?_)
          refine lv_iconst (v := 0) hx hb dX3_pass_258 (by decide) ?_
          refine z_aQ (tz := 2) hf hx hb hK rfl rfl hP dX3_pass_259 (fun b73 hf => ?_)
          refine lv_astore (lv' := [(5, .ref b73), (0, .ref t), (1, .int x1), (2, .int x2), (3, .int x3), (4, .ref b66)]) hx hb dX3_pass_260 hl (by decide) rfl (fun ls hl => ?_)
          refine lv_aload hx hb dX3_pass_262 (lv_at hl 5 rfl) ?_
          refine lv_aload hx hb dX3_pass_264 (lv_at hl 0 rfl) ?_
          refine lv_iconst (v := 0) hx hb dX3_pass_266 (by decide) ?_
          refine z_aI hf hx hb hK hP dX3_pass_267 (fun v74 hf => ?_)
          refine z_pV (C := RX2) (T := TX2) (N := 7) (ty := .int) hf hx hb hts hin2 tyX2 tyX2_ok nmX2 hown hK hP hD hS rfl (by decide) (hts (.fieldLink RX3 64 "PodGuidewayLaw$Pod" "goal" "I") (List.mem_of_getElem? (i := 4) rfl)) rfl (by decide +kernel) rfl rfl dX3_pass_268 (fun h75 H locs hf hP hD hS => ?_)
          refine lv_aload hx hb dX3_pass_271 (lv_at hl 5 rfl) ?_
          refine lv_iconst (v := 1) hx hb dX3_pass_273 (by decide) ?_
          refine lv_aload hx hb dX3_pass_274 (lv_at hl 0 rfl) ?_
          refine lv_iconst (v := 2) hx hb dX3_pass_276 (by decide) ?_
          refine z_aI hf hx hb hK hP dX3_pass_277 (fun v76 hf => ?_)
          refine lv_iadd hx hb dX3_pass_278 ?_
          refine z_pV (C := RX2) (T := TX2) (N := 7) (ty := .int) hf hx hb hts hin2 tyX2 tyX2_ok nmX2 hown hK hP hD hS rfl (by decide) (hts (.fieldLink RX3 67 "PodGuidewayLaw$Pod" "rider" "I") (List.mem_of_getElem? (i := 6) rfl)) rfl (by decide +kernel) rfl rfl dX3_pass_279 (fun h77 H locs hf hP hD hS => ?_)
          refine lv_aload_n hx hb dX3_pass_282 rfl (lv_at hl 1 rfl) ?_
          refine lv_dup hx hb dX3_pass_283 rfl ?_
          refine z_gI (C := RX3) (T := TX3) (N := 8) hf hx hb hts hin3 hown hK hP rfl (by decide) (hts (.fieldLink RX3 48 "PodGuidewayLaw$Sim" "boarded" "I") (List.mem_of_getElem? (i := 14) rfl)) dX3_pass_284 (fun v78 hf => ?_)
          refine lv_aload hx hb dX3_pass_287 (lv_at hl 0 rfl) ?_
          refine lv_iconst (v := 1) hx hb dX3_pass_289 (by decide) ?_
          refine z_aI hf hx hb hK hP dX3_pass_290 (fun v79 hf => ?_)
          refine lv_iadd hx hb dX3_pass_291 ?_
          refine z_pV (C := RX3) (T := TX3) (N := 8) (ty := .int) hf hx hb hts hin3 tyX3 tyX3_ok nmX3 hown hK hP hD hS rfl (by decide) (hts (.fieldLink RX3 48 "PodGuidewayLaw$Sim" "boarded" "I") (List.mem_of_getElem? (i := 14) rfl)) rfl (by decide +kernel) rfl rfl dX3_pass_292 (fun h80 H locs hf hP hD hS => ?_)
          refine lv_aload_n hx hb dX3_pass_295 rfl (lv_at hl 1 rfl) ?_
          refine z_gR (C := RX3) (T := TX3) (N := 8) hf hx hb hts hin3 hown hK hP rfl (by decide) (hts (.fieldLink RX3 15 "PodGuidewayLaw$Sim" "waits" "[[[I") (List.mem_of_getElem? (i := 13) rfl)) dX3_pass_296 (fun b81 hf => ?_)
          refine lv_iload_n hx hb dX3_pass_299 rfl (lv_at hl 4 rfl) ?_
          refine z_aQ (tz := 3) hf hx hb hK rfl rfl hP dX3_pass_300 (fun b82 hf => ?_)
          refine z_lQ (tz := 2) hf hx hb hK rfl hP dX3_pass_301 (fun v83 hf => ?_)
          refine lv_iconst (v := 1) hx hb dX3_pass_302 (by decide) ?_
          refine lv_isub hx hb dX3_pass_303 ?_
          refine z_nQ (t := .int) (k1 := 2) hf (by decide) hx hb hown (hts (.classLink RX3 33 "[I") (List.mem_of_getElem? (i := 15) rfl)) hO.1 hK rfl hP hD hS hA (show cc + 1 ≤ 40 from by omega) (show sc + 8 ≤ 320 from by omega) dX3_pass_304 (fun b84 h85 H hf hP hD hS => ?_)
          refine lv_astore (lv' := [(6, .ref b84), (5, .ref b73), (0, .ref t), (1, .int x1), (2, .int x2), (3, .int x3), (4, .ref b66)]) hx hb dX3_pass_307 hl (by decide) rfl (fun ls hl => ?_)
          refine lv_iconst (v := 0) hx hb dX3_pass_309 (by decide) ?_
          refine lv_istore (lv' := [(7, .int 0), (6, .ref b84), (5, .ref b73), (0, .ref t), (1, .int x1), (2, .int x2), (3, .int x3), (4, .ref b66)]) hx hb dX3_pass_310 hl (by decide) rfl (fun ls hl => ?_)
          exact L312 (1 * n + 0 + rc) (8 * n + 0 + rs) _ ih FU x1 x2 x3 b84 0 h85 (cc + 1) (sc + 8) _ _ (by omega) (by omega) hP hD hS ls (lv_sub hl [3, 4, 5, 6, 1, 0] rfl) hf
  have L225 : ∀ (n : Nat) (x1 : Int32) (x2 : Int32) (x3 : Int32) (h : PH) (cc sc : Nat) (H : Heap) (locs : List Loc), cc + (5 * n + 0) ≤ 40 → sc + (40 * n + 0) ≤ 320 → va_P D vwCl (hw [] h) H → va_D A (hw [] h) → va_S A s.heap H locs → ∀ ls : Array Slot, lv_has ls 11 [(0, .ref t), (1, .int x1), (2, .int x2), (3, .int x3)] → w_X3_pass_L225 Z t K n x1 x2 x3 h → W p l e rm_X3_pass s m ([.ref t] : List Value).toArray below meth c H locs cc sc (MQ below (QMi D (hw []) K A) ([.ref t] : List Value).toArray s 40 320 A) (F0 m 225 ls []) := by
    intro n
    induction n with
    | zero =>
      intro x1 x2 x3 h cc sc  H locs hcc hsc hP hD hS ls hl hf
      exact hf.elim
    | succ n ih =>
      intro x1 x2 x3 h cc sc  H locs hcc hsc hP hD hS ls hl hf
      rw [w_X3_pass_L225] at hf
      refine lv_iload_n hx hb dX3_pass_225 rfl (lv_at hl 3 rfl) ?_
      refine lv_iload_n hx hb dX3_pass_226 rfl (lv_at hl 2 rfl) ?_
      refine lv_icmp_ge (tgt := 366) hx hb dX3_pass_227 (by decide) (fun c7 => ?_) (fun c7 => ?_)
      · have hf := itP hf c7
        refine lv_iconst (v := 0) hx hb dX3_pass_366 (by decide) ?_
        refine lv_istore_n (lv' := [(3, .int 0), (0, .ref t), (1, .int x1), (2, .int x2)]) hx hb dX3_pass_367 rfl hl (by decide) rfl (fun ls hl => ?_)
        exact L368 FU x1 x2 0 h cc sc _ _ (by omega) (by omega) hP hD hS ls (lv_sub hl [1, 2, 3, 0] rfl) hf
      · have hf := ifP hf c7
        refine lv_aload_n hx hb dX3_pass_230 rfl (lv_at hl 0 rfl) ?_
        refine lv_iload_n hx hb dX3_pass_231 rfl (lv_at hl 3 rfl) ?_
        obtain ⟨hrc3, hf⟩ := hf
        refine zk_q hwX_nil (z_VP (As := [.int x3]) (rest := []) hrc3 pE_ok hE hS hA ⟨hx, hb, hml, hown, hts⟩ (m_X3_idle l D Z t x3 _ h hf) gX3_pass_X3_idle rfl rfl rfl hdv_X3_idle ⟨Nat.le_of_ble_eq_true rfl, Nat.le_of_ble_eq_true rfl⟩ hK hP hD rfl hl.1 rfl (Nat.le_of_ble_eq_true rfl) dX3_pass_232 ⟨(show cc + 0 ≤ 40 from by omega), (show sc + 0 ≤ 320 from by omega)⟩) hP hD hS hA (fun r64 h63 H locs hf hP hD hS => ?_)
        rcases r64 with _ | b65
        · have hf := opm_n hf
          refine lv_astoreN (lv' := [(4, .null), (0, .ref t), (1, .int x1), (2, .int x2), (3, .int x3)]) hx hb dX3_pass_235 hl (by decide) rfl (fun ls hl => ?_)
          exact L237 (5 * n + 0) (40 * n + 0) _ ih 5 x1 x2 x3 none h63 cc sc _ _ (by omega) (by omega) hP hD hS ls (lv_sub hl [1, 2, 3, 4, 0] rfl) hf
        · have hf := opm_s hf
          refine lv_astore (lv' := [(4, .ref b65), (0, .ref t), (1, .int x1), (2, .int x2), (3, .int x3)]) hx hb dX3_pass_235 hl (by decide) rfl (fun ls hl => ?_)
          exact L237 (5 * n + 0) (40 * n + 0) _ ih 5 x1 x2 x3 (some b65) h63 cc sc _ _ (by omega) (by omega) hP hD hS ls (lv_sub hl [1, 2, 3, 4, 0] rfl) hf
  have L175 : ∀ (rc rs : Nat), ∀ (κ75 : Int32 → Int32 → Int32 → PH → Prop), (∀ (x1 : Int32) (x2 : Int32) (x3 : Int32) (h : PH) (cc sc : Nat) (H : Heap) (locs : List Loc), cc + (rc) ≤ 40 → sc + (rs) ≤ 320 → va_P D vwCl (hw [] h) H → va_D A (hw [] h) → va_S A s.heap H locs → ∀ ls : Array Slot, lv_has ls 11 [(0, .ref t), (1, .int x1), (2, .int x2), (3, .int x3)] → κ75 x1 x2 x3 h → W p l e rm_X3_pass s m ([.ref t] : List Value).toArray below meth c H locs cc sc (MQ below (QMi D (hw []) K A) ([.ref t] : List Value).toArray s 40 320 A) (F0 m 75 ls [])) → ∀ (x1 : Int32) (x2 : Int32) (x3 : Int32) (x4 : Nat) (x5 : Int32) (h : PH) (cc sc : Nat) (H : Heap) (locs : List Loc), cc + (0 + rc) ≤ 40 → sc + (0 + rs) ≤ 320 → va_P D vwCl (hw [] h) H → va_D A (hw [] h) → va_S A s.heap H locs → ∀ ls : Array Slot, lv_has ls 11 [(0, .ref t), (1, .int x1), (2, .int x2), (3, .int x3), (4, .ref x4), (5, .int x5)] → w_X3_pass_L175 Z t κ75 K x1 x2 x3 x4 x5 h → W p l e rm_X3_pass s m ([.ref t] : List Value).toArray below meth c H locs cc sc (MQ below (QMi D (hw []) K A) ([.ref t] : List Value).toArray s 40 320 A) (F0 m 175 ls []) := by
    intro rc rs κ75 hκ75 x1 x2 x3 x4 x5 h cc sc H locs hcc hsc hP hD hS ls hl hf
    unfold w_X3_pass_L175 at hf
    refine lv_aload hx hb dX3_pass_175 (lv_at hl 4 rfl) ?_
    refine lv_iconst (v := (-1)) hx hb dX3_pass_177 (by decide) ?_
    refine z_pV (C := RX2) (T := TX2) (N := 7) (ty := .int) hf hx hb hts hin2 tyX2 tyX2_ok nmX2 hown hK hP hD hS rfl (by decide) (hts (.fieldLink RX3 51 "PodGuidewayLaw$Pod" "slot" "I") (List.mem_of_getElem? (i := 3) rfl)) rfl (by decide +kernel) rfl rfl dX3_pass_178 (fun h111 H locs hf hP hD hS => ?_)
    refine lv_aload hx hb dX3_pass_181 (lv_at hl 4 rfl) ?_
    refine lv_iload_n hx hb dX3_pass_183 rfl (lv_at hl 3 rfl) ?_
    refine z_pV (C := RX2) (T := TX2) (N := 7) (ty := .int) hf hx hb hts hin2 tyX2 tyX2_ok nmX2 hown hK hP hD hS rfl (by decide) (hts (.fieldLink RX3 54 "PodGuidewayLaw$Pod" "at" "I") (List.mem_of_getElem? (i := 10) rfl)) rfl (by decide +kernel) rfl rfl dX3_pass_184 (fun h112 H locs hf hP hD hS => ?_)
    refine lv_aload hx hb dX3_pass_187 (lv_at hl 4 rfl) ?_
    refine lv_iload hx hb dX3_pass_189 (lv_at hl 5 rfl) ?_
    refine z_pV (C := RX2) (T := TX2) (N := 7) (ty := .int) hf hx hb hts hin2 tyX2 tyX2_ok nmX2 hown hK hP hD hS rfl (by decide) (hts (.fieldLink RX3 57 "PodGuidewayLaw$Pod" "berth" "I") (List.mem_of_getElem? (i := 11) rfl)) rfl (by decide +kernel) rfl rfl dX3_pass_191 (fun h113 H locs hf hP hD hS => ?_)
    refine lv_aload hx hb dX3_pass_194 (lv_at hl 4 rfl) ?_
    refine lv_iconst (v := (-1)) hx hb dX3_pass_196 (by decide) ?_
    refine z_pV (C := RX2) (T := TX2) (N := 7) (ty := .int) hf hx hb hts hin2 tyX2 tyX2_ok nmX2 hown hK hP hD hS rfl (by decide) (hts (.fieldLink RX3 64 "PodGuidewayLaw$Pod" "goal" "I") (List.mem_of_getElem? (i := 4) rfl)) rfl (by decide +kernel) rfl rfl dX3_pass_197 (fun h114 H locs hf hP hD hS => ?_)
    refine lv_aload hx hb dX3_pass_200 (lv_at hl 4 rfl) ?_
    refine lv_iconst (v := 0) hx hb dX3_pass_202 (by decide) ?_
    refine z_pV (C := RX2) (T := TX2) (N := 7) (ty := .int) hf hx hb hts hin2 tyX2 tyX2_ok nmX2 hown hK hP hD hS rfl (by decide) (hts (.fieldLink RX3 67 "PodGuidewayLaw$Pod" "rider" "I") (List.mem_of_getElem? (i := 6) rfl)) rfl (by decide +kernel) rfl rfl dX3_pass_203 (fun h115 H locs hf hP hD hS => ?_)
    refine lv_aload hx hb dX3_pass_206 (lv_at hl 4 rfl) ?_
    refine lv_dup hx hb dX3_pass_208 rfl ?_
    refine z_gI (C := RX2) (T := TX2) (N := 7) hf hx hb hts hin2 hown hK hP rfl (by decide) (hts (.fieldLink RX3 83 "PodGuidewayLaw$Pod" "offs" "I") (List.mem_of_getElem? (i := 12) rfl)) dX3_pass_209 (fun v116 hf => ?_)
    refine lv_iconst (v := 1) hx hb dX3_pass_212 (by decide) ?_
    refine lv_iadd hx hb dX3_pass_213 ?_
    refine z_pV (C := RX2) (T := TX2) (N := 7) (ty := .int) hf hx hb hts hin2 tyX2 tyX2_ok nmX2 hown hK hP hD hS rfl (by decide) (hts (.fieldLink RX3 83 "PodGuidewayLaw$Pod" "offs" "I") (List.mem_of_getElem? (i := 12) rfl)) rfl (by decide +kernel) rfl rfl dX3_pass_214 (fun h117 H locs hf hP hD hS => ?_)
    refine lv_iinc (v := (x3 + 1)) (lv' := [(3, .int (x3 + 1)), (0, .ref t), (1, .int x1), (2, .int x2), (4, .ref x4), (5, .int x5)]) hx hb dX3_pass_217 hl (k := 3) rfl rfl (by decide) rfl (fun ls hl => ?_)
    refine lv_goto (tgt := 75) hx hb dX3_pass_220 (by decide) ?_
    exact hκ75 x1 x2 (x3 + 1) h117 cc sc _ _ (by omega) (by omega) hP hD hS ls (lv_sub hl [1, 2, 3, 0] rfl) hf
  have L156 : ∀ (rc rs : Nat), ∀ (κ75 : Int32 → Int32 → Int32 → PH → Prop), (∀ (x1 : Int32) (x2 : Int32) (x3 : Int32) (h : PH) (cc sc : Nat) (H : Heap) (locs : List Loc), cc + (rc) ≤ 40 → sc + (rs) ≤ 320 → va_P D vwCl (hw [] h) H → va_D A (hw [] h) → va_S A s.heap H locs → ∀ ls : Array Slot, lv_has ls 11 [(0, .ref t), (1, .int x1), (2, .int x2), (3, .int x3)] → κ75 x1 x2 x3 h → W p l e rm_X3_pass s m ([.ref t] : List Value).toArray below meth c H locs cc sc (MQ below (QMi D (hw []) K A) ([.ref t] : List Value).toArray s 40 320 A) (F0 m 75 ls [])) → ∀ (x1 : Int32) (x2 : Int32) (x3 : Int32) (x4 : Nat) (x5 : Int32) (h : PH) (cc sc : Nat) (H : Heap) (locs : List Loc), cc + (0 + rc) ≤ 40 → sc + (0 + rs) ≤ 320 → va_P D vwCl (hw [] h) H → va_D A (hw [] h) → va_S A s.heap H locs → ∀ ls : Array Slot, lv_has ls 11 [(0, .ref t), (1, .int x1), (2, .int x2), (3, .int x3), (4, .ref x4), (5, .int x5)] → w_X3_pass_L156 Z t κ75 K x1 x2 x3 x4 x5 h → W p l e rm_X3_pass s m ([.ref t] : List Value).toArray below meth c H locs cc sc (MQ below (QMi D (hw []) K A) ([.ref t] : List Value).toArray s 40 320 A) (F0 m 156 ls []) := by
    intro rc rs κ75 hκ75 x1 x2 x3 x4 x5 h cc sc H locs hcc hsc hP hD hS ls hl hf
    unfold w_X3_pass_L156 at hf
    refine lv_aload hx hb dX3_pass_156 (lv_at hl 4 rfl) ?_
    refine z_gI (C := RX2) (T := TX2) (N := 7) hf hx hb hts hin2 hown hK hP rfl (by decide) (hts (.fieldLink RX3 67 "PodGuidewayLaw$Pod" "rider" "I") (List.mem_of_getElem? (i := 6) rfl)) dX3_pass_158 (fun v109 hf => ?_)
    refine lv_iconst (v := 2) hx hb dX3_pass_161 (by decide) ?_
    refine lv_icmp_ne (tgt := 175) hx hb dX3_pass_162 (by decide) (fun c110 => ?_) (fun c110 => ?_)
    · have hf := ifP hf c110
      exact L175 rc rs κ75 hκ75 x1 x2 x3 x4 x5 h cc sc _ _ (by omega) (by omega) hP hD hS ls (lv_sub hl [0, 1, 2, 3, 4, 5] rfl) hf
    · have hf := itP hf c110
      refine lv_aload_n hx hb dX3_pass_165 rfl (lv_at hl 0 rfl) ?_
      refine lv_aload_n hx hb dX3_pass_166 rfl (lv_at hl 0 rfl) ?_
      refine z_gI (C := RX3) (T := TX3) (N := 8) hf hx hb hts hin3 hown hK hP rfl (by decide) (hts (.fieldLink RX3 42 "PodGuidewayLaw$Sim" "minute" "I") (List.mem_of_getElem? (i := 8) rfl)) dX3_pass_167 (fun v118 hf => ?_)
      refine lv_iconst (v := 1) hx hb dX3_pass_170 (by decide) ?_
      refine lv_iadd hx hb dX3_pass_171 ?_
      refine z_pV (C := RX3) (T := TX3) (N := 8) (ty := .int) hf hx hb hts hin3 tyX3 tyX3_ok nmX3 hown hK hP hD hS rfl (by decide) (hts (.fieldLink RX3 28 "PodGuidewayLaw$Sim" "followed" "I") (List.mem_of_getElem? (i := 9) rfl)) rfl (by decide +kernel) rfl rfl dX3_pass_172 (fun h119 H locs hf hP hD hS => ?_)
      exact L175 rc rs κ75 hκ75 x1 x2 x3 x4 x5 h119 cc sc _ _ (by omega) (by omega) hP hD hS ls (lv_sub hl [0, 1, 2, 3, 4, 5] rfl) hf
  have L75 : ∀ (n : Nat) (x1 : Int32) (x2 : Int32) (x3 : Int32) (h : PH) (cc sc : Nat) (H : Heap) (locs : List Loc), cc + (40) ≤ 40 → sc + (320) ≤ 320 → va_P D vwCl (hw [] h) H → va_D A (hw [] h) → va_S A s.heap H locs → ∀ ls : Array Slot, lv_has ls 11 [(0, .ref t), (1, .int x1), (2, .int x2), (3, .int x3)] → w_X3_pass_L75 Z t K n x1 x2 x3 h → W p l e rm_X3_pass s m ([.ref t] : List Value).toArray below meth c H locs cc sc (MQ below (QMi D (hw []) K A) ([.ref t] : List Value).toArray s 40 320 A) (F0 m 75 ls []) := by
    intro n
    induction n with
    | zero =>
      intro x1 x2 x3 h cc sc  H locs hcc hsc hP hD hS ls hl hf
      exact hf.elim
    | succ n ih =>
      intro x1 x2 x3 h cc sc  H locs hcc hsc hP hD hS ls hl hf
      rw [w_X3_pass_L75] at hf
      refine lv_iload_n hx hb dX3_pass_75 rfl (lv_at hl 3 rfl) ?_
      refine lv_iload_n hx hb dX3_pass_76 rfl (lv_at hl 2 rfl) ?_
      refine lv_icmp_ge (tgt := 223) hx hb dX3_pass_77 (by decide) (fun c6 => ?_) (fun c6 => ?_)
      · have hf := itP hf c6
        refine lv_iconst (v := 0) hx hb dX3_pass_223 (by decide) ?_
        refine lv_istore_n (lv' := [(3, .int 0), (0, .ref t), (1, .int x1), (2, .int x2)]) hx hb dX3_pass_224 rfl hl (by decide) rfl (fun ls hl => ?_)
        exact L225 8 x1 x2 0 h cc sc _ _ (by omega) (by omega) hP hD hS ls (lv_sub hl [1, 2, 3, 0] rfl) hf
      · have hf := ifP hf c6
        refine lv_aload_n hx hb dX3_pass_80 rfl (lv_at hl 0 rfl) ?_
        refine lv_aload_n hx hb dX3_pass_81 rfl (lv_at hl 0 rfl) ?_
        refine z_gR (C := RX3) (T := TX3) (N := 8) hf hx hb hts hin3 hown hK hP rfl (by decide) (hts (.fieldLink RX3 7 "PodGuidewayLaw$Sim" "place" "[I") (List.mem_of_getElem? (i := 1) rfl)) dX3_pass_82 (fun b97 hf => ?_)
        refine lv_iload_n hx hb dX3_pass_85 rfl (lv_at hl 3 rfl) ?_
        refine z_aI hf hx hb hK hP dX3_pass_86 (fun v98 hf => ?_)
        obtain ⟨hrc3, hf⟩ := hf
        refine zk_q hwX_nil (z_VP (As := [.int v98]) (rest := []) hrc3 pE_ok hE hS hA ⟨hx, hb, hml, hown, hts⟩ (m_X3_slot l D Z t v98 _ h hf) gX3_pass_X3_slot rfl rfl rfl hdv_X3_slot ⟨Nat.le_of_ble_eq_true rfl, Nat.le_of_ble_eq_true rfl⟩ hK hP hD rfl hl.1 rfl (Nat.le_of_ble_eq_true rfl) dX3_pass_87 ⟨(show cc + 0 ≤ 40 from by omega), (show sc + 0 ≤ 320 from by omega)⟩) hP hD hS hA (fun r100 h99 H locs hf hP hD hS => ?_)
        rcases r100 with _ | b101
        · have hf := opm_n hf
          refine lv_astoreN (lv' := [(4, .null), (0, .ref t), (1, .int x1), (2, .int x2), (3, .int x3)]) hx hb dX3_pass_90 hl (by decide) rfl (fun ls hl => ?_)
          refine lv_aloadN hx hb dX3_pass_92 (lv_at hl 0 rfl) ?_
          refine lv_ifnullN (tgt := 217) hx hb dX3_pass_94 (by decide) ?_
          refine lv_iinc (v := (x3 + 1)) (lv' := [(3, .int (x3 + 1)), (4, .null), (0, .ref t), (1, .int x1), (2, .int x2)]) hx hb dX3_pass_217 hl (k := 4) rfl rfl (by decide) rfl (fun ls hl => ?_)
          refine lv_goto (tgt := 75) hx hb dX3_pass_220 (by decide) ?_
          exact ih x1 x2 (x3 + 1) h99 cc sc _ _ (by omega) (by omega) hP hD hS ls (lv_sub hl [2, 3, 4, 0] rfl) hf
        · have hf := opm_s hf
          refine lv_astore (lv' := [(4, .ref b101), (0, .ref t), (1, .int x1), (2, .int x2), (3, .int x3)]) hx hb dX3_pass_90 hl (by decide) rfl (fun ls hl => ?_)
          refine lv_aload hx hb dX3_pass_92 (lv_at hl 0 rfl) ?_
          refine lv_ifnull hx hb dX3_pass_94 ?_
          refine lv_aload hx hb dX3_pass_97 (lv_at hl 0 rfl) ?_
          refine z_gI (C := RX2) (T := TX2) (N := 7) hf hx hb hts hin2 hown hK hP rfl (by decide) (hts (.fieldLink RX3 64 "PodGuidewayLaw$Pod" "goal" "I") (List.mem_of_getElem? (i := 4) rfl)) dX3_pass_99 (fun v102 hf => ?_)
          refine lv_iload_n hx hb dX3_pass_102 rfl (lv_at hl 4 rfl) ?_
          refine lv_icmp_eq (tgt := 109) hx hb dX3_pass_103 (by decide) (fun c103 => ?_) (fun c103 => ?_)
          · have hf := itP hf c103
            refine lv_aload_n hx hb dX3_pass_109 rfl (lv_at hl 1 rfl) ?_
            refine lv_iload_n hx hb dX3_pass_110 rfl (lv_at hl 4 rfl) ?_
            obtain ⟨hrc3, hf⟩ := hf
            refine zk_i hwX_nil (z_VP (As := [.int x3]) (rest := []) hrc3 pE_ok hE hS hA ⟨hx, hb, hml, hown, hts⟩ (m_X3_free l D Z t x3 _ h99 hf) gX3_pass_X3_free rfl rfl rfl hdv_X3_free ⟨Nat.le_of_ble_eq_true rfl, Nat.le_of_ble_eq_true rfl⟩ hK hP hD rfl hl.1 rfl (Nat.le_of_ble_eq_true rfl) dX3_pass_111 ⟨(show cc + 0 ≤ 40 from by omega), (show sc + 0 ≤ 320 from by omega)⟩) hP hD hS hA (fun v105 h104 H locs hf hP hD hS => ?_)
            refine lv_istore (lv' := [(5, .int v105), (4, .ref b101), (0, .ref t), (1, .int x1), (2, .int x2), (3, .int x3)]) hx hb dX3_pass_114 hl (by decide) rfl (fun ls hl => ?_)
            refine lv_iload hx hb dX3_pass_116 (lv_at hl 0 rfl) ?_
            refine lv_if_ge (tgt := 135) hx hb dX3_pass_118 (by decide) (fun c106 => ?_) (fun c106 => ?_)
            · have hf := itP hf c106
              refine lv_aload hx hb dX3_pass_135 (lv_at hl 1 rfl) ?_
              refine z_gI (C := RX2) (T := TX2) (N := 7) hf hx hb hts hin2 hown hK hP rfl (by decide) (hts (.fieldLink RX3 67 "PodGuidewayLaw$Pod" "rider" "I") (List.mem_of_getElem? (i := 6) rfl)) dX3_pass_137 (fun v107 hf => ?_)
              refine lv_if_le (tgt := 156) hx hb dX3_pass_140 (by decide) (fun c108 => ?_) (fun c108 => ?_)
              · have hf := itP hf c108
                exact L156 (40) (320) _ ih x1 x2 x3 b101 v105 h104 cc sc _ _ (by omega) (by omega) hP hD hS ls (lv_sub hl [2, 3, 4, 5, 1, 0] rfl) hf
              · have hf := ifP hf c108
                refine lv_aload_n hx hb dX3_pass_143 rfl (lv_at hl 2 rfl) ?_
                refine z_gR (C := RX3) (T := TX3) (N := 8) hf hx hb hts hin3 hown hK hP rfl (by decide) (hts (.fieldLink RX3 19 "PodGuidewayLaw$Sim" "arrived" "[I") (List.mem_of_getElem? (i := 7) rfl)) dX3_pass_144 (fun b120 hf => ?_)
                refine lv_iload_n hx hb dX3_pass_147 rfl (lv_at hl 5 rfl) ?_
                refine lv_dup2_11 hx hb dX3_pass_148 rfl rfl ?_
                refine z_aI hf hx hb hK hP dX3_pass_149 (fun v121 hf => ?_)
                refine lv_iconst (v := 1) hx hb dX3_pass_150 (by decide) ?_
                refine lv_iadd hx hb dX3_pass_151 ?_
                refine z_sA hf hx hb hK hP hD hS dX3_pass_152 (fun h122 H locs hf hP hD hS => ?_)
                refine lv_iinc (v := (x1 + 1)) (lv' := [(1, .int (x1 + 1)), (5, .int v105), (4, .ref b101), (0, .ref t), (2, .int x2), (3, .int x3)]) hx hb dX3_pass_153 hl (k := 3) rfl rfl (by decide) rfl (fun ls hl => ?_)
                exact L156 (40) (320) _ ih (x1 + 1) x2 x3 b101 v105 h122 cc sc _ _ (by omega) (by omega) hP hD hS ls (lv_sub hl [3, 0, 4, 5, 2, 1] rfl) hf
            · have hf := ifP hf c106
              refine lv_aload hx hb dX3_pass_121 (lv_at hl 1 rfl) ?_
              refine lv_dup hx hb dX3_pass_123 rfl ?_
              refine z_gI (C := RX2) (T := TX2) (N := 7) hf hx hb hts hin2 hown hK hP rfl (by decide) (hts (.fieldLink RX3 80 "PodGuidewayLaw$Pod" "missed" "I") (List.mem_of_getElem? (i := 5) rfl)) dX3_pass_124 (fun v123 hf => ?_)
              refine lv_iconst (v := 1) hx hb dX3_pass_127 (by decide) ?_
              refine lv_iadd hx hb dX3_pass_128 ?_
              refine z_pV (C := RX2) (T := TX2) (N := 7) (ty := .int) hf hx hb hts hin2 tyX2 tyX2_ok nmX2 hown hK hP hD hS rfl (by decide) (hts (.fieldLink RX3 80 "PodGuidewayLaw$Pod" "missed" "I") (List.mem_of_getElem? (i := 5) rfl)) rfl (by decide +kernel) rfl rfl dX3_pass_129 (fun h124 H locs hf hP hD hS => ?_)
              refine lv_goto (tgt := 217) hx hb dX3_pass_132 (by decide) ?_
              refine lv_iinc (v := (x3 + 1)) (lv' := [(3, .int (x3 + 1)), (5, .int v105), (4, .ref b101), (0, .ref t), (1, .int x1), (2, .int x2)]) hx hb dX3_pass_217 hl (k := 5) rfl rfl (by decide) rfl (fun ls hl => ?_)
              refine lv_goto (tgt := 75) hx hb dX3_pass_220 (by decide) ?_
              exact ih x1 x2 (x3 + 1) h124 cc sc _ _ (by omega) (by omega) hP hD hS ls (lv_sub hl [3, 4, 5, 0] rfl) hf
          · have hf := ifP hf c103
            refine lv_goto (tgt := 217) hx hb dX3_pass_106 (by decide) ?_
            refine lv_iinc (v := (x3 + 1)) (lv' := [(3, .int (x3 + 1)), (4, .ref b101), (0, .ref t), (1, .int x1), (2, .int x2)]) hx hb dX3_pass_217 hl (k := 4) rfl rfl (by decide) rfl (fun ls hl => ?_)
            refine lv_goto (tgt := 75) hx hb dX3_pass_220 (by decide) ?_
            exact ih x1 x2 (x3 + 1) h99 cc sc _ _ (by omega) (by omega) hP hD hS ls (lv_sub hl [2, 3, 4, 0] rfl) hf
  have L20 : ∀ (n : Nat) (x1 : Int32) (x2 : Int32) (x3 : Nat) (x4 : Int32) (x5 : Int32) (h : PH) (cc sc : Nat) (H : Heap) (locs : List Loc), cc + (40) ≤ 40 → sc + (320) ≤ 320 → va_P D vwCl (hw [] h) H → va_D A (hw [] h) → va_S A s.heap H locs → ∀ ls : Array Slot, lv_has ls 11 [(0, .ref t), (1, .int x1), (2, .int x2), (3, .ref x3), (4, .int x4), (5, .int x5)] → w_X3_pass_L20 Z t K n x1 x2 x3 x4 x5 h → W p l e rm_X3_pass s m ([.ref t] : List Value).toArray below meth c H locs cc sc (MQ below (QMi D (hw []) K A) ([.ref t] : List Value).toArray s 40 320 A) (F0 m 20 ls []) := by
    intro n
    induction n with
    | zero =>
      intro x1 x2 x3 x4 x5 h cc sc  H locs hcc hsc hP hD hS ls hl hf
      exact hf.elim
    | succ n ih =>
      intro x1 x2 x3 x4 x5 h cc sc  H locs hcc hsc hP hD hS ls hl hf
      rw [w_X3_pass_L20] at hf
      refine lv_iload hx hb dX3_pass_20 (lv_at hl 5 rfl) ?_
      refine lv_iload hx hb dX3_pass_22 (lv_at hl 4 rfl) ?_
      refine lv_icmp_ge (tgt := 73) hx hb dX3_pass_24 (by decide) (fun c5 => ?_) (fun c5 => ?_)
      · have hf := itP hf c5
        refine lv_iconst (v := 0) hx hb dX3_pass_73 (by decide) ?_
        refine lv_istore_n (lv' := [(3, .int 0), (0, .ref t), (1, .int x1), (2, .int x2), (4, .int x4), (5, .int x5)]) hx hb dX3_pass_74 rfl hl (by decide) rfl (fun ls hl => ?_)
        exact L75 FU x1 x2 0 h cc sc _ _ (by omega) (by omega) hP hD hS ls (lv_sub hl [1, 2, 3, 0] rfl) hf
      · have hf := ifP hf c5
        refine lv_aload_n hx hb dX3_pass_27 rfl (lv_at hl 3 rfl) ?_
        refine lv_iload hx hb dX3_pass_28 (lv_at hl 5 rfl) ?_
        refine z_aQ (tz := 1) hf hx hb hK rfl rfl hP dX3_pass_30 (fun b125 hf => ?_)
        refine lv_astore (lv' := [(6, .ref b125), (0, .ref t), (1, .int x1), (2, .int x2), (3, .ref x3), (4, .int x4), (5, .int x5)]) hx hb dX3_pass_31 hl (by decide) rfl (fun ls hl => ?_)
        refine lv_aload hx hb dX3_pass_33 (lv_at hl 0 rfl) ?_
        refine z_gI (C := RX2) (T := TX2) (N := 7) hf hx hb hts hin2 hown hK hP rfl (by decide) (hts (.fieldLink RX3 51 "PodGuidewayLaw$Pod" "slot" "I") (List.mem_of_getElem? (i := 3) rfl)) dX3_pass_35 (fun v126 hf => ?_)
        refine lv_if_lt (tgt := 67) hx hb dX3_pass_38 (by decide) (fun c127 => ?_) (fun c127 => ?_)
        · have hf := itP hf c127
          refine lv_iinc (v := (x5 + 1)) (lv' := [(5, .int (x5 + 1)), (6, .ref b125), (0, .ref t), (1, .int x1), (2, .int x2), (3, .ref x3), (4, .int x4)]) hx hb dX3_pass_67 hl (k := 6) rfl rfl (by decide) rfl (fun ls hl => ?_)
          refine lv_goto (tgt := 20) hx hb dX3_pass_70 (by decide) ?_
          exact ih x1 x2 x3 x4 (x5 + 1) h cc sc _ _ (by omega) (by omega) hP hD hS ls (lv_sub hl [2, 3, 4, 5, 6, 0] rfl) hf
        · have hf := ifP hf c127
          refine lv_aload hx hb dX3_pass_41 (lv_at hl 0 rfl) ?_
          refine lv_aload hx hb dX3_pass_43 (lv_at hl 0 rfl) ?_
          refine z_gI (C := RX2) (T := TX2) (N := 7) hf hx hb hts hin2 hown hK hP rfl (by decide) (hts (.fieldLink RX3 51 "PodGuidewayLaw$Pod" "slot" "I") (List.mem_of_getElem? (i := 3) rfl)) dX3_pass_45 (fun v128 hf => ?_)
          refine lv_bipush (v := 23) hx hb dX3_pass_48 (by decide) ?_
          refine lv_icmp_ne (tgt := 57) hx hb dX3_pass_50 (by decide) (fun c129 => ?_) (fun c129 => ?_)
          · have hf := ifP hf c129
            refine lv_aload hx hb dX3_pass_57 (lv_at hl 0 rfl) ?_
            refine z_gI (C := RX2) (T := TX2) (N := 7) hf hx hb hts hin2 hown hK hP rfl (by decide) (hts (.fieldLink RX3 51 "PodGuidewayLaw$Pod" "slot" "I") (List.mem_of_getElem? (i := 3) rfl)) dX3_pass_59 (fun v130 hf => ?_)
            refine lv_iconst (v := 1) hx hb dX3_pass_62 (by decide) ?_
            refine lv_iadd hx hb dX3_pass_63 ?_
            refine z_pV (C := RX2) (T := TX2) (N := 7) (ty := .int) hf hx hb hts hin2 tyX2 tyX2_ok nmX2 hown hK hP hD hS rfl (by decide) (hts (.fieldLink RX3 51 "PodGuidewayLaw$Pod" "slot" "I") (List.mem_of_getElem? (i := 3) rfl)) rfl (by decide +kernel) rfl rfl dX3_pass_64 (fun h131 H locs hf hP hD hS => ?_)
            refine lv_iinc (v := (x5 + 1)) (lv' := [(5, .int (x5 + 1)), (6, .ref b125), (0, .ref t), (1, .int x1), (2, .int x2), (3, .ref x3), (4, .int x4)]) hx hb dX3_pass_67 hl (k := 6) rfl rfl (by decide) rfl (fun ls hl => ?_)
            refine lv_goto (tgt := 20) hx hb dX3_pass_70 (by decide) ?_
            exact ih x1 x2 x3 x4 (x5 + 1) h131 cc sc _ _ (by omega) (by omega) hP hD hS ls (lv_sub hl [2, 3, 4, 5, 6, 0] rfl) hf
          · have hf := itP hf c129
            refine lv_iconst (v := 0) hx hb dX3_pass_53 (by decide) ?_
            refine lv_goto (tgt := 64) hx hb dX3_pass_54 (by decide) ?_
            refine z_pV (C := RX2) (T := TX2) (N := 7) (ty := .int) hf hx hb hts hin2 tyX2 tyX2_ok nmX2 hown hK hP hD hS rfl (by decide) (hts (.fieldLink RX3 51 "PodGuidewayLaw$Pod" "slot" "I") (List.mem_of_getElem? (i := 3) rfl)) rfl (by decide +kernel) rfl rfl dX3_pass_64 (fun h132 H locs hf hP hD hS => ?_)
            refine lv_iinc (v := (x5 + 1)) (lv' := [(5, .int (x5 + 1)), (6, .ref b125), (0, .ref t), (1, .int x1), (2, .int x2), (3, .ref x3), (4, .int x4)]) hx hb dX3_pass_67 hl (k := 6) rfl rfl (by decide) rfl (fun ls hl => ?_)
            refine lv_goto (tgt := 20) hx hb dX3_pass_70 (by decide) ?_
            exact ih x1 x2 x3 x4 (x5 + 1) h132 cc sc _ _ (by omega) (by omega) hP hD hS ls (lv_sub hl [2, 3, 4, 5, 6, 0] rfl) hf
  unfold w_X3_pass at hf
  refine lv_iconst (v := 0) hx hb dX3_pass_0 (by decide) ?_
  refine lv_istore_n (lv' := [(1, .int 0), (0, .ref t)]) hx hb dX3_pass_1 rfl hl (by decide) rfl (fun ls hl => ?_)
  refine lv_aload_n hx hb dX3_pass_2 rfl (lv_at hl 1 rfl) ?_
  refine z_gR (C := RX3) (T := TX3) (N := 8) hf hx hb hts hin3 hown hK hP rfl (by decide) (hts (.fieldLink RX3 7 "PodGuidewayLaw$Sim" "place" "[I") (List.mem_of_getElem? (i := 1) rfl)) dX3_pass_3 (fun b1 hf => ?_)
  refine z_lI hf hx hb hK hP dX3_pass_6 (fun v2 hf => ?_)
  refine lv_istore_n (lv' := [(2, .int v2), (1, .int 0), (0, .ref t)]) hx hb dX3_pass_7 rfl hl (by decide) rfl (fun ls hl => ?_)
  refine lv_aload_n hx hb dX3_pass_8 rfl (lv_at hl 2 rfl) ?_
  refine z_gR (C := RX3) (T := TX3) (N := 8) hf hx hb hts hin3 hown hK hP rfl (by decide) (hts (.fieldLink RX3 24 "PodGuidewayLaw$Sim" "pods" "[LPodGuidewayLaw$Pod;") (List.mem_of_getElem? (i := 2) rfl)) dX3_pass_9 (fun b3 hf => ?_)
  refine lv_astore_n (lv' := [(3, .ref b3), (2, .int v2), (1, .int 0), (0, .ref t)]) hx hb dX3_pass_12 rfl hl (by decide) rfl (fun ls hl => ?_)
  refine lv_aload_n hx hb dX3_pass_13 rfl (lv_at hl 0 rfl) ?_
  refine z_lQ (tz := 1) hf hx hb hK rfl hP dX3_pass_14 (fun v4 hf => ?_)
  refine lv_istore (lv' := [(4, .int v4), (3, .ref b3), (2, .int v2), (1, .int 0), (0, .ref t)]) hx hb dX3_pass_15 hl (by decide) rfl (fun ls hl => ?_)
  refine lv_iconst (v := 0) hx hb dX3_pass_17 (by decide) ?_
  refine lv_istore (lv' := [(5, .int 0), (4, .int v4), (3, .ref b3), (2, .int v2), (1, .int 0), (0, .ref t)]) hx hb dX3_pass_18 hl (by decide) rfl (fun ls hl => ?_)
  exact L20 FU 0 v2 b3 v4 0 h 0 0 _ _ (by omega) (by omega) hP hD hS ls (lv_sub hl [5, 4, 3, 2, 1, 0] rfl) hf

