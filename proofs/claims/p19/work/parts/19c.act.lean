theorem z_nilP {D : va_G} {H : Heap} : va_P D vwCl ([] : va_W) H := fun k q h => by cases h
theorem z_nilD {A : Nat → Prop} : va_D A ([] : va_W) := ⟨fun i j p q h => (by cases h), fun k q h => (by cases h)⟩
def f_L_below (x n : Int32) : Option Int32 := if n = 0 then none else some ((x &&& 2147483647) - (x &&& 2147483647) / n * n)
abbrev rm_L_below : Room := { frames := 0, cells := 0, slots := 0, locals := 0 }
theorem hds_L_below : yL_below.cls ≠ "java/lang/invoke/MethodHandle" ∧ yL_below.cls ≠ "java/lang/invoke/VarHandle" ∧ (parseMethodDescriptor yL_below.desc).map (fun d => d.parameters.length) = some 2 := by decide +kernel
set_option maxHeartbeats 4000000 in
set_option maxRecDepth 100000 in
theorem m_L_below (l : Launch) (D : va_G) (Z : Nat → ClassId) (p0 p1 : Int32) (r : Int32) (hf : f_L_below p0 p1 = some r) : ROi l yL_below wsL_below rm_L_below D Z [.int p0, .int p1] [] r := by
  refine ROi.of (cc := cL_below) (nL := 2) (ret := (some .int)) (by decide +kernel) rfl (Nat.le_of_ble_eq_true rfl) ?_
  intro p e s m below meth c hC hA hP hK hD hS ls hl
  obtain ⟨hx, hb, hr, hml, hown, hts, hlk, -⟩ := hC
  have hown : s.vm.findClass RL = some m.cls := hown
  have hl : lv_has ls 2 [(0, .int p0), (1, .int p1)] := hl
  unfold f_L_below at hf
  obtain ⟨hne, hf⟩ := if_g hf
  refine lv_iload_n hx hb dL_below_0 rfl (lv_at hl 0 rfl) ?_
  refine lv_ldc (v := 2147483647) hx hb hown (hts (.constant RL 7 (2147483647)) (List.mem_of_getElem? (i := 1) rfl)) dL_below_1 ?_
  refine lv_iand hx hb dL_below_3 ?_
  refine lv_iload_n hx hb dL_below_4 rfl (lv_at hl 1 rfl) ?_
  refine lv_irem hx hb dL_below_5 hne ?_
  exact zr_i hx hb hr hlk hS (Option.some.inj hf) dL_below_6
def f_L_cell (L : Nat) (xs : Nat → Int32) (k : Int32) : Option Int32 := if nI L ≤ k then some (790386105 * (k + 3)) else if k < 0 ∨ L ≤ k.toNatClampNeg then none else some (xs k.toNatClampNeg)
abbrev rm_L_cell : Room := { frames := 0, cells := 0, slots := 0, locals := 0 }
theorem hds_L_cell : yL_cell.cls ≠ "java/lang/invoke/MethodHandle" ∧ yL_cell.cls ≠ "java/lang/invoke/VarHandle" ∧ (parseMethodDescriptor yL_cell.desc).map (fun d => d.parameters.length) = some 2 := by decide +kernel
set_option maxHeartbeats 4000000 in
set_option maxRecDepth 100000 in
theorem m_L_cell (l : Launch) (D : va_G) (Z : Nat → ClassId) (bs L : Nat) (xs : Nat → Int32) (p1 : Int32) (r : Int32) (hf : f_L_cell L xs p1 = some r) : GOi l yL_cell wsL_cell rm_L_cell D Z (sE bs L xs) [.ref bs, .int p1] [] r := by
  refine GOi.of (cc := cL_cell) (nL := 2) (ret := (some .int)) (by decide +kernel) rfl (Nat.le_of_ble_eq_true rfl) ?_
  intro p e s m below meth c A0 hC hE hA0 hA hP hK hD hS ls hl
  obtain ⟨hx, hb, hr, hml, hown, hts, hlk, -⟩ := hC
  have hown : s.vm.findClass RL = some m.cls := hown
  obtain ⟨-, hX, hbl, -⟩ := hE
  have hbA : ¬ (fun q : Nat => s.heap.size ≤ q) bs := Nat.not_le.mpr hbl
  have hl : lv_has ls 2 [(0, .ref bs), (1, .int p1)] := hl
  unfold f_L_cell at hf
  refine lv_iload_n hx hb dL_cell_0 rfl (lv_at hl 1 rfl) ?_
  refine lv_aload_n hx hb dL_cell_1 rfl (lv_at hl 0 rfl) ?_
  refine va_slen hx hb hX hbl hbA hS dL_cell_2 ?_
  refine lv_icmp_ge (tgt := 12) hx hb dL_cell_3 (by decide) (fun c1 => ?_) (fun c1 => ?_)
  · have hf := if_t hf c1
    refine lv_ldc (v := 790386105) hx hb hown (hts (.constant RL 8 (790386105)) (List.mem_of_getElem? (i := 1) rfl)) dL_cell_12 ?_
    refine lv_iload_n hx hb dL_cell_14 rfl (lv_at hl 1 rfl) ?_
    refine lv_iconst (v := 3) hx hb dL_cell_15 (by decide) ?_
    refine lv_iadd hx hb dL_cell_16 ?_
    refine lv_imul hx hb dL_cell_17 ?_
    exact zr_i hx hb hr hlk hS (Option.some.inj hf) dL_cell_18
  · have hf := if_f hf c1
    obtain ⟨hg, hf⟩ := if_g hf
    refine lv_aload_n hx hb dL_cell_6 rfl (lv_at hl 0 rfl) ?_
    refine lv_iload_n hx hb dL_cell_7 rfl (lv_at hl 1 rfl) ?_
    refine va_sld hx hb hX hbl hbA hS hg dL_cell_8 ?_
    refine lv_goto (tgt := 18) hx hb dL_cell_9 (by decide) ?_
    exact zr_i hx hb hr hlk hS (Option.some.inj hf) dL_cell_18
def w_L_act_L120 (Z : Nat → ClassId) (p1 : Nat) (p2 : Int32)  (K : Int32 → WX → Prop) : Nat → Int32 → Int32 → Nat → Int32 → Int32 → RS → RS → PH → Prop
  | 0, _, _, _, _, _, _, _, _ => False
  | n + 1, x3, x7, x8, x9, x10, S, T, h =>
    if x9 ≤ x10 then
      if x3 = 6 then
        K 1 (S, T, h)
      else
        rc3 h p1 ∧ w_X3_build Z p1 x7 (fun h21 =>
          okP3 (f_X1_build S T x7) fun v23 S24 T25 =>
          if v23 = x3 then
            K 1 (S24, T25, h21)
          else
            K 0 (S24, T25, h21)) h
    else
      ldI Z h x8 x10 fun v27 =>
      if v27 = x7 then
        K 1 (S, T, h)
      else
        w_L_act_L120 Z p1 p2 K n x3 x7 x8 x9 (x10 + 1) S T h
def w_L_act_L209 (Z : Nat → ClassId) (p1 : Nat) (p2 : Int32)  (K : Int32 → WX → Prop) : Nat → Int32 → Int32 → Nat → Int32 → RS → RS → PH → Prop
  | 0, _, _, _, _, _, _, _ => False
  | n + 1, x4, x5, x8, x9, S, T, h =>
    if x4 ≤ x9 then
      nO h 2 [.int 0, .int 0, .int 0, .int 0, .int 0, .int 0, .int 0] fun b37 h38 =>
      w_X2_init Z b37 (fun h39 =>
        sQ1 Z h39 x8 x4 b37 fun h40 =>
        ldQ Z h40 1 x8 x4 fun b41 =>
        pV h40 2 1 b41 (.int x5) fun h42 =>
        ldQ Z h42 1 x8 x4 fun b43 =>
        rc3 h42 p1 ∧ w_X3_free Z p1 x5 (fun v45 h44 =>
          pV h44 2 2 b43 (.int v45) fun h46 =>
          pV h46 3 3 p1 (.ref x8) fun h47 =>
          okP3 (f_X1_pod S T x5) fun v49 S50 T51 =>
          if v49 = x4 then
            K 1 (S50, T51, h47)
          else
            K 0 (S50, T51, h47)) h42) h38
    else
      gR h 3 3 p1 fun b53 =>
      ldQ Z h 1 b53 x9 fun b54 =>
      sQ1 Z h x8 x9 b54 fun h55 =>
      w_L_act_L209 Z p1 p2 K n x4 x5 x8 (x9 + 1) S T h55
def w_L_act_L179 (Z : Nat → ClassId) (p1 : Nat) (p2 : Int32)  (K : Int32 → WX → Prop) (x4 : Int32) (x5 : Int32) (S : RS) (T : RS) (h : PH) : Prop :=
  if x4 = 12 then
    K 1 (S, T, h)
  else
    rc3 h p1 ∧ w_X3_free Z p1 x5 (fun v32 h31 =>
      if 0 ≤ v32 then
        nQ Z h31 1 (x4 + 1) 12 fun b34 h35 =>
        w_L_act_L209 Z p1 p2 K FU x4 x5 b34 0 S T h35
      else
        K 1 (S, T, h31)) h
def w_L_act_L62 (Z : Nat → ClassId) (p1 : Nat) (p2 : Int32)  (K : Int32 → WX → Prop) (y0 : Int32) (x3 : Int32) (x4 : Int32) (x5 : Int32) (x6 : Int32) (S : RS) (T : RS) (h : PH) : Prop :=
  if y0 = 0 then
    obP (f_L_below (p2 >>> (1 &&& 31)) 24) fun v15 =>
    gR h 3 0 p1 fun b17 =>
    lI Z h b17 fun v18 =>
    w_L_act_L120 Z p1 p2 K FU x3 v15 b17 v18 0 S T h
  else if y0 = 1 then
    w_L_act_L179 Z p1 p2 K x4 x5 S T h
  else if y0 = 2 then
    w_L_act_L179 Z p1 p2 K x4 x5 S T h
  else if y0 = 3 then
    w_L_act_L179 Z p1 p2 K x4 x5 S T h
  else if y0 = 4 then
    if x4 = 0 then
      K 1 (S, T, h)
    else
      gR h 3 3 p1 fun b60 =>
      obP (f_L_below (p2 >>> (3 &&& 31)) x4) fun v61 =>
      ldQ Z h 1 b60 v61 fun b63 =>
      gI h 2 0 b63 fun v64 =>
      if 0 ≤ v64 then
        K 1 (S, T, h)
      else
        gI h 2 3 b63 fun v66 =>
        if 0 ≤ v66 then
          K 1 (S, T, h)
        else
          gI h 2 1 b63 fun v68 =>
          if v68 = x6 then
            K 1 (S, T, h)
          else
            pV h 2 3 b63 (.int x6) fun h70 =>
            obP (f_L_below (p2 >>> (3 &&& 31)) x4) fun v71 =>
            okP3 (f_X1_send S T v71 x6) fun v74 S75 T76 =>
            gR h70 3 0 p1 fun b77 =>
            ldI Z h70 b77 x6 fun v78 =>
            gR h70 3 0 p1 fun b79 =>
            gI h70 2 1 b63 fun v80 =>
            ldI Z h70 b79 v80 fun v81 =>
            if v74 = (((v78 - v81) + 24) - ((v78 - v81) + 24) / 24 * 24) then
              K 1 (S75, T76, h70)
            else
              K 0 (S75, T76, h70)
  else 
    if x5 = x6 then
      K 1 (S, T, h)
    else
      gR h 3 1 p1 fun b84 =>
      ldQ Z h 3 b84 x5 fun b85 =>
      lQ Z h 2 b85 fun v86 =>
      if v86 = 9 then
        K 1 (S, T, h)
      else
        gR h 3 1 p1 fun b88 =>
        gR h 3 1 p1 fun b89 =>
        ldQ Z h 3 b89 x5 fun b90 =>
        nA Z h 3 3 fun b91 h92 =>
        sA Z h92 b91 0 x6 fun h93 =>
        sA Z h93 b91 1 0 fun h94 =>
        sA Z h94 b91 2 0 fun h95 =>
        w_X3_more Z b90 b91 (fun r97 h96 =>
          opm r97 (
            False) (fun b98 =>
            sQ3 Z h96 b88 x5 b98 fun h99 =>
            okP3 (f_X1_ride S T x5 x6) fun v101 S102 T103 =>
            gR h99 3 1 p1 fun b104 =>
            ldQ Z h99 3 b104 x5 fun b105 =>
            lQ Z h99 2 b105 fun v106 =>
            if v101 = v106 then
              K 1 (S102, T103, h99)
            else
              K 0 (S102, T103, h99))) h95
def w_L_act_L43 (Z : Nat → ClassId) (p1 : Nat) (p2 : Int32)  (K : Int32 → WX → Prop) (y0 : Int32) (x3 : Int32) (x4 : Int32) (x5 : Int32) (S : RS) (T : RS) (h : PH) : Prop :=
  if x3 = 0 then
    w_L_act_L62 Z p1 p2 K 0 x3 x4 x5 y0 S T h
  else
    obP (f_L_below (p2 >>> (9 &&& 31)) 14) fun v12 =>
    w_L_act_L62 Z p1 p2 K v12 x3 x4 x5 y0 S T h
def w_L_act_L26 (Z : Nat → ClassId) (p1 : Nat) (p2 : Int32)  (K : Int32 → WX → Prop) (y0 : Int32) (x3 : Int32) (x4 : Int32) (S : RS) (T : RS) (h : PH) : Prop :=
  if x3 = 0 then
    w_L_act_L43 Z p1 p2 K 0 x3 x4 y0 S T h
  else
    obP (f_L_below (p2 >>> (2 &&& 31)) x3) fun v9 =>
    w_L_act_L43 Z p1 p2 K v9 x3 x4 y0 S T h
def wf_L_act (Z : Nat → ClassId) (p1 : Nat) (p2 : Int32) (K : Int32 → WX → Prop) (S T : RS) (h : PH) : Prop :=
  gR h 3 0 p1 fun b1 =>
  lI Z h b1 fun v2 =>
  gR h 3 3 p1 fun b3 =>
  lQ Z h 1 b3 fun v4 =>
  if v2 = 0 then
    w_L_act_L26 Z p1 p2 K 0 v2 v4 S T h
  else
    obP (f_L_below p2 v2) fun v6 =>
    w_L_act_L26 Z p1 p2 K v6 v2 v4 S T h
def w_L_act (Z : Nat → ClassId) (p1 : Nat) (p2 : Int32) (K : Int32 → WX → Prop) (u0 : WX) : Prop := wf_L_act Z p1 p2 K u0.1 u0.2.1 u0.2.2
abbrev rm_L_act : Room := { frames := 9, cells := 4, slots := 19, locals := 155 }
theorem hds_L_act : yL_act.cls ≠ "java/lang/invoke/MethodHandle" ∧ yL_act.cls ≠ "java/lang/invoke/VarHandle" ∧ (parseMethodDescriptor yL_act.desc).map (fun d => d.parameters.length) = some 3 := by decide +kernel
set_option maxHeartbeats 4000000 in
set_option maxRecDepth 100000 in
theorem m_L_act (l : Launch) (D : va_G) (Z : Nat → ClassId) (o : Nat) (a b : Nat → Nat) (p1 : Nat) (p2 : Int32) (K : Int32 → WX → Prop) (u0 : WX) (hf : w_L_act Z p1 p2 K u0) : PMi (owx Z o a b) l yL_act wsL_act rm_L_act D Z pE [.ref o, .ref p1, .int p2] (owx Z o a b u0) K 4 19 := by
  obtain ⟨S, T, h⟩ := u0
  refine PMi.of (cc := cL_act) (nL := 12) (ret := (some .boolean)) (by decide +kernel) rfl (Nat.le_of_ble_eq_true rfl) ?_
  intro p e s m below meth c A hC hE hA hP hK hD hS ls hl
  obtain ⟨hx, hb, hr, hml, hown, hts, hlk, -⟩ := hC
  have hown : s.vm.findClass RL = some m.cls := hown
  have hO := hE.2
  have hin2 : ∀ w ∈ wsX20, w ∈ wsL_act := fun w h => List.mem_cons_of_mem _ (List.mem_append_left _ (List.mem_append_left _ (List.mem_append_left _ (List.mem_append_left _ (List.mem_append_left _ (List.mem_append_right _ h))))))
  have hin3 : ∀ w ∈ wsX30, w ∈ wsL_act := fun w h => List.mem_cons_of_mem _ (List.mem_append_left _ (List.mem_append_left _ (List.mem_append_left _ (List.mem_append_left _ (List.mem_append_left _ (List.mem_append_left _ (List.mem_append_right _ h)))))))
  have hP : va_P D vwCl (hw (owl Z o a b S T) h) s.heap := hP
  have hD : va_D A (hw (owl Z o a b S T) h) := hD
  have hl : lv_has ls 12 [(0, .ref o), (1, .ref p1), (2, .int p2)] := hl
  have L120 : ∀ (n : Nat) (x3 : Int32) (x7 : Int32) (x8 : Nat) (x9 : Int32) (x10 : Int32) (S : RS) (T : RS) (h : PH) (H : Heap) (locs : List Loc), va_P D vwCl (hw (owl Z o a b S T) h) H → va_D A (hw (owl Z o a b S T) h) → va_S A s.heap H locs → ∀ ls : Array Slot, lv_has ls 12 [(0, .ref o), (1, .ref p1), (3, .int x3), (7, .int x7), (8, .ref x8), (9, .int x9), (10, .int x10)] → w_L_act_L120 Z p1 p2 K n x3 x7 x8 x9 x10 S T h → W p l e rm_L_act s m ([.ref o, .ref p1, .int p2] : List Value).toArray below meth c H locs 0 0 (MQ below (QMi D (owx Z o a b) K A) ([.ref o, .ref p1, .int p2] : List Value).toArray s 4 19 A) (F0 m 120 ls []) := by
    intro n
    induction n with
    | zero =>
      intro x3 x7 x8 x9 x10 S T h  H locs hP hD hS ls hl hf
      exact hf.elim
    | succ n ih =>
      intro x3 x7 x8 x9 x10 S T h  H locs hP hD hS ls hl hf
      rw [w_L_act_L120] at hf
      refine lv_iload hx hb dL_act_120 (lv_at hl 6 rfl) ?_
      refine lv_iload hx hb dL_act_122 (lv_at hl 5 rfl) ?_
      refine lv_icmp_ge (tgt := 149) hx hb dL_act_124 (by decide) (fun c19 => ?_) (fun c19 => ?_)
      · have hf := itP hf c19
        refine lv_iload_n hx hb dL_act_149 rfl (lv_at hl 2 rfl) ?_
        refine lv_bipush (v := 6) hx hb dL_act_150 (by decide) ?_
        refine lv_icmp_ne (tgt := 157) hx hb dL_act_152 (by decide) (fun c20 => ?_) (fun c20 => ?_)
        · have hf := ifP hf c20
          refine lv_aload_n hx hb dL_act_157 rfl (lv_at hl 1 rfl) ?_
          refine lv_iload hx hb dL_act_158 (lv_at hl 3 rfl) ?_
          obtain ⟨hrc3, hf⟩ := hf
          refine zk_v hwX_owl (z_VP (As := [.int x7]) (rest := []) hrc3 pE_ok hE hS hA ⟨hx, hb, hml, hown, hts⟩ (m_X3_build l D Z p1 x7 _ h hf) gL_act_X3_build rfl rfl rfl hdv_X3_build ⟨Nat.le_of_ble_eq_true rfl, Nat.le_of_ble_eq_true rfl⟩ hK hP hD rfl hl.1 rfl (Nat.le_of_ble_eq_true rfl) dL_act_160 ⟨(Nat.le_of_ble_eq_true rfl), (Nat.le_of_ble_eq_true rfl)⟩) hP hD hS hA (fun h21 H locs hf hP hD hS => ?_)
          refine lv_aload_n hx hb dL_act_163 rfl (lv_at hl 0 rfl) ?_
          refine lv_iload hx hb dL_act_164 (lv_at hl 3 rfl) ?_
          obtain ⟨v23, S24, T25, hv22, hf⟩ := hf
          refine zk_ci (z_VG (As := [.int x7]) (rest := []) (q0 := 0) (ci := 1) xE_ok hE.1 hS hA ⟨hx, hb, hml, hown, hts⟩ (ok_X1_build l D Z o a b S T x7 v23 S24 T25 hv22) gL_act_X1_build rfl rfl rfl hdv_X1_build ⟨Nat.le_of_ble_eq_true rfl, Nat.le_of_ble_eq_true rfl⟩ hK (hw_X hP) (hw_XD hD) rfl rfl rfl rfl hl.1 rfl (Nat.le_of_ble_eq_true rfl) dL_act_166 ⟨(Nat.le_of_ble_eq_true rfl), (Nat.le_of_ble_eq_true rfl)⟩) hP hD hS hA (fun H locs hP hD hS => ?_)
          refine lv_iload_n hx hb dL_act_169 rfl (lv_at hl 2 rfl) ?_
          refine lv_icmp_ne (tgt := 177) hx hb dL_act_170 (by decide) (fun c26 => ?_) (fun c26 => ?_)
          · have hf := ifP hf c26
            refine lv_iconst (v := 0) hx hb dL_act_177 (by decide) ?_
            exact zq_z (u := (S24, T25, h21)) hf rfl hx hb hr hlk hP hD hS (Nat.le_of_ble_eq_true rfl) (Nat.le_of_ble_eq_true rfl) dL_act_178
          · have hf := itP hf c26
            refine lv_iconst (v := 1) hx hb dL_act_173 (by decide) ?_
            refine lv_goto (tgt := 178) hx hb dL_act_174 (by decide) ?_
            exact zq_z (u := (S24, T25, h21)) hf rfl hx hb hr hlk hP hD hS (Nat.le_of_ble_eq_true rfl) (Nat.le_of_ble_eq_true rfl) dL_act_178
        · have hf := itP hf c20
          refine lv_iconst (v := 1) hx hb dL_act_155 (by decide) ?_
          exact zq_z (u := (S, T, h)) hf rfl hx hb hr hlk hP hD hS (Nat.le_of_ble_eq_true rfl) (Nat.le_of_ble_eq_true rfl) dL_act_156
      · have hf := ifP hf c19
        refine lv_aload hx hb dL_act_127 (lv_at hl 4 rfl) ?_
        refine lv_iload hx hb dL_act_129 (lv_at hl 6 rfl) ?_
        refine z_aI hf hx hb hK hP dL_act_131 (fun v27 hf => ?_)
        refine lv_istore (lv' := [(11, .int v27), (0, .ref o), (1, .ref p1), (3, .int x3), (7, .int x7), (8, .ref x8), (9, .int x9), (10, .int x10)]) hx hb dL_act_132 hl (by decide) rfl (fun ls hl => ?_)
        refine lv_iload hx hb dL_act_134 (lv_at hl 0 rfl) ?_
        refine lv_iload hx hb dL_act_136 (lv_at hl 4 rfl) ?_
        refine lv_icmp_ne (tgt := 143) hx hb dL_act_138 (by decide) (fun c28 => ?_) (fun c28 => ?_)
        · have hf := ifP hf c28
          refine lv_iinc (v := (x10 + 1)) (lv' := [(10, .int (x10 + 1)), (11, .int v27), (0, .ref o), (1, .ref p1), (3, .int x3), (7, .int x7), (8, .ref x8), (9, .int x9)]) hx hb dL_act_143 hl (k := 7) rfl rfl (by decide) rfl (fun ls hl => ?_)
          refine lv_goto (tgt := 120) hx hb dL_act_146 (by decide) ?_
          exact ih x3 x7 x8 x9 (x10 + 1) S T h _ _ hP hD hS ls (lv_sub hl [2, 3, 4, 5, 6, 7, 0] rfl) hf
        · have hf := itP hf c28
          refine lv_iconst (v := 1) hx hb dL_act_141 (by decide) ?_
          exact zq_z (u := (S, T, h)) hf rfl hx hb hr hlk hP hD hS (Nat.le_of_ble_eq_true rfl) (Nat.le_of_ble_eq_true rfl) dL_act_142
  have L209 : ∀ (n : Nat) (x4 : Int32) (x5 : Int32) (x8 : Nat) (x9 : Int32) (S : RS) (T : RS) (h : PH) (H : Heap) (locs : List Loc), va_P D vwCl (hw (owl Z o a b S T) h) H → va_D A (hw (owl Z o a b S T) h) → va_S A s.heap H locs → ∀ ls : Array Slot, lv_has ls 12 [(0, .ref o), (1, .ref p1), (4, .int x4), (5, .int x5), (8, .ref x8), (9, .int x9)] → w_L_act_L209 Z p1 p2 K n x4 x5 x8 x9 S T h → W p l e rm_L_act s m ([.ref o, .ref p1, .int p2] : List Value).toArray below meth c H locs 1 12 (MQ below (QMi D (owx Z o a b) K A) ([.ref o, .ref p1, .int p2] : List Value).toArray s 4 19 A) (F0 m 209 ls []) := by
    intro n
    induction n with
    | zero =>
      intro x4 x5 x8 x9 S T h  H locs hP hD hS ls hl hf
      exact hf.elim
    | succ n ih =>
      intro x4 x5 x8 x9 S T h  H locs hP hD hS ls hl hf
      rw [w_L_act_L209] at hf
      refine lv_iload hx hb dL_act_209 (lv_at hl 5 rfl) ?_
      refine lv_iload hx hb dL_act_211 (lv_at hl 2 rfl) ?_
      refine lv_icmp_ge (tgt := 234) hx hb dL_act_213 (by decide) (fun c36 => ?_) (fun c36 => ?_)
      · have hf := itP hf c36
        refine lv_aload hx hb dL_act_234 (lv_at hl 4 rfl) ?_
        refine lv_iload hx hb dL_act_236 (lv_at hl 2 rfl) ?_
        refine z_nO (C := RX2) (T := TX2) (N := 7) (ty := tyX2) hf hx hb hts hin2 tyX2_ok hown (hts (.classLink RL 37 RX2) (List.mem_of_getElem? (i := 3) rfl)) (hts (.instantiable RX2 7) (List.mem_of_getElem? (i := 4) rfl)) (hts (.initialized RX2) (List.mem_of_getElem? (i := 5) rfl)) hK hP hD hS hA rfl (by decide) (Nat.le_of_ble_eq_true rfl) (Nat.le_of_ble_eq_true rfl) dL_act_238 (fun b37 h38 H hf hP hD hS => ?_)
        refine lv_dup hx hb dL_act_241 rfl ?_
        refine zk_v hwX_owl (z_IN (w0 := hw [] h38) (As := []) (rest := [.ref b37, .int x4, .ref x8]) pE_ok hE hS hA ⟨hx, hb, hml, hown, hts⟩ (m_X2_init l D Z b37 _ h38 hf) gL_act_X2_init_n39 rfl rfl rfl rfl hO.2.2.2.1 (hts (.initialized RX2) (List.mem_of_getElem? (i := 5) rfl)) (hts (.instanceMethod yX2_init) (List.mem_of_getElem? (i := 72) rfl)) hdi_X2_init ⟨Nat.le_of_ble_eq_true rfl, Nat.le_of_ble_eq_true rfl⟩ hK (hw_pl hP) (hw_plD hD) rfl hl.1 rfl (Nat.le_of_ble_eq_true rfl) dL_act_242 ⟨(Nat.le_of_ble_eq_true rfl), (Nat.le_of_ble_eq_true rfl)⟩) hP hD hS hA (fun h39 H locs hf hP hD hS => ?_)
        refine z_sQ1 hf hx hb hK hP hD hS dL_act_245 (fun h40 H locs hf hP hD hS => ?_)
        refine lv_aload hx hb dL_act_246 (lv_at hl 4 rfl) ?_
        refine lv_iload hx hb dL_act_248 (lv_at hl 2 rfl) ?_
        refine z_aQ (tz := 1) hf hx hb hK rfl rfl hP dL_act_250 (fun b41 hf => ?_)
        refine lv_iload hx hb dL_act_251 (lv_at hl 3 rfl) ?_
        refine z_pV (C := RX2) (T := TX2) (N := 7) (ty := .int) hf hx hb hts hin2 tyX2 tyX2_ok nmX2 hown hK hP hD hS rfl (by decide) (hts (.fieldLink RL 40 "PodGuidewayLaw$Pod" "at" "I") (List.mem_of_getElem? (i := 6) rfl)) rfl (by decide +kernel) rfl rfl dL_act_253 (fun h42 H locs hf hP hD hS => ?_)
        refine lv_aload hx hb dL_act_256 (lv_at hl 4 rfl) ?_
        refine lv_iload hx hb dL_act_258 (lv_at hl 2 rfl) ?_
        refine z_aQ (tz := 1) hf hx hb hK rfl rfl hP dL_act_260 (fun b43 hf => ?_)
        refine lv_aload_n hx hb dL_act_261 rfl (lv_at hl 1 rfl) ?_
        refine lv_iload hx hb dL_act_262 (lv_at hl 3 rfl) ?_
        obtain ⟨hrc3, hf⟩ := hf
        refine zk_i hwX_owl (z_VP (As := [.int x5]) (rest := [.ref b43]) hrc3 pE_ok hE hS hA ⟨hx, hb, hml, hown, hts⟩ (m_X3_free l D Z p1 x5 _ h42 hf) gL_act_X3_free rfl rfl rfl hdv_X3_free ⟨Nat.le_of_ble_eq_true rfl, Nat.le_of_ble_eq_true rfl⟩ hK hP hD rfl hl.1 rfl (Nat.le_of_ble_eq_true rfl) dL_act_264 ⟨(Nat.le_of_ble_eq_true rfl), (Nat.le_of_ble_eq_true rfl)⟩) hP hD hS hA (fun v45 h44 H locs hf hP hD hS => ?_)
        refine z_pV (C := RX2) (T := TX2) (N := 7) (ty := .int) hf hx hb hts hin2 tyX2 tyX2_ok nmX2 hown hK hP hD hS rfl (by decide) (hts (.fieldLink RL 44 "PodGuidewayLaw$Pod" "berth" "I") (List.mem_of_getElem? (i := 7) rfl)) rfl (by decide +kernel) rfl rfl dL_act_267 (fun h46 H locs hf hP hD hS => ?_)
        refine lv_aload_n hx hb dL_act_270 rfl (lv_at hl 1 rfl) ?_
        refine lv_aload hx hb dL_act_271 (lv_at hl 4 rfl) ?_
        refine z_pV (C := RX3) (T := TX3) (N := 8) (ty := (.array (.object "PodGuidewayLaw$Pod"))) hf hx hb hts hin3 tyX3 tyX3_ok nmX3 hown hK hP hD hS rfl (by decide) (hts (.fieldLink RL 15 "PodGuidewayLaw$Sim" "pods" "[LPodGuidewayLaw$Pod;") (List.mem_of_getElem? (i := 2) rfl)) rfl (by decide +kernel) rfl rfl dL_act_273 (fun h47 H locs hf hP hD hS => ?_)
        refine lv_aload_n hx hb dL_act_276 rfl (lv_at hl 0 rfl) ?_
        refine lv_iload hx hb dL_act_277 (lv_at hl 3 rfl) ?_
        obtain ⟨v49, S50, T51, hv48, hf⟩ := hf
        refine zk_ci (z_VG (As := [.int x5]) (rest := []) (q0 := 0) (ci := 1) xE_ok hE.1 hS hA ⟨hx, hb, hml, hown, hts⟩ (ok_X1_pod l D Z o a b S T x5 v49 S50 T51 hv48) gL_act_X1_pod rfl rfl rfl hdv_X1_pod ⟨Nat.le_of_ble_eq_true rfl, Nat.le_of_ble_eq_true rfl⟩ hK (hw_X hP) (hw_XD hD) rfl rfl rfl rfl hl.1 rfl (Nat.le_of_ble_eq_true rfl) dL_act_279 ⟨(Nat.le_of_ble_eq_true rfl), (Nat.le_of_ble_eq_true rfl)⟩) hP hD hS hA (fun H locs hP hD hS => ?_)
        refine lv_iload hx hb dL_act_282 (lv_at hl 2 rfl) ?_
        refine lv_icmp_ne (tgt := 291) hx hb dL_act_284 (by decide) (fun c52 => ?_) (fun c52 => ?_)
        · have hf := ifP hf c52
          refine lv_iconst (v := 0) hx hb dL_act_291 (by decide) ?_
          exact zq_z (u := (S50, T51, h47)) hf rfl hx hb hr hlk hP hD hS (Nat.le_of_ble_eq_true rfl) (Nat.le_of_ble_eq_true rfl) dL_act_292
        · have hf := itP hf c52
          refine lv_iconst (v := 1) hx hb dL_act_287 (by decide) ?_
          refine lv_goto (tgt := 292) hx hb dL_act_288 (by decide) ?_
          exact zq_z (u := (S50, T51, h47)) hf rfl hx hb hr hlk hP hD hS (Nat.le_of_ble_eq_true rfl) (Nat.le_of_ble_eq_true rfl) dL_act_292
      · have hf := ifP hf c36
        refine lv_aload hx hb dL_act_216 (lv_at hl 4 rfl) ?_
        refine lv_iload hx hb dL_act_218 (lv_at hl 5 rfl) ?_
        refine lv_aload_n hx hb dL_act_220 rfl (lv_at hl 1 rfl) ?_
        refine z_gR (C := RX3) (T := TX3) (N := 8) hf hx hb hts hin3 hown hK hP rfl (by decide) (hts (.fieldLink RL 15 "PodGuidewayLaw$Sim" "pods" "[LPodGuidewayLaw$Pod;") (List.mem_of_getElem? (i := 2) rfl)) dL_act_221 (fun b53 hf => ?_)
        refine lv_iload hx hb dL_act_224 (lv_at hl 5 rfl) ?_
        refine z_aQ (tz := 1) hf hx hb hK rfl rfl hP dL_act_226 (fun b54 hf => ?_)
        refine z_sQ1 hf hx hb hK hP hD hS dL_act_227 (fun h55 H locs hf hP hD hS => ?_)
        refine lv_iinc (v := (x9 + 1)) (lv' := [(9, .int (x9 + 1)), (0, .ref o), (1, .ref p1), (4, .int x4), (5, .int x5), (8, .ref x8)]) hx hb dL_act_228 hl (k := 5) rfl rfl (by decide) rfl (fun ls hl => ?_)
        refine lv_goto (tgt := 209) hx hb dL_act_231 (by decide) ?_
        exact ih x4 x5 x8 (x9 + 1) S T h55 _ _ hP hD hS ls (lv_sub hl [1, 2, 3, 4, 5, 0] rfl) hf
  have L179 : ∀ (x4 : Int32) (x5 : Int32) (S : RS) (T : RS) (h : PH) (H : Heap) (locs : List Loc), va_P D vwCl (hw (owl Z o a b S T) h) H → va_D A (hw (owl Z o a b S T) h) → va_S A s.heap H locs → ∀ ls : Array Slot, lv_has ls 12 [(0, .ref o), (1, .ref p1), (4, .int x4), (5, .int x5)] → w_L_act_L179 Z p1 p2 K x4 x5 S T h → W p l e rm_L_act s m ([.ref o, .ref p1, .int p2] : List Value).toArray below meth c H locs 0 0 (MQ below (QMi D (owx Z o a b) K A) ([.ref o, .ref p1, .int p2] : List Value).toArray s 4 19 A) (F0 m 179 ls []) := by
    intro x4 x5 S T h H locs hP hD hS ls hl hf
    unfold w_L_act_L179 at hf
    refine lv_iload hx hb dL_act_179 (lv_at hl 2 rfl) ?_
    refine lv_bipush (v := 12) hx hb dL_act_181 (by decide) ?_
    refine lv_icmp_eq (tgt := 195) hx hb dL_act_183 (by decide) (fun c30 => ?_) (fun c30 => ?_)
    · have hf := itP hf c30
      refine lv_iconst (v := 1) hx hb dL_act_195 (by decide) ?_
      exact zq_z (u := (S, T, h)) hf rfl hx hb hr hlk hP hD hS (Nat.le_of_ble_eq_true rfl) (Nat.le_of_ble_eq_true rfl) dL_act_196
    · have hf := ifP hf c30
      refine lv_aload_n hx hb dL_act_186 rfl (lv_at hl 1 rfl) ?_
      refine lv_iload hx hb dL_act_187 (lv_at hl 3 rfl) ?_
      obtain ⟨hrc3, hf⟩ := hf
      refine zk_i hwX_owl (z_VP (As := [.int x5]) (rest := []) hrc3 pE_ok hE hS hA ⟨hx, hb, hml, hown, hts⟩ (m_X3_free l D Z p1 x5 _ h hf) gL_act_X3_free rfl rfl rfl hdv_X3_free ⟨Nat.le_of_ble_eq_true rfl, Nat.le_of_ble_eq_true rfl⟩ hK hP hD rfl hl.1 rfl (Nat.le_of_ble_eq_true rfl) dL_act_189 ⟨(Nat.le_of_ble_eq_true rfl), (Nat.le_of_ble_eq_true rfl)⟩) hP hD hS hA (fun v32 h31 H locs hf hP hD hS => ?_)
      refine lv_if_ge (tgt := 197) hx hb dL_act_192 (by decide) (fun c33 => ?_) (fun c33 => ?_)
      · have hf := itP hf c33
        refine lv_iload hx hb dL_act_197 (lv_at hl 2 rfl) ?_
        refine lv_iconst (v := 1) hx hb dL_act_199 (by decide) ?_
        refine lv_iadd hx hb dL_act_200 ?_
        refine z_nP hf (by decide) hx hb hown (hts (.classLink RL 37 RX2) (List.mem_of_getElem? (i := 3) rfl)) hO.2.2.1 hK hP hD hS hA (Nat.le_of_ble_eq_true rfl) (Nat.le_of_ble_eq_true rfl) dL_act_201 (fun b34 h35 H hf hP hD hS => ?_)
        refine lv_astore (lv' := [(8, .ref b34), (0, .ref o), (1, .ref p1), (4, .int x4), (5, .int x5)]) hx hb dL_act_204 hl (by decide) rfl (fun ls hl => ?_)
        refine lv_iconst (v := 0) hx hb dL_act_206 (by decide) ?_
        refine lv_istore (lv' := [(9, .int 0), (8, .ref b34), (0, .ref o), (1, .ref p1), (4, .int x4), (5, .int x5)]) hx hb dL_act_207 hl (by decide) rfl (fun ls hl => ?_)
        exact L209 FU x4 x5 b34 0 S T h35 _ _ hP hD hS ls (lv_sub hl [2, 3, 4, 5, 1, 0] rfl) hf
      · have hf := ifP hf c33
        refine lv_iconst (v := 1) hx hb dL_act_195 (by decide) ?_
        exact zq_z (u := (S, T, h31)) hf rfl hx hb hr hlk hP hD hS (Nat.le_of_ble_eq_true rfl) (Nat.le_of_ble_eq_true rfl) dL_act_196
  have L62 : ∀ (y0 : Int32) (x3 : Int32) (x4 : Int32) (x5 : Int32) (x6 : Int32) (S : RS) (T : RS) (h : PH) (H : Heap) (locs : List Loc), va_P D vwCl (hw (owl Z o a b S T) h) H → va_D A (hw (owl Z o a b S T) h) → va_S A s.heap H locs → ∀ ls : Array Slot, lv_has ls 12 [(0, .ref o), (1, .ref p1), (2, .int p2), (3, .int x3), (4, .int x4), (5, .int x5), (6, .int x6)] → w_L_act_L62 Z p1 p2 K y0 x3 x4 x5 x6 S T h → W p l e rm_L_act s m ([.ref o, .ref p1, .int p2] : List Value).toArray below meth c H locs 0 0 (MQ below (QMi D (owx Z o a b) K A) ([.ref o, .ref p1, .int p2] : List Value).toArray s 4 19 A) (F0 m 62 ls [.int y0]) := by
    intro y0 x3 x4 x5 x6 S T h H locs hP hD hS ls hl hf
    unfold w_L_act_L62 at hf
    by_cases c14 : y0 = 0
    · have hf := itP hf c14
      refine lv_tableIn (tgt := 96) (off := 34) hx hb dL_act_62 (by rw [c14]; decide) (by rw [c14]; decide) (by rw [c14]; rfl) (by decide) ?_
      refine lv_iload_n hx hb dL_act_96 rfl (lv_at hl 2 rfl) ?_
      refine lv_iconst (v := 1) hx hb dL_act_97 (by decide) ?_
      refine lv_ishr hx hb dL_act_98 ?_
      refine lv_bipush (v := 24) hx hb dL_act_99 (by decide) ?_
      obtain ⟨v15, hv16, hf⟩ := hf
      refine zc_i (z_SD (As := [.int (p2 >>> (1 &&& 31)), .int 24]) (rest := []) ⟨hx, hb, hml, hown, hts⟩ (m_L_below l D Z (p2 >>> (1 &&& 31)) 24 v15 hv16) gL_act_L_below rfl rfl rfl hds_L_below ⟨Nat.le_of_ble_eq_true rfl, Nat.le_of_ble_eq_true rfl⟩ hK z_nilP (A := A) z_nilD rfl hl.1 rfl (Nat.le_of_ble_eq_true rfl) dL_act_101 ⟨(Nat.le_of_ble_eq_true rfl), (Nat.le_of_ble_eq_true rfl)⟩) hP hS hA (fun H locs hP hS => ?_)
      refine lv_istore (lv' := [(7, .int v15), (0, .ref o), (1, .ref p1), (2, .int p2), (3, .int x3), (4, .int x4), (5, .int x5), (6, .int x6)]) hx hb dL_act_104 hl (by decide) rfl (fun ls hl => ?_)
      refine lv_aload_n hx hb dL_act_106 rfl (lv_at hl 2 rfl) ?_
      refine z_gR (C := RX3) (T := TX3) (N := 8) hf hx hb hts hin3 hown hK hP rfl (by decide) (hts (.fieldLink RL 9 "PodGuidewayLaw$Sim" "place" "[I") (List.mem_of_getElem? (i := 1) rfl)) dL_act_107 (fun b17 hf => ?_)
      refine lv_astore (lv' := [(8, .ref b17), (7, .int v15), (0, .ref o), (1, .ref p1), (2, .int p2), (3, .int x3), (4, .int x4), (5, .int x5), (6, .int x6)]) hx hb dL_act_110 hl (by decide) rfl (fun ls hl => ?_)
      refine lv_aload hx hb dL_act_112 (lv_at hl 0 rfl) ?_
      refine z_lI hf hx hb hK hP dL_act_114 (fun v18 hf => ?_)
      refine lv_istore (lv' := [(9, .int v18), (8, .ref b17), (7, .int v15), (0, .ref o), (1, .ref p1), (2, .int p2), (3, .int x3), (4, .int x4), (5, .int x5), (6, .int x6)]) hx hb dL_act_115 hl (by decide) rfl (fun ls hl => ?_)
      refine lv_iconst (v := 0) hx hb dL_act_117 (by decide) ?_
      refine lv_istore (lv' := [(10, .int 0), (9, .int v18), (8, .ref b17), (7, .int v15), (0, .ref o), (1, .ref p1), (2, .int p2), (3, .int x3), (4, .int x4), (5, .int x5), (6, .int x6)]) hx hb dL_act_118 hl (by decide) rfl (fun ls hl => ?_)
      exact L120 FU x3 v15 b17 v18 0 S T h _ _ hP hD hS ls (lv_sub hl [4, 5, 7, 3, 2, 1, 0] rfl) hf
    have hf := ifP hf c14
    by_cases c29 : y0 = 1
    · have hf := itP hf c29
      refine lv_tableIn (tgt := 179) (off := 117) hx hb dL_act_62 (by rw [c29]; decide) (by rw [c29]; decide) (by rw [c29]; rfl) (by decide) ?_
      exact L179 x4 x5 S T h _ _ hP hD hS ls (lv_sub hl [0, 1, 4, 5] rfl) hf
    have hf := ifP hf c29
    by_cases c56 : y0 = 2
    · have hf := itP hf c56
      refine lv_tableIn (tgt := 179) (off := 117) hx hb dL_act_62 (by rw [c56]; decide) (by rw [c56]; decide) (by rw [c56]; rfl) (by decide) ?_
      exact L179 x4 x5 S T h _ _ hP hD hS ls (lv_sub hl [0, 1, 4, 5] rfl) hf
    have hf := ifP hf c56
    by_cases c57 : y0 = 3
    · have hf := itP hf c57
      refine lv_tableIn (tgt := 179) (off := 117) hx hb dL_act_62 (by rw [c57]; decide) (by rw [c57]; decide) (by rw [c57]; rfl) (by decide) ?_
      exact L179 x4 x5 S T h _ _ hP hD hS ls (lv_sub hl [0, 1, 4, 5] rfl) hf
    have hf := ifP hf c57
    by_cases c58 : y0 = 4
    · have hf := itP hf c58
      refine lv_tableIn (tgt := 293) (off := 231) hx hb dL_act_62 (by rw [c58]; decide) (by rw [c58]; decide) (by rw [c58]; rfl) (by decide) ?_
      refine lv_iload hx hb dL_act_293 (lv_at hl 4 rfl) ?_
      refine lv_if_ne (tgt := 300) hx hb dL_act_295 (by decide) (fun c59 => ?_) (fun c59 => ?_)
      · have hf := ifP hf c59
        refine lv_aload_n hx hb dL_act_300 rfl (lv_at hl 1 rfl) ?_
        refine z_gR (C := RX3) (T := TX3) (N := 8) hf hx hb hts hin3 hown hK hP rfl (by decide) (hts (.fieldLink RL 15 "PodGuidewayLaw$Sim" "pods" "[LPodGuidewayLaw$Pod;") (List.mem_of_getElem? (i := 2) rfl)) dL_act_301 (fun b60 hf => ?_)
        refine lv_iload_n hx hb dL_act_304 rfl (lv_at hl 2 rfl) ?_
        refine lv_iconst (v := 3) hx hb dL_act_305 (by decide) ?_
        refine lv_ishr hx hb dL_act_306 ?_
        refine lv_iload hx hb dL_act_307 (lv_at hl 4 rfl) ?_
        obtain ⟨v61, hv62, hf⟩ := hf
        refine zc_i (z_SD (As := [.int (p2 >>> (3 &&& 31)), .int x4]) (rest := [.ref b60]) ⟨hx, hb, hml, hown, hts⟩ (m_L_below l D Z (p2 >>> (3 &&& 31)) x4 v61 hv62) gL_act_L_below rfl rfl rfl hds_L_below ⟨Nat.le_of_ble_eq_true rfl, Nat.le_of_ble_eq_true rfl⟩ hK z_nilP (A := A) z_nilD rfl hl.1 rfl (Nat.le_of_ble_eq_true rfl) dL_act_309 ⟨(Nat.le_of_ble_eq_true rfl), (Nat.le_of_ble_eq_true rfl)⟩) hP hS hA (fun H locs hP hS => ?_)
        refine z_aQ (tz := 1) hf hx hb hK rfl rfl hP dL_act_312 (fun b63 hf => ?_)
        refine lv_astore (lv' := [(9, .ref b63), (0, .ref o), (1, .ref p1), (2, .int p2), (3, .int x3), (4, .int x4), (5, .int x5), (6, .int x6)]) hx hb dL_act_313 hl (by decide) rfl (fun ls hl => ?_)
        refine lv_aload hx hb dL_act_315 (lv_at hl 0 rfl) ?_
        refine z_gI (C := RX2) (T := TX2) (N := 7) hf hx hb hts hin2 hown hK hP rfl (by decide) (hts (.fieldLink RL 50 "PodGuidewayLaw$Pod" "slot" "I") (List.mem_of_getElem? (i := 8) rfl)) dL_act_317 (fun v64 hf => ?_)
        refine lv_if_ge (tgt := 341) hx hb dL_act_320 (by decide) (fun c65 => ?_) (fun c65 => ?_)
        · have hf := itP hf c65
          refine lv_iconst (v := 1) hx hb dL_act_341 (by decide) ?_
          exact zq_z (u := (S, T, h)) hf rfl hx hb hr hlk hP hD hS (Nat.le_of_ble_eq_true rfl) (Nat.le_of_ble_eq_true rfl) dL_act_342
        · have hf := ifP hf c65
          refine lv_aload hx hb dL_act_323 (lv_at hl 0 rfl) ?_
          refine z_gI (C := RX2) (T := TX2) (N := 7) hf hx hb hts hin2 hown hK hP rfl (by decide) (hts (.fieldLink RL 53 "PodGuidewayLaw$Pod" "goal" "I") (List.mem_of_getElem? (i := 9) rfl)) dL_act_325 (fun v66 hf => ?_)
          refine lv_if_ge (tgt := 341) hx hb dL_act_328 (by decide) (fun c67 => ?_) (fun c67 => ?_)
          · have hf := itP hf c67
            refine lv_iconst (v := 1) hx hb dL_act_341 (by decide) ?_
            exact zq_z (u := (S, T, h)) hf rfl hx hb hr hlk hP hD hS (Nat.le_of_ble_eq_true rfl) (Nat.le_of_ble_eq_true rfl) dL_act_342
          · have hf := ifP hf c67
            refine lv_aload hx hb dL_act_331 (lv_at hl 0 rfl) ?_
            refine z_gI (C := RX2) (T := TX2) (N := 7) hf hx hb hts hin2 hown hK hP rfl (by decide) (hts (.fieldLink RL 40 "PodGuidewayLaw$Pod" "at" "I") (List.mem_of_getElem? (i := 6) rfl)) dL_act_333 (fun v68 hf => ?_)
            refine lv_iload hx hb dL_act_336 (lv_at hl 7 rfl) ?_
            refine lv_icmp_ne (tgt := 343) hx hb dL_act_338 (by decide) (fun c69 => ?_) (fun c69 => ?_)
            · have hf := ifP hf c69
              refine lv_aload hx hb dL_act_343 (lv_at hl 0 rfl) ?_
              refine lv_iload hx hb dL_act_345 (lv_at hl 7 rfl) ?_
              refine z_pV (C := RX2) (T := TX2) (N := 7) (ty := .int) hf hx hb hts hin2 tyX2 tyX2_ok nmX2 hown hK hP hD hS rfl (by decide) (hts (.fieldLink RL 53 "PodGuidewayLaw$Pod" "goal" "I") (List.mem_of_getElem? (i := 9) rfl)) rfl (by decide +kernel) rfl rfl dL_act_347 (fun h70 H locs hf hP hD hS => ?_)
              refine lv_aload_n hx hb dL_act_350 rfl (lv_at hl 1 rfl) ?_
              refine lv_iload_n hx hb dL_act_351 rfl (lv_at hl 3 rfl) ?_
              refine lv_iconst (v := 3) hx hb dL_act_352 (by decide) ?_
              refine lv_ishr hx hb dL_act_353 ?_
              refine lv_iload hx hb dL_act_354 (lv_at hl 5 rfl) ?_
              obtain ⟨v71, hv72, hf⟩ := hf
              refine zc_i (z_SD (As := [.int (p2 >>> (3 &&& 31)), .int x4]) (rest := [.ref o]) ⟨hx, hb, hml, hown, hts⟩ (m_L_below l D Z (p2 >>> (3 &&& 31)) x4 v71 hv72) gL_act_L_below rfl rfl rfl hds_L_below ⟨Nat.le_of_ble_eq_true rfl, Nat.le_of_ble_eq_true rfl⟩ hK z_nilP (A := A) z_nilD rfl hl.1 rfl (Nat.le_of_ble_eq_true rfl) dL_act_356 ⟨(Nat.le_of_ble_eq_true rfl), (Nat.le_of_ble_eq_true rfl)⟩) hP hS hA (fun H locs hP hS => ?_)
              refine lv_iload hx hb dL_act_359 (lv_at hl 7 rfl) ?_
              obtain ⟨v74, S75, T76, hv73, hf⟩ := hf
              refine zk_ci (z_VG (As := [.int v71, .int x6]) (rest := []) (q0 := 0) (ci := 1) xE_ok hE.1 hS hA ⟨hx, hb, hml, hown, hts⟩ (ok_X1_send l D Z o a b S T v71 x6 v74 S75 T76 hv73) gL_act_X1_send rfl rfl rfl hdv_X1_send ⟨Nat.le_of_ble_eq_true rfl, Nat.le_of_ble_eq_true rfl⟩ hK (hw_X hP) (hw_XD hD) rfl rfl rfl rfl hl.1 rfl (Nat.le_of_ble_eq_true rfl) dL_act_361 ⟨(Nat.le_of_ble_eq_true rfl), (Nat.le_of_ble_eq_true rfl)⟩) hP hD hS hA (fun H locs hP hD hS => ?_)
              refine lv_aload_n hx hb dL_act_364 rfl (lv_at hl 2 rfl) ?_
              refine z_gR (C := RX3) (T := TX3) (N := 8) hf hx hb hts hin3 hown hK hP rfl (by decide) (hts (.fieldLink RL 9 "PodGuidewayLaw$Sim" "place" "[I") (List.mem_of_getElem? (i := 1) rfl)) dL_act_365 (fun b77 hf => ?_)
              refine lv_iload hx hb dL_act_368 (lv_at hl 7 rfl) ?_
              refine z_aI hf hx hb hK hP dL_act_370 (fun v78 hf => ?_)
              refine lv_aload_n hx hb dL_act_371 rfl (lv_at hl 2 rfl) ?_
              refine z_gR (C := RX3) (T := TX3) (N := 8) hf hx hb hts hin3 hown hK hP rfl (by decide) (hts (.fieldLink RL 9 "PodGuidewayLaw$Sim" "place" "[I") (List.mem_of_getElem? (i := 1) rfl)) dL_act_372 (fun b79 hf => ?_)
              refine lv_aload hx hb dL_act_375 (lv_at hl 0 rfl) ?_
              refine z_gI (C := RX2) (T := TX2) (N := 7) hf hx hb hts hin2 hown hK hP rfl (by decide) (hts (.fieldLink RL 40 "PodGuidewayLaw$Pod" "at" "I") (List.mem_of_getElem? (i := 6) rfl)) dL_act_377 (fun v80 hf => ?_)
              refine z_aI hf hx hb hK hP dL_act_380 (fun v81 hf => ?_)
              refine lv_isub hx hb dL_act_381 ?_
              refine lv_bipush (v := 24) hx hb dL_act_382 (by decide) ?_
              refine lv_iadd hx hb dL_act_384 ?_
              refine lv_bipush (v := 24) hx hb dL_act_385 (by decide) ?_
              refine lv_irem hx hb dL_act_387 (by decide) ?_
              refine lv_icmp_ne (tgt := 395) hx hb dL_act_388 (by decide) (fun c82 => ?_) (fun c82 => ?_)
              · have hf := ifP hf c82
                refine lv_iconst (v := 0) hx hb dL_act_395 (by decide) ?_
                exact zq_z (u := (S75, T76, h70)) hf rfl hx hb hr hlk hP hD hS (Nat.le_of_ble_eq_true rfl) (Nat.le_of_ble_eq_true rfl) dL_act_396
              · have hf := itP hf c82
                refine lv_iconst (v := 1) hx hb dL_act_391 (by decide) ?_
                refine lv_goto (tgt := 396) hx hb dL_act_392 (by decide) ?_
                exact zq_z (u := (S75, T76, h70)) hf rfl hx hb hr hlk hP hD hS (Nat.le_of_ble_eq_true rfl) (Nat.le_of_ble_eq_true rfl) dL_act_396
            · have hf := itP hf c69
              refine lv_iconst (v := 1) hx hb dL_act_341 (by decide) ?_
              exact zq_z (u := (S, T, h)) hf rfl hx hb hr hlk hP hD hS (Nat.le_of_ble_eq_true rfl) (Nat.le_of_ble_eq_true rfl) dL_act_342
      · have hf := itP hf c59
        refine lv_iconst (v := 1) hx hb dL_act_298 (by decide) ?_
        exact zq_z (u := (S, T, h)) hf rfl hx hb hr hlk hP hD hS (Nat.le_of_ble_eq_true rfl) (Nat.le_of_ble_eq_true rfl) dL_act_299
    have hf := ifP hf c58
    refine lv_tableOut (tgt := 397) hx hb dL_act_62 (sw_out5 c14 c29 c56 c57 c58) (by decide) ?_
    refine lv_iload hx hb dL_act_397 (lv_at hl 5 rfl) ?_
    refine lv_iload hx hb dL_act_399 (lv_at hl 6 rfl) ?_
    refine lv_icmp_eq (tgt := 417) hx hb dL_act_401 (by decide) (fun c83 => ?_) (fun c83 => ?_)
    · have hf := itP hf c83
      refine lv_iconst (v := 1) hx hb dL_act_417 (by decide) ?_
      exact zq_z (u := (S, T, h)) hf rfl hx hb hr hlk hP hD hS (Nat.le_of_ble_eq_true rfl) (Nat.le_of_ble_eq_true rfl) dL_act_418
    · have hf := ifP hf c83
      refine lv_aload_n hx hb dL_act_404 rfl (lv_at hl 1 rfl) ?_
      refine z_gR (C := RX3) (T := TX3) (N := 8) hf hx hb hts hin3 hown hK hP rfl (by decide) (hts (.fieldLink RL 59 "PodGuidewayLaw$Sim" "waits" "[[[I") (List.mem_of_getElem? (i := 10) rfl)) dL_act_405 (fun b84 hf => ?_)
      refine lv_iload hx hb dL_act_408 (lv_at hl 5 rfl) ?_
      refine z_aQ (tz := 3) hf hx hb hK rfl rfl hP dL_act_410 (fun b85 hf => ?_)
      refine z_lQ (tz := 2) hf hx hb hK rfl hP dL_act_411 (fun v86 hf => ?_)
      refine lv_bipush (v := 9) hx hb dL_act_412 (by decide) ?_
      refine lv_icmp_ne (tgt := 419) hx hb dL_act_414 (by decide) (fun c87 => ?_) (fun c87 => ?_)
      · have hf := ifP hf c87
        refine lv_aload_n hx hb dL_act_419 rfl (lv_at hl 1 rfl) ?_
        refine z_gR (C := RX3) (T := TX3) (N := 8) hf hx hb hts hin3 hown hK hP rfl (by decide) (hts (.fieldLink RL 59 "PodGuidewayLaw$Sim" "waits" "[[[I") (List.mem_of_getElem? (i := 10) rfl)) dL_act_420 (fun b88 hf => ?_)
        refine lv_iload hx hb dL_act_423 (lv_at hl 5 rfl) ?_
        refine lv_aload_n hx hb dL_act_425 rfl (lv_at hl 1 rfl) ?_
        refine z_gR (C := RX3) (T := TX3) (N := 8) hf hx hb hts hin3 hown hK hP rfl (by decide) (hts (.fieldLink RL 59 "PodGuidewayLaw$Sim" "waits" "[[[I") (List.mem_of_getElem? (i := 10) rfl)) dL_act_426 (fun b89 hf => ?_)
        refine lv_iload hx hb dL_act_429 (lv_at hl 5 rfl) ?_
        refine z_aQ (tz := 3) hf hx hb hK rfl rfl hP dL_act_431 (fun b90 hf => ?_)
        refine lv_iconst (v := 3) hx hb dL_act_432 (by decide) ?_
        refine z_nA hf (by decide) hx hb (hts (.arrayClass .int) (List.mem_of_getElem? (i := 11) rfl)) hK hP hD hS hA (Nat.le_of_ble_eq_true rfl) (Nat.le_of_ble_eq_true rfl) dL_act_433 (fun b91 h92 H hf hP hD hS => ?_)
        refine lv_dup hx hb dL_act_435 rfl ?_
        refine lv_iconst (v := 0) hx hb dL_act_436 (by decide) ?_
        refine lv_iload hx hb dL_act_437 (lv_at hl 6 rfl) ?_
        refine z_sA hf hx hb hK hP hD hS dL_act_439 (fun h93 H locs hf hP hD hS => ?_)
        refine lv_dup hx hb dL_act_440 rfl ?_
        refine lv_iconst (v := 1) hx hb dL_act_441 (by decide) ?_
        refine lv_iconst (v := 0) hx hb dL_act_442 (by decide) ?_
        refine z_sA hf hx hb hK hP hD hS dL_act_443 (fun h94 H locs hf hP hD hS => ?_)
        refine lv_dup hx hb dL_act_444 rfl ?_
        refine lv_iconst (v := 2) hx hb dL_act_445 (by decide) ?_
        refine lv_iconst (v := 0) hx hb dL_act_446 (by decide) ?_
        refine z_sA hf hx hb hK hP hD hS dL_act_447 (fun h95 H locs hf hP hD hS => ?_)
        refine zk_q hwX_owl (z_SG (w0 := hw [] h95) (As := [.ref b90, .ref b91]) (rest := [.int x5, .ref b88]) pE_ok hE hS hA ⟨hx, hb, hml, hown, hts⟩ (m_X3_more l D Z b90 b91 _ h95 hf) gL_act_X3_more rfl rfl rfl hds_X3_more ⟨Nat.le_of_ble_eq_true rfl, Nat.le_of_ble_eq_true rfl⟩ hK (hw_pl hP) (hw_plD hD) rfl hl.1 rfl (Nat.le_of_ble_eq_true rfl) dL_act_448 ⟨(Nat.le_of_ble_eq_true rfl), (Nat.le_of_ble_eq_true rfl)⟩) hP hD hS hA (fun r97 h96 H locs hf hP hD hS => ?_)
        rcases r97 with _ | b98
        · have hf := opm_n hf
          exact hf.elim
        · have hf := opm_s hf
          refine z_sQ3 hf hx hb hO.2.1 hK hP hD hS dL_act_451 (fun h99 H locs hf hP hD hS => ?_)
          refine lv_aload_n hx hb dL_act_452 rfl (lv_at hl 0 rfl) ?_
          refine lv_iload hx hb dL_act_453 (lv_at hl 5 rfl) ?_
          refine lv_iload hx hb dL_act_455 (lv_at hl 6 rfl) ?_
          obtain ⟨v101, S102, T103, hv100, hf⟩ := hf
          refine zk_ci (z_VG (As := [.int x5, .int x6]) (rest := []) (q0 := 0) (ci := 1) xE_ok hE.1 hS hA ⟨hx, hb, hml, hown, hts⟩ (ok_X1_ride l D Z o a b S T x5 x6 v101 S102 T103 hv100) gL_act_X1_ride rfl rfl rfl hdv_X1_ride ⟨Nat.le_of_ble_eq_true rfl, Nat.le_of_ble_eq_true rfl⟩ hK (hw_X hP) (hw_XD hD) rfl rfl rfl rfl hl.1 rfl (Nat.le_of_ble_eq_true rfl) dL_act_457 ⟨(Nat.le_of_ble_eq_true rfl), (Nat.le_of_ble_eq_true rfl)⟩) hP hD hS hA (fun H locs hP hD hS => ?_)
          refine lv_aload_n hx hb dL_act_460 rfl (lv_at hl 1 rfl) ?_
          refine z_gR (C := RX3) (T := TX3) (N := 8) hf hx hb hts hin3 hown hK hP rfl (by decide) (hts (.fieldLink RL 59 "PodGuidewayLaw$Sim" "waits" "[[[I") (List.mem_of_getElem? (i := 10) rfl)) dL_act_461 (fun b104 hf => ?_)
          refine lv_iload hx hb dL_act_464 (lv_at hl 5 rfl) ?_
          refine z_aQ (tz := 3) hf hx hb hK rfl rfl hP dL_act_466 (fun b105 hf => ?_)
          refine z_lQ (tz := 2) hf hx hb hK rfl hP dL_act_467 (fun v106 hf => ?_)
          refine lv_icmp_ne (tgt := 475) hx hb dL_act_468 (by decide) (fun c107 => ?_) (fun c107 => ?_)
          · have hf := ifP hf c107
            refine lv_iconst (v := 0) hx hb dL_act_475 (by decide) ?_
            exact zq_z (u := (S102, T103, h99)) hf rfl hx hb hr hlk hP hD hS (Nat.le_of_ble_eq_true rfl) (Nat.le_of_ble_eq_true rfl) dL_act_476
          · have hf := itP hf c107
            refine lv_iconst (v := 1) hx hb dL_act_471 (by decide) ?_
            refine lv_goto (tgt := 476) hx hb dL_act_472 (by decide) ?_
            exact zq_z (u := (S102, T103, h99)) hf rfl hx hb hr hlk hP hD hS (Nat.le_of_ble_eq_true rfl) (Nat.le_of_ble_eq_true rfl) dL_act_476
      · have hf := itP hf c87
        refine lv_iconst (v := 1) hx hb dL_act_417 (by decide) ?_
        exact zq_z (u := (S, T, h)) hf rfl hx hb hr hlk hP hD hS (Nat.le_of_ble_eq_true rfl) (Nat.le_of_ble_eq_true rfl) dL_act_418
  have L43 : ∀ (y0 : Int32) (x3 : Int32) (x4 : Int32) (x5 : Int32) (S : RS) (T : RS) (h : PH) (H : Heap) (locs : List Loc), va_P D vwCl (hw (owl Z o a b S T) h) H → va_D A (hw (owl Z o a b S T) h) → va_S A s.heap H locs → ∀ ls : Array Slot, lv_has ls 12 [(0, .ref o), (1, .ref p1), (2, .int p2), (3, .int x3), (4, .int x4), (5, .int x5)] → w_L_act_L43 Z p1 p2 K y0 x3 x4 x5 S T h → W p l e rm_L_act s m ([.ref o, .ref p1, .int p2] : List Value).toArray below meth c H locs 0 0 (MQ below (QMi D (owx Z o a b) K A) ([.ref o, .ref p1, .int p2] : List Value).toArray s 4 19 A) (F0 m 43 ls [.int y0]) := by
    intro y0 x3 x4 x5 S T h H locs hP hD hS ls hl hf
    unfold w_L_act_L43 at hf
    refine lv_istore (lv' := [(6, .int y0), (0, .ref o), (1, .ref p1), (2, .int p2), (3, .int x3), (4, .int x4), (5, .int x5)]) hx hb dL_act_43 hl (by decide) rfl (fun ls hl => ?_)
    refine lv_iload_n hx hb dL_act_45 rfl (lv_at hl 4 rfl) ?_
    refine lv_if_ne (tgt := 53) hx hb dL_act_46 (by decide) (fun c11 => ?_) (fun c11 => ?_)
    · have hf := ifP hf c11
      refine lv_iload_n hx hb dL_act_53 rfl (lv_at hl 3 rfl) ?_
      refine lv_bipush (v := 9) hx hb dL_act_54 (by decide) ?_
      refine lv_ishr hx hb dL_act_56 ?_
      refine lv_bipush (v := 14) hx hb dL_act_57 (by decide) ?_
      obtain ⟨v12, hv13, hf⟩ := hf
      refine zc_i (z_SD (As := [.int (p2 >>> (9 &&& 31)), .int 14]) (rest := []) ⟨hx, hb, hml, hown, hts⟩ (m_L_below l D Z (p2 >>> (9 &&& 31)) 14 v12 hv13) gL_act_L_below rfl rfl rfl hds_L_below ⟨Nat.le_of_ble_eq_true rfl, Nat.le_of_ble_eq_true rfl⟩ hK z_nilP (A := A) z_nilD rfl hl.1 rfl (Nat.le_of_ble_eq_true rfl) dL_act_59 ⟨(Nat.le_of_ble_eq_true rfl), (Nat.le_of_ble_eq_true rfl)⟩) hP hS hA (fun H locs hP hS => ?_)
      exact L62 v12 x3 x4 x5 y0 S T h _ _ hP hD hS ls (lv_sub hl [1, 2, 3, 4, 5, 6, 0] rfl) hf
    · have hf := itP hf c11
      refine lv_iconst (v := 0) hx hb dL_act_49 (by decide) ?_
      refine lv_goto (tgt := 62) hx hb dL_act_50 (by decide) ?_
      exact L62 0 x3 x4 x5 y0 S T h _ _ hP hD hS ls (lv_sub hl [1, 2, 3, 4, 5, 6, 0] rfl) hf
  have L26 : ∀ (y0 : Int32) (x3 : Int32) (x4 : Int32) (S : RS) (T : RS) (h : PH) (H : Heap) (locs : List Loc), va_P D vwCl (hw (owl Z o a b S T) h) H → va_D A (hw (owl Z o a b S T) h) → va_S A s.heap H locs → ∀ ls : Array Slot, lv_has ls 12 [(0, .ref o), (1, .ref p1), (2, .int p2), (3, .int x3), (4, .int x4)] → w_L_act_L26 Z p1 p2 K y0 x3 x4 S T h → W p l e rm_L_act s m ([.ref o, .ref p1, .int p2] : List Value).toArray below meth c H locs 0 0 (MQ below (QMi D (owx Z o a b) K A) ([.ref o, .ref p1, .int p2] : List Value).toArray s 4 19 A) (F0 m 26 ls [.int y0]) := by
    intro y0 x3 x4 S T h H locs hP hD hS ls hl hf
    unfold w_L_act_L26 at hf
    refine lv_istore (lv' := [(5, .int y0), (0, .ref o), (1, .ref p1), (2, .int p2), (3, .int x3), (4, .int x4)]) hx hb dL_act_26 hl (by decide) rfl (fun ls hl => ?_)
    refine lv_iload_n hx hb dL_act_28 rfl (lv_at hl 4 rfl) ?_
    refine lv_if_ne (tgt := 36) hx hb dL_act_29 (by decide) (fun c8 => ?_) (fun c8 => ?_)
    · have hf := ifP hf c8
      refine lv_iload_n hx hb dL_act_36 rfl (lv_at hl 3 rfl) ?_
      refine lv_iconst (v := 2) hx hb dL_act_37 (by decide) ?_
      refine lv_ishr hx hb dL_act_38 ?_
      refine lv_iload_n hx hb dL_act_39 rfl (lv_at hl 4 rfl) ?_
      obtain ⟨v9, hv10, hf⟩ := hf
      refine zc_i (z_SD (As := [.int (p2 >>> (2 &&& 31)), .int x3]) (rest := []) ⟨hx, hb, hml, hown, hts⟩ (m_L_below l D Z (p2 >>> (2 &&& 31)) x3 v9 hv10) gL_act_L_below rfl rfl rfl hds_L_below ⟨Nat.le_of_ble_eq_true rfl, Nat.le_of_ble_eq_true rfl⟩ hK z_nilP (A := A) z_nilD rfl hl.1 rfl (Nat.le_of_ble_eq_true rfl) dL_act_40 ⟨(Nat.le_of_ble_eq_true rfl), (Nat.le_of_ble_eq_true rfl)⟩) hP hS hA (fun H locs hP hS => ?_)
      exact L43 v9 x3 x4 y0 S T h _ _ hP hD hS ls (lv_sub hl [1, 2, 3, 4, 5, 0] rfl) hf
    · have hf := itP hf c8
      refine lv_iconst (v := 0) hx hb dL_act_32 (by decide) ?_
      refine lv_goto (tgt := 43) hx hb dL_act_33 (by decide) ?_
      exact L43 0 x3 x4 y0 S T h _ _ hP hD hS ls (lv_sub hl [1, 2, 3, 4, 5, 0] rfl) hf
  unfold w_L_act wf_L_act at hf
  dsimp only at hf
  refine lv_aload_n hx hb dL_act_0 rfl (lv_at hl 1 rfl) ?_
  refine z_gR (C := RX3) (T := TX3) (N := 8) hf hx hb hts hin3 hown hK hP rfl (by decide) (hts (.fieldLink RL 9 "PodGuidewayLaw$Sim" "place" "[I") (List.mem_of_getElem? (i := 1) rfl)) dL_act_1 (fun b1 hf => ?_)
  refine z_lI hf hx hb hK hP dL_act_4 (fun v2 hf => ?_)
  refine lv_istore_n (lv' := [(3, .int v2), (0, .ref o), (1, .ref p1), (2, .int p2)]) hx hb dL_act_5 rfl hl (by decide) rfl (fun ls hl => ?_)
  refine lv_aload_n hx hb dL_act_6 rfl (lv_at hl 2 rfl) ?_
  refine z_gR (C := RX3) (T := TX3) (N := 8) hf hx hb hts hin3 hown hK hP rfl (by decide) (hts (.fieldLink RL 15 "PodGuidewayLaw$Sim" "pods" "[LPodGuidewayLaw$Pod;") (List.mem_of_getElem? (i := 2) rfl)) dL_act_7 (fun b3 hf => ?_)
  refine z_lQ (tz := 1) hf hx hb hK rfl hP dL_act_10 (fun v4 hf => ?_)
  refine lv_istore (lv' := [(4, .int v4), (3, .int v2), (0, .ref o), (1, .ref p1), (2, .int p2)]) hx hb dL_act_11 hl (by decide) rfl (fun ls hl => ?_)
  refine lv_iload_n hx hb dL_act_13 rfl (lv_at hl 1 rfl) ?_
  refine lv_if_ne (tgt := 21) hx hb dL_act_14 (by decide) (fun c5 => ?_) (fun c5 => ?_)
  · have hf := ifP hf c5
    refine lv_iload_n hx hb dL_act_21 rfl (lv_at hl 4 rfl) ?_
    refine lv_iload_n hx hb dL_act_22 rfl (lv_at hl 1 rfl) ?_
    obtain ⟨v6, hv7, hf⟩ := hf
    refine zc_i (z_SD (As := [.int p2, .int v2]) (rest := []) ⟨hx, hb, hml, hown, hts⟩ (m_L_below l D Z p2 v2 v6 hv7) gL_act_L_below rfl rfl rfl hds_L_below ⟨Nat.le_of_ble_eq_true rfl, Nat.le_of_ble_eq_true rfl⟩ hK z_nilP (A := A) z_nilD rfl hl.1 rfl (Nat.le_of_ble_eq_true rfl) dL_act_23 ⟨(Nat.le_of_ble_eq_true rfl), (Nat.le_of_ble_eq_true rfl)⟩) hP hS hA (fun H locs hP hS => ?_)
    exact L26 v6 v2 v4 S T h _ _ hP hD hS ls (lv_sub hl [2, 3, 4, 1, 0] rfl) hf
  · have hf := itP hf c5
    refine lv_iconst (v := 0) hx hb dL_act_17 (by decide) ?_
    refine lv_goto (tgt := 26) hx hb dL_act_18 (by decide) ?_
    exact L26 0 v2 v4 S T h _ _ hP hD hS ls (lv_sub hl [2, 3, 4, 1, 0] rfl) hf

