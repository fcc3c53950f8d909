def f_J9_floorMod_7cf53   (p0 : Int32) (p1 : Int32) : Option (Int32) :=
  if p1 = 0 then none else
  if 0 ≤ (p0 ^^^ p1) then
    some (p0 - p0 / p1 * p1)
  else
    if (p0 - p0 / p1 * p1) = 0 then
      some (p0 - p0 / p1 * p1)
    else
      some ((p0 - p0 / p1 * p1) + p1)
abbrev rm_J9_floorMod_7cf53 : Room := { frames := 0, cells := 0, slots := 0, locals := 0 }
theorem hds_J9_floorMod_7cf53 : yJ9_floorMod_7cf53.cls ≠ "java/lang/invoke/MethodHandle" ∧ yJ9_floorMod_7cf53.cls ≠ "java/lang/invoke/VarHandle" ∧ (parseMethodDescriptor yJ9_floorMod_7cf53.desc).map (fun d => d.parameters.length) = some 2 := by decide +kernel
set_option maxHeartbeats 4000000 in
set_option maxRecDepth 100000 in
theorem m_J9_floorMod_7cf53 (l : Launch) (D : va_G) (Z : Nat → ClassId)   (p0 : Int32) (p1 : Int32) (r : Int32) (hf : f_J9_floorMod_7cf53 p0 p1 = some r) : ROi l yJ9_floorMod_7cf53 wsJ9_floorMod_7cf53 rm_J9_floorMod_7cf53 D Z [.int p0, .int p1] ([] : va_W) r := by
  refine ROi.of (cc := cJ9_floorMod_7cf53) (nL := 3) (ret := (some .int)) (by decide +kernel) rfl (Nat.le_of_ble_eq_true rfl) ?_
  intro p e s m below meth c hC hA hP hK hD hS ls hl
  obtain ⟨hx, hb, hr, hml, hown, hts, hlk, -⟩ := hC
  have hown : s.vm.findClass RJ9 = some m.cls := hown
  have hl : lv_has ls 3 [(0, .int p0), (1, .int p1)] := hl
  unfold f_J9_floorMod_7cf53 at hf
  refine lv_iload_n hx hb dJ9_floorMod_7cf53_0 rfl (lv_at hl 0 rfl) ?_
  refine lv_iload_n hx hb dJ9_floorMod_7cf53_1 rfl (lv_at hl 1 rfl) ?_
  obtain ⟨hne, hf⟩ := if_g hf
  refine lv_irem hx hb dJ9_floorMod_7cf53_2 hne ?_
  refine lv_istore_n (lv' := [(2, .int (p0 - p0 / p1 * p1)), (0, .int p0), (1, .int p1)]) hx hb dJ9_floorMod_7cf53_3 rfl hl (by decide) rfl (fun ls hl => ?_)
  refine lv_iload_n hx hb dJ9_floorMod_7cf53_4 rfl (lv_at hl 1 rfl) ?_
  refine lv_iload_n hx hb dJ9_floorMod_7cf53_5 rfl (lv_at hl 2 rfl) ?_
  refine lv_ixor hx hb dJ9_floorMod_7cf53_6 ?_
  refine lv_if_ge (tgt := 18) hx hb dJ9_floorMod_7cf53_7 (by decide) (fun c1 => ?_) (fun c1 => ?_)
  · have hf := if_t hf c1
    refine lv_iload_n hx hb dJ9_floorMod_7cf53_18 rfl (lv_at hl 0 rfl) ?_
    exact zr_i hx hb hr hlk hS (Option.some.inj hf) dJ9_floorMod_7cf53_19
  · have hf := if_f hf c1
    refine lv_iload_n hx hb dJ9_floorMod_7cf53_10 rfl (lv_at hl 0 rfl) ?_
    refine lv_if_eq (tgt := 18) hx hb dJ9_floorMod_7cf53_11 (by decide) (fun c2 => ?_) (fun c2 => ?_)
    · have hf := if_t hf c2
      refine lv_iload_n hx hb dJ9_floorMod_7cf53_18 rfl (lv_at hl 0 rfl) ?_
      exact zr_i hx hb hr hlk hS (Option.some.inj hf) dJ9_floorMod_7cf53_19
    · have hf := if_f hf c2
      refine lv_iload_n hx hb dJ9_floorMod_7cf53_14 rfl (lv_at hl 0 rfl) ?_
      refine lv_iload_n hx hb dJ9_floorMod_7cf53_15 rfl (lv_at hl 2 rfl) ?_
      refine lv_iadd hx hb dJ9_floorMod_7cf53_16 ?_
      exact zr_i hx hb hr hlk hS (Option.some.inj hf) dJ9_floorMod_7cf53_17
def f_X0_read (wn : Nat) (f : (Nat → Int32)) (p1 : Int32) : Option (Int32) :=
  if p1 < 0 then
    some (-1)
  else
    if (nI wn) ≤ p1 then
      some (-1)
    else
      if p1 < 0 ∨ wn ≤ p1.toNatClampNeg then none else
      some (f p1.toNatClampNeg)
abbrev rm_X0_read : Room := { frames := 0, cells := 0, slots := 0, locals := 0 }
theorem hds_X0_read : yX0_read.cls ≠ "java/lang/invoke/MethodHandle" ∧ yX0_read.cls ≠ "java/lang/invoke/VarHandle" ∧ (parseMethodDescriptor yX0_read.desc).map (fun d => d.parameters.length) = some 2 := by decide +kernel
set_option maxHeartbeats 4000000 in
set_option maxRecDepth 100000 in
theorem m_X0_read (l : Launch) (D : va_G) (Z : Nat → ClassId) (q wn : Nat) (f : (Nat → Int32)) (p1 : Int32) (r : Int32) (hf : f_X0_read wn f p1 = some r) : ROi l yX0_read wsX0_read rm_X0_read D Z [.ref q, .int p1] [(q, .inl (Z 0, wn, .inl f))] r := by
  refine ROi.of (cc := cX0_read) (nL := 2) (ret := (some .int)) (by decide +kernel) rfl (Nat.le_of_ble_eq_true rfl) ?_
  intro p e s m below meth c hC hA hP hK hD hS ls hl
  obtain ⟨hx, hb, hr, hml, hown, hts, hlk, -⟩ := hC
  have hown : s.vm.findClass RX0 = some m.cls := hown
  have hl : lv_has ls 2 [(0, .ref q), (1, .int p1)] := hl
  unfold f_X0_read at hf
  refine lv_iload_n hx hb dX0_read_0 rfl (lv_at hl 1 rfl) ?_
  refine lv_if_lt (tgt := 16) hx hb dX0_read_1 (by decide) (fun c1 => ?_) (fun c1 => ?_)
  · have hf := if_t hf c1
    refine lv_iconst (v := (-1)) hx hb dX0_read_16 (by decide) ?_
    exact zr_i hx hb hr hlk hS (Option.some.inj hf) dX0_read_17
  · have hf := if_f hf c1
    refine lv_iload_n hx hb dX0_read_4 rfl (lv_at hl 1 rfl) ?_
    refine lv_aload_n hx hb dX0_read_5 rfl (lv_at hl 0 rfl) ?_
    refine va_alen (v := (nI wn)) hx hb hK hP 0 0 rfl rfl rfl dX0_read_6 ?_
    refine lv_icmp_ge (tgt := 16) hx hb dX0_read_7 (by decide) (fun c2 => ?_) (fun c2 => ?_)
    · have hf := if_t hf c2
      refine lv_iconst (v := (-1)) hx hb dX0_read_16 (by decide) ?_
      exact zr_i hx hb hr hlk hS (Option.some.inj hf) dX0_read_17
    · have hf := if_f hf c2
      refine lv_aload_n hx hb dX0_read_10 rfl (lv_at hl 0 rfl) ?_
      refine lv_iload_n hx hb dX0_read_11 rfl (lv_at hl 1 rfl) ?_
      obtain ⟨hg3, hf⟩ := if_g hf
      refine va_iald hx hb hK hP 0 0 rfl rfl hg3 dX0_read_12 ?_
      refine lv_goto (tgt := 17) hx hb dX0_read_13 (by decide) ?_
      exact zr_i hx hb hr hlk hS (Option.some.inj hf) dX0_read_17
def f_X0_write (wn : Nat) (f : (Nat → Int32)) (p1 : Int32) (p2 : Int32) : Option ((Nat → Int32)) :=
  if p1 < 0 then
    some f
  else
    if (nI wn) ≤ p1 then
      some f
    else
      if p1 < 0 ∨ wn ≤ p1.toNatClampNeg then none else
      lt (upd f p1.toNatClampNeg p2) fun (f4 : Nat → Int32) =>
      some f4
abbrev rm_X0_write : Room := { frames := 0, cells := 0, slots := 0, locals := 0 }
theorem hds_X0_write : yX0_write.cls ≠ "java/lang/invoke/MethodHandle" ∧ yX0_write.cls ≠ "java/lang/invoke/VarHandle" ∧ (parseMethodDescriptor yX0_write.desc).map (fun d => d.parameters.length) = some 3 := by decide +kernel
set_option maxHeartbeats 4000000 in
set_option maxRecDepth 100000 in
theorem m_X0_write (l : Launch) (D : va_G) (Z : Nat → ClassId) (q wn : Nat) (f : (Nat → Int32)) (p1 : Int32) (p2 : Int32) (f' : (Nat → Int32)) (hf : f_X0_write wn f p1 p2 = some f') : RWv l yX0_write wsX0_write rm_X0_write D Z [.ref q, .int p1, .int p2] [(q, .inl (Z 0, wn, .inl f))] [(q, .inl (Z 0, wn, .inl (f')))] 0 0 := by
  refine RWv.of (cc := cX0_write) (nL := 3) (ret := none) (by decide +kernel) rfl (Nat.le_of_ble_eq_true rfl) ?_
  intro p e s m below meth c A hC hA hP hK hD hS ls hl
  obtain ⟨hx, hb, hr, hml, hown, hts, hlk, -⟩ := hC
  have hown : s.vm.findClass RX0 = some m.cls := hown
  have hl : lv_has ls 3 [(0, .ref q), (1, .int p1), (2, .int p2)] := hl
  unfold f_X0_write at hf
  refine lv_iload_n hx hb dX0_write_0 rfl (lv_at hl 1 rfl) ?_
  refine lv_if_lt (tgt := 14) hx hb dX0_write_1 (by decide) (fun c1 => ?_) (fun c1 => ?_)
  · have hf := if_t hf c1
    exact zw_v hx hb hr hlk hP hD hS (congrArg (fun z => ([(q, .inl (Z 0, wn, .inl z))] : va_W)) (Option.some.inj hf)) (Nat.le_of_ble_eq_true rfl) (Nat.le_of_ble_eq_true rfl) dX0_write_14
  · have hf := if_f hf c1
    refine lv_iload_n hx hb dX0_write_4 rfl (lv_at hl 1 rfl) ?_
    refine lv_aload_n hx hb dX0_write_5 rfl (lv_at hl 0 rfl) ?_
    refine va_alen (v := (nI wn)) hx hb hK hP 0 0 rfl rfl rfl dX0_write_6 ?_
    refine lv_icmp_ge (tgt := 14) hx hb dX0_write_7 (by decide) (fun c2 => ?_) (fun c2 => ?_)
    · have hf := if_t hf c2
      exact zw_v hx hb hr hlk hP hD hS (congrArg (fun z => ([(q, .inl (Z 0, wn, .inl z))] : va_W)) (Option.some.inj hf)) (Nat.le_of_ble_eq_true rfl) (Nat.le_of_ble_eq_true rfl) dX0_write_14
    · have hf := if_f hf c2
      refine lv_aload_n hx hb dX0_write_10 rfl (lv_at hl 0 rfl) ?_
      refine lv_iload_n hx hb dX0_write_11 rfl (lv_at hl 1 rfl) ?_
      refine lv_iload_n hx hb dX0_write_12 rfl (lv_at hl 2 rfl) ?_
      obtain ⟨hg3, hf⟩ := if_g hf
      refine va_iast hx hb hK hP hD hS 0 0 rfl rfl hg3 dX0_write_13 (fun H locs hP hD hS => ?_)
      obtain ⟨f4, ef4, hf⟩ := lt_ex hf
      have hP : va_P D vwCl [(q, .inl (Z 0, wn, .inl f4))] H := by rw [ef4]; exact hP
      have hD : va_D A [(q, .inl (Z 0, wn, .inl f4))] := by rw [ef4]; exact hD
      exact zw_v hx hb hr hlk hP hD hS (congrArg (fun z => ([(q, .inl (Z 0, wn, .inl z))] : va_W)) (Option.some.inj hf)) (Nat.le_of_ble_eq_true rfl) (Nat.le_of_ble_eq_true rfl) dX0_write_14
def f_X0_find_L2  (wn : Nat) (f : (Nat → Int32)) : Nat → Int32 → Int32 → Option (Int32)
  | 0, _, _ => none
  | n + 1, x1, x2 =>
    if (nI wn) ≤ x2 then
      some (-1)
    else
      if x2 < 0 ∨ wn ≤ x2.toNatClampNeg then none else
      if (f x2.toNatClampNeg) = x1 then
        some x2
      else
        f_X0_find_L2 wn f n x1 (x2 + 1)
def f_X0_find (wn : Nat) (f : (Nat → Int32)) (p1 : Int32) : Option (Int32) :=
  f_X0_find_L2 wn f FU p1 0
abbrev rm_X0_find : Room := { frames := 0, cells := 0, slots := 0, locals := 0 }
theorem hds_X0_find : yX0_find.cls ≠ "java/lang/invoke/MethodHandle" ∧ yX0_find.cls ≠ "java/lang/invoke/VarHandle" ∧ (parseMethodDescriptor yX0_find.desc).map (fun d => d.parameters.length) = some 2 := by decide +kernel
set_option maxHeartbeats 4000000 in
set_option maxRecDepth 100000 in
theorem m_X0_find (l : Launch) (D : va_G) (Z : Nat → ClassId) (q wn : Nat) (f : (Nat → Int32)) (p1 : Int32) (r : Int32) (hf : f_X0_find wn f p1 = some r) : ROi l yX0_find wsX0_find rm_X0_find D Z [.ref q, .int p1] [(q, .inl (Z 0, wn, .inl f))] r := by
  refine ROi.of (cc := cX0_find) (nL := 3) (ret := (some .int)) (by decide +kernel) rfl (Nat.le_of_ble_eq_true rfl) ?_
  intro p e s m below meth c hC hA hP hK hD hS ls hl
  obtain ⟨hx, hb, hr, hml, hown, hts, hlk, -⟩ := hC
  have hown : s.vm.findClass RX0 = some m.cls := hown
  have hl : lv_has ls 3 [(0, .ref q), (1, .int p1)] := hl
  have L2 : ∀ (n : Nat) (x1 : Int32) (x2 : Int32) (H : Heap) (locs : List Loc), va_P D vwCl [(q, .inl (Z 0, wn, .inl f))] H → va_S (fun q : Nat => s.heap.size ≤ q) s.heap H locs → ∀ ls : Array Slot, lv_has ls 3 [(0, .ref q), (1, .int x1), (2, .int x2)] → f_X0_find_L2 wn f n x1 x2 = some r → W p l e rm_X0_find s m ([.ref q, .int p1] : List Value).toArray below meth c H locs 0 0 (MQ below (zQi r s.heap.size) ([.ref q, .int p1] : List Value).toArray s 0 0 (fun q => s.heap.size ≤ q)) (F0 m 2 ls []) := by
    intro n
    induction n with
    | zero =>
      intro x1 x2 H locs hP hS ls hl hf
      exact no_r hf
    | succ n ih =>
      intro x1 x2 H locs hP hS ls hl hf
      rw [f_X0_find_L2] at hf
      refine lv_iload_n hx hb dX0_find_2 rfl (lv_at hl 2 rfl) ?_
      refine lv_aload_n hx hb dX0_find_3 rfl (lv_at hl 0 rfl) ?_
      refine va_alen (v := (nI wn)) hx hb hK hP 0 0 rfl rfl rfl dX0_find_4 ?_
      refine lv_icmp_ge (tgt := 23) hx hb dX0_find_5 (by decide) (fun c1 => ?_) (fun c1 => ?_)
      · have hf := if_t hf c1
        refine lv_iconst (v := (-1)) hx hb dX0_find_23 (by decide) ?_
        exact zr_i hx hb hr hlk hS (Option.some.inj hf) dX0_find_24
      · have hf := if_f hf c1
        refine lv_aload_n hx hb dX0_find_8 rfl (lv_at hl 0 rfl) ?_
        refine lv_iload_n hx hb dX0_find_9 rfl (lv_at hl 2 rfl) ?_
        obtain ⟨hg2, hf⟩ := if_g hf
        refine va_iald hx hb hK hP 0 0 rfl rfl hg2 dX0_find_10 ?_
        refine lv_iload_n hx hb dX0_find_11 rfl (lv_at hl 1 rfl) ?_
        refine lv_icmp_ne (tgt := 17) hx hb dX0_find_12 (by decide) (fun c3 => ?_) (fun c3 => ?_)
        · have hf := if_f hf c3
          refine lv_iinc (v := (x2 + 1)) (lv' := [(2, .int (x2 + 1)), (0, .ref q), (1, .int x1)]) hx hb dX0_find_17 hl (k := 2) rfl rfl (by decide) rfl (fun ls hl => ?_)
          refine lv_goto (tgt := 2) hx hb dX0_find_20 (by decide) ?_
          exact ih x1 (x2 + 1) _ _ hP hS ls (lv_sub hl [1, 2, 0] rfl) hf
        · have hf := if_t hf c3
          refine lv_iload_n hx hb dX0_find_15 rfl (lv_at hl 2 rfl) ?_
          exact zr_i hx hb hr hlk hS (Option.some.inj hf) dX0_find_16
  unfold f_X0_find at hf
  refine lv_iconst (v := 0) hx hb dX0_find_0 (by decide) ?_
  refine lv_istore_n (lv' := [(2, .int 0), (0, .ref q), (1, .int p1)]) hx hb dX0_find_1 rfl hl (by decide) rfl (fun ls hl => ?_)
  exact L2 FU p1 0 _ _ hP hS ls (lv_sub hl [1, 2, 0] rfl) hf
def f_X0_copyRow (wn wn2 : Nat) (f : (Nat → Int32)) (g : (Nat → Int32))  : Option ((Nat → Int32)) :=
  if cpbad 0 0 (if (nI wn2) < (nI wn) then (nI wn2) else (nI wn)) wn wn2 then none else
  lt (va_cpy f g (0 : Int32).toNatClampNeg (0 : Int32).toNatClampNeg (if (nI wn2) < (nI wn) then (nI wn2) else (nI wn)).toNatClampNeg) fun (g1 : Nat → Int32) =>
  some g1
abbrev rm_X0_copyRow : Room := { frames := 1, cells := 0, slots := 0, locals := 80 }
theorem hds_X0_copyRow : yX0_copyRow.cls ≠ "java/lang/invoke/MethodHandle" ∧ yX0_copyRow.cls ≠ "java/lang/invoke/VarHandle" ∧ (parseMethodDescriptor yX0_copyRow.desc).map (fun d => d.parameters.length) = some 2 := by decide +kernel
set_option maxHeartbeats 4000000 in
set_option maxRecDepth 100000 in
theorem m_X0_copyRow (l : Launch) (D : va_G) (Z : Nat → ClassId) (q wn q2 wn2 : Nat) (f : (Nat → Int32)) (g : (Nat → Int32))  (g' : (Nat → Int32)) (hf : f_X0_copyRow wn wn2 f g = some g') : RWv l yX0_copyRow wsX0_copyRow rm_X0_copyRow D Z [.ref q, .ref q2] [(q, .inl (Z 0, wn, .inl f)), (q2, .inl (Z 0, wn2, .inl g))] [(q, .inl (Z 0, wn, .inl f)), (q2, .inl (Z 0, wn2, .inl (g')))] 0 0 := by
  refine RWv.of (cc := cX0_copyRow) (nL := 2) (ret := none) (by decide +kernel) rfl (Nat.le_of_ble_eq_true rfl) ?_
  intro p e s m below meth c A hC hA hP hK hD hS ls hl
  obtain ⟨hx, hb, hr, hml, hown, hts, hlk, -⟩ := hC
  have hown : s.vm.findClass RX0 = some m.cls := hown
  have hl : lv_has ls 2 [(0, .ref q), (1, .ref q2)] := hl
  unfold f_X0_copyRow at hf
  refine lv_aload_n hx hb dX0_copyRow_0 rfl (lv_at hl 0 rfl) ?_
  refine lv_iconst (v := 0) hx hb dX0_copyRow_1 (by decide) ?_
  refine lv_aload_n hx hb dX0_copyRow_2 rfl (lv_at hl 1 rfl) ?_
  refine lv_iconst (v := 0) hx hb dX0_copyRow_3 (by decide) ?_
  refine lv_aload_n hx hb dX0_copyRow_4 rfl (lv_at hl 0 rfl) ?_
  refine va_alen (v := (nI wn)) hx hb hK hP 0 0 rfl rfl rfl dX0_copyRow_5 ?_
  refine lv_aload_n hx hb dX0_copyRow_6 rfl (lv_at hl 1 rfl) ?_
  refine va_alen (v := (nI wn2)) hx hb hK hP 1 0 rfl rfl rfl dX0_copyRow_7 ?_
  refine va_mmin hx hb (hml.trans hl.1.symm) hown (hts (.methodLink RX0 180 Lib.Math.min.name) (List.mem_of_getElem? (i := 1) rfl)) (hts (.static Lib.Math.min.name) (List.mem_of_getElem? (i := 2) rfl)) (hts (.initialized "java/lang/Math") (List.mem_of_getElem? (i := 3) rfl)) (hts (.code Lib.Math.min.name Lib.Math.min.code 2 (some .int)) (List.mem_of_getElem? (i := 4) rfl)) (Nat.le_of_ble_eq_true rfl) (Nat.le_of_ble_eq_true rfl) (Nat.zero_le _) (Nat.zero_le _) dX0_copyRow_8 ?_
  obtain ⟨hcp, hf⟩ := if_g hf
  refine va_copyi (sp := 0) (dp := 0) (n := (if (nI wn2) < (nI wn) then (nI wn2) else (nI wn))) hx hb (hml.trans hl.1.symm) hown (hts (.methodLink RX0 104 arraycopyName) (List.mem_of_getElem? (i := 5) rfl)) (hts (.native arraycopyName) (List.mem_of_getElem? (i := 6) rfl)) (hts (.static arraycopyName) (List.mem_of_getElem? (i := 7) rfl)) (hts (.initialized "java/lang/System") (List.mem_of_getElem? (i := 8) rfl)) hK hP hD hS 0 1 0 0 rfl rfl rfl rfl rfl (cp_1 hcp) (cp_2 hcp) (cp_3 hcp) (cp_4 hcp) (cp_5 hcp) (fun _ _ => rfl) (Nat.le_of_ble_eq_true rfl) (by decide) dX0_copyRow_11 (fun H locs hP hD hS => ?_)
  obtain ⟨g1, eg1, hf⟩ := lt_ex hf
  have hP : va_P D vwCl [(q, .inl (Z 0, wn, .inl f)), (q2, .inl (Z 0, wn2, .inl g1))] H := by rw [eg1]; exact hP
  have hD : va_D A [(q, .inl (Z 0, wn, .inl f)), (q2, .inl (Z 0, wn2, .inl g1))] := by rw [eg1]; exact hD
  exact zw_v hx hb hr hlk hP hD hS (congrArg (fun z => ([(q, .inl (Z 0, wn, .inl f)), (q2, .inl (Z 0, wn2, .inl z))] : va_W)) (Option.some.inj hf)) (Nat.le_of_ble_eq_true rfl) (Nat.le_of_ble_eq_true rfl) dX0_copyRow_14
def f_X0_placeOf  (S : RS) (p1 : Int32) : Option (Int32) :=
  ob (f_X0_read 6 (S.2 2) p1) fun v2 =>
  some v2
abbrev rm_X0_placeOf : Room := { frames := 1, cells := 0, slots := 0, locals := 21 }
theorem hdv_X0_placeOf : yX0_placeOf.cls = RX0 ∧ yX0_placeOf.cls ≠ "java/lang/invoke/MethodHandle" ∧ yX0_placeOf.cls ≠ "java/lang/invoke/VarHandle" ∧ (parseMethodDescriptor yX0_placeOf.desc).map (fun d => d.parameters.length) = some 1 := by decide +kernel
set_option maxHeartbeats 4000000 in
set_option maxRecDepth 100000 in
theorem m_X0_placeOf (l : Launch) (D : va_G) (Z : Nat → ClassId) (a : Nat → Nat) (S : RS) (p1 : Int32) (r : Int32) (hf : f_X0_placeOf S p1 = some r) : ROi l yX0_placeOf wsX0_placeOf rm_X0_placeOf D Z [.ref (a 0), .int p1] (rwl Z a S) r := by
  refine ROi.of (cc := cX0_placeOf) (nL := 2) (ret := (some .int)) (by decide +kernel) rfl (Nat.le_of_ble_eq_true rfl) ?_
  intro p e s m below meth c hC hA hP hK hD hS ls hl
  obtain ⟨hx, hb, hr, hml, hown, hts, hlk, -⟩ := hC
  have hown : s.vm.findClass RX0 = some m.cls := hown
  have hin : ∀ w ∈ wsX00, w ∈ wsX0_placeOf := fun w h => List.mem_cons_of_mem _ (List.mem_append_right _ h)
  have hl : lv_has ls 2 [(0, .ref (a 0)), (1, .int p1)] := hl
  unfold f_X0_placeOf at hf
  refine lv_aload_n hx hb dX0_placeOf_0 rfl (lv_at hl 0 rfl) ?_
  refine va_get (D := D) (ci := 0) (v := .ref (a 3)) (C := RX0) (T := TX0) (N := 17) hx hb hts hin hown hK hP 0 rfl rfl 8 (by decide) (hts (.fieldLink RX0 22 "PodGuideway$Ring" "stationPlace" "[I") (List.mem_of_getElem? (i := 1) rfl)) (fun _ h9 => h9) rfl dX0_placeOf_1 ?_
  refine lv_iload_n hx hb dX0_placeOf_4 rfl (lv_at hl 1 rfl) ?_
  obtain ⟨v2, hv1, hf⟩ := ob_some hf
  refine zc_i (z_SD (As := [.ref (a 3), .int p1]) (rest := []) ⟨hx, hb, hml, hown, hts⟩ (m_X0_read l D Z (a 3) 6 (S.2 2) p1 v2 hv1) gX0_placeOf_X0_read rfl rfl rfl hds_X0_read ⟨Nat.le_of_ble_eq_true rfl, Nat.le_of_ble_eq_true rfl⟩ hK (hP.sub (ws' := [((a 3), .inl (Z 0, 6, .inl (S.2 2)))]) [3] rfl) (hD.sub (ws' := [((a 3), .inl (Z 0, 6, .inl (S.2 2)))]) [3] (by decide) rfl) rfl hl.1 rfl (Nat.le_of_ble_eq_true rfl) dX0_placeOf_5 ⟨Nat.le_of_ble_eq_true rfl, Nat.le_of_ble_eq_true rfl⟩) hP hS hA (fun H locs hP hS => ?_)
  exact zr_i hx hb hr hlk hS (Option.some.inj hf) dX0_placeOf_8
def f_X0_waitingAt  (S : RS) (p1 : Int32) : Option (Int32) :=
  ob (f_X0_read 6 (S.2 4) p1) fun v2 =>
  some (if 0 < v2 then v2 else 0)
abbrev rm_X0_waitingAt : Room := { frames := 1, cells := 0, slots := 0, locals := 24 }
theorem hdv_X0_waitingAt : yX0_waitingAt.cls = RX0 ∧ yX0_waitingAt.cls ≠ "java/lang/invoke/MethodHandle" ∧ yX0_waitingAt.cls ≠ "java/lang/invoke/VarHandle" ∧ (parseMethodDescriptor yX0_waitingAt.desc).map (fun d => d.parameters.length) = some 1 := by decide +kernel
set_option maxHeartbeats 4000000 in
set_option maxRecDepth 100000 in
theorem m_X0_waitingAt (l : Launch) (D : va_G) (Z : Nat → ClassId) (a : Nat → Nat) (S : RS) (p1 : Int32) (r : Int32) (hf : f_X0_waitingAt S p1 = some r) : ROi l yX0_waitingAt wsX0_waitingAt rm_X0_waitingAt D Z [.ref (a 0), .int p1] (rwl Z a S) r := by
  refine ROi.of (cc := cX0_waitingAt) (nL := 2) (ret := (some .int)) (by decide +kernel) rfl (Nat.le_of_ble_eq_true rfl) ?_
  intro p e s m below meth c hC hA hP hK hD hS ls hl
  obtain ⟨hx, hb, hr, hml, hown, hts, hlk, -⟩ := hC
  have hown : s.vm.findClass RX0 = some m.cls := hown
  have hin : ∀ w ∈ wsX00, w ∈ wsX0_waitingAt := fun w h => List.mem_cons_of_mem _ (List.mem_append_right _ h)
  have hl : lv_has ls 2 [(0, .ref (a 0)), (1, .int p1)] := hl
  unfold f_X0_waitingAt at hf
  refine lv_iconst (v := 0) hx hb dX0_waitingAt_0 (by decide) ?_
  refine lv_aload_n hx hb dX0_waitingAt_1 rfl (lv_at hl 0 rfl) ?_
  refine va_get (D := D) (ci := 0) (v := .ref (a 5)) (C := RX0) (T := TX0) (N := 17) hx hb hts hin hown hK hP 0 rfl rfl 10 (by decide) (hts (.fieldLink RX0 28 "PodGuideway$Ring" "stationWaiting" "[I") (List.mem_of_getElem? (i := 1) rfl)) (fun _ h9 => h9) rfl dX0_waitingAt_2 ?_
  refine lv_iload_n hx hb dX0_waitingAt_5 rfl (lv_at hl 1 rfl) ?_
  obtain ⟨v2, hv1, hf⟩ := ob_some hf
  refine zc_i (z_SD (As := [.ref (a 5), .int p1]) (rest := [.int 0]) ⟨hx, hb, hml, hown, hts⟩ (m_X0_read l D Z (a 5) 6 (S.2 4) p1 v2 hv1) gX0_waitingAt_X0_read rfl rfl rfl hds_X0_read ⟨Nat.le_of_ble_eq_true rfl, Nat.le_of_ble_eq_true rfl⟩ hK (hP.sub (ws' := [((a 5), .inl (Z 0, 6, .inl (S.2 4)))]) [5] rfl) (hD.sub (ws' := [((a 5), .inl (Z 0, 6, .inl (S.2 4)))]) [5] (by decide) rfl) rfl hl.1 rfl (Nat.le_of_ble_eq_true rfl) dX0_waitingAt_6 ⟨Nat.le_of_ble_eq_true rfl, Nat.le_of_ble_eq_true rfl⟩) hP hS hA (fun H locs hP hS => ?_)
  refine va_mmax hx hb (hml.trans hl.1.symm) hown (hts (.methodLink RX0 146 Lib.Math.max.name) (List.mem_of_getElem? (i := 2) rfl)) (hts (.static Lib.Math.max.name) (List.mem_of_getElem? (i := 3) rfl)) (hts (.initialized "java/lang/Math") (List.mem_of_getElem? (i := 4) rfl)) (hts (.code Lib.Math.max.name Lib.Math.max.code 2 (some .int)) (List.mem_of_getElem? (i := 5) rfl)) (Nat.le_of_ble_eq_true rfl) (Nat.le_of_ble_eq_true rfl) (Nat.zero_le _) (Nat.zero_le _) dX0_waitingAt_9 ?_
  exact zr_i hx hb hr hlk hS (Option.some.inj hf) dX0_waitingAt_12
def f_X0_podAtPlace  (S : RS) (p1 : Int32) : Option (Int32) :=
  ob (f_X0_read 24 (S.2 0) p1) fun v2 =>
  some v2
abbrev rm_X0_podAtPlace : Room := { frames := 1, cells := 0, slots := 0, locals := 21 }
theorem hdv_X0_podAtPlace : yX0_podAtPlace.cls = RX0 ∧ yX0_podAtPlace.cls ≠ "java/lang/invoke/MethodHandle" ∧ yX0_podAtPlace.cls ≠ "java/lang/invoke/VarHandle" ∧ (parseMethodDescriptor yX0_podAtPlace.desc).map (fun d => d.parameters.length) = some 1 := by decide +kernel
set_option maxHeartbeats 4000000 in
set_option maxRecDepth 100000 in
theorem m_X0_podAtPlace (l : Launch) (D : va_G) (Z : Nat → ClassId) (a : Nat → Nat) (S : RS) (p1 : Int32) (r : Int32) (hf : f_X0_podAtPlace S p1 = some r) : ROi l yX0_podAtPlace wsX0_podAtPlace rm_X0_podAtPlace D Z [.ref (a 0), .int p1] (rwl Z a S) r := by
  refine ROi.of (cc := cX0_podAtPlace) (nL := 2) (ret := (some .int)) (by decide +kernel) rfl (Nat.le_of_ble_eq_true rfl) ?_
  intro p e s m below meth c hC hA hP hK hD hS ls hl
  obtain ⟨hx, hb, hr, hml, hown, hts, hlk, -⟩ := hC
  have hown : s.vm.findClass RX0 = some m.cls := hown
  have hin : ∀ w ∈ wsX00, w ∈ wsX0_podAtPlace := fun w h => List.mem_cons_of_mem _ (List.mem_append_right _ h)
  have hl : lv_has ls 2 [(0, .ref (a 0)), (1, .int p1)] := hl
  unfold f_X0_podAtPlace at hf
  refine lv_aload_n hx hb dX0_podAtPlace_0 rfl (lv_at hl 0 rfl) ?_
  refine va_get (D := D) (ci := 0) (v := .ref (a 1)) (C := RX0) (T := TX0) (N := 17) hx hb hts hin hown hK hP 0 rfl rfl 6 (by decide) (hts (.fieldLink RX0 15 "PodGuideway$Ring" "podInSlot" "[I") (List.mem_of_getElem? (i := 1) rfl)) (fun _ h9 => h9) rfl dX0_podAtPlace_1 ?_
  refine lv_iload_n hx hb dX0_podAtPlace_4 rfl (lv_at hl 1 rfl) ?_
  obtain ⟨v2, hv1, hf⟩ := ob_some hf
  refine zc_i (z_SD (As := [.ref (a 1), .int p1]) (rest := []) ⟨hx, hb, hml, hown, hts⟩ (m_X0_read l D Z (a 1) 24 (S.2 0) p1 v2 hv1) gX0_podAtPlace_X0_read rfl rfl rfl hds_X0_read ⟨Nat.le_of_ble_eq_true rfl, Nat.le_of_ble_eq_true rfl⟩ hK (hP.sub (ws' := [((a 1), .inl (Z 0, 24, .inl (S.2 0)))]) [1] rfl) (hD.sub (ws' := [((a 1), .inl (Z 0, 24, .inl (S.2 0)))]) [1] (by decide) rfl) rfl hl.1 rfl (Nat.le_of_ble_eq_true rfl) dX0_podAtPlace_5 ⟨Nat.le_of_ble_eq_true rfl, Nat.le_of_ble_eq_true rfl⟩) hP hS hA (fun H locs hP hS => ?_)
  exact zr_i hx hb hr hlk hS (Option.some.inj hf) dX0_podAtPlace_8
def f_X0_goalOf  (S : RS) (p1 : Int32) : Option (Int32) :=
  ob (f_X0_read 12 (S.2 8) p1) fun v2 =>
  some v2
abbrev rm_X0_goalOf : Room := { frames := 1, cells := 0, slots := 0, locals := 21 }
theorem hdv_X0_goalOf : yX0_goalOf.cls = RX0 ∧ yX0_goalOf.cls ≠ "java/lang/invoke/MethodHandle" ∧ yX0_goalOf.cls ≠ "java/lang/invoke/VarHandle" ∧ (parseMethodDescriptor yX0_goalOf.desc).map (fun d => d.parameters.length) = some 1 := by decide +kernel
set_option maxHeartbeats 4000000 in
set_option maxRecDepth 100000 in
theorem m_X0_goalOf (l : Launch) (D : va_G) (Z : Nat → ClassId) (a : Nat → Nat) (S : RS) (p1 : Int32) (r : Int32) (hf : f_X0_goalOf S p1 = some r) : ROi l yX0_goalOf wsX0_goalOf rm_X0_goalOf D Z [.ref (a 0), .int p1] (rwl Z a S) r := by
  refine ROi.of (cc := cX0_goalOf) (nL := 2) (ret := (some .int)) (by decide +kernel) rfl (Nat.le_of_ble_eq_true rfl) ?_
  intro p e s m below meth c hC hA hP hK hD hS ls hl
  obtain ⟨hx, hb, hr, hml, hown, hts, hlk, -⟩ := hC
  have hown : s.vm.findClass RX0 = some m.cls := hown
  have hin : ∀ w ∈ wsX00, w ∈ wsX0_goalOf := fun w h => List.mem_cons_of_mem _ (List.mem_append_right _ h)
  have hl : lv_has ls 2 [(0, .ref (a 0)), (1, .int p1)] := hl
  unfold f_X0_goalOf at hf
  refine lv_aload_n hx hb dX0_goalOf_0 rfl (lv_at hl 0 rfl) ?_
  refine va_get (D := D) (ci := 0) (v := .ref (a 9)) (C := RX0) (T := TX0) (N := 17) hx hb hts hin hown hK hP 0 rfl rfl 14 (by decide) (hts (.fieldLink RX0 40 "PodGuideway$Ring" "podGoal" "[I") (List.mem_of_getElem? (i := 1) rfl)) (fun _ h9 => h9) rfl dX0_goalOf_1 ?_
  refine lv_iload_n hx hb dX0_goalOf_4 rfl (lv_at hl 1 rfl) ?_
  obtain ⟨v2, hv1, hf⟩ := ob_some hf
  refine zc_i (z_SD (As := [.ref (a 9), .int p1]) (rest := []) ⟨hx, hb, hml, hown, hts⟩ (m_X0_read l D Z (a 9) 12 (S.2 8) p1 v2 hv1) gX0_goalOf_X0_read rfl rfl rfl hds_X0_read ⟨Nat.le_of_ble_eq_true rfl, Nat.le_of_ble_eq_true rfl⟩ hK (hP.sub (ws' := [((a 9), .inl (Z 0, 12, .inl (S.2 8)))]) [9] rfl) (hD.sub (ws' := [((a 9), .inl (Z 0, 12, .inl (S.2 8)))]) [9] (by decide) rfl) rfl hl.1 rfl (Nat.le_of_ble_eq_true rfl) dX0_goalOf_5 ⟨Nat.le_of_ble_eq_true rfl, Nat.le_of_ble_eq_true rfl⟩) hP hS hA (fun H locs hP hS => ?_)
  exact zr_i hx hb hr hlk hS (Option.some.inj hf) dX0_goalOf_8
def f_X0_berthHolds  (S : RS) (p1 : Int32) : Option (Int32) :=
  ob (f_X0_read 18 (S.2 1) p1) fun v2 =>
  if v2 = (-1) then
    some 0
  else
    ob (f_X0_read 12 (S.2 8) v2) fun v5 =>
    if v5 = (-1) then
      some 1
    else
      some 2
abbrev rm_X0_berthHolds : Room := { frames := 1, cells := 0, slots := 0, locals := 21 }
theorem hdv_X0_berthHolds : yX0_berthHolds.cls = RX0 ∧ yX0_berthHolds.cls ≠ "java/lang/invoke/MethodHandle" ∧ yX0_berthHolds.cls ≠ "java/lang/invoke/VarHandle" ∧ (parseMethodDescriptor yX0_berthHolds.desc).map (fun d => d.parameters.length) = some 1 := by decide +kernel
set_option maxHeartbeats 4000000 in
set_option maxRecDepth 100000 in
theorem m_X0_berthHolds (l : Launch) (D : va_G) (Z : Nat → ClassId) (a : Nat → Nat) (S : RS) (p1 : Int32) (r : Int32) (hf : f_X0_berthHolds S p1 = some r) : ROi l yX0_berthHolds wsX0_berthHolds rm_X0_berthHolds D Z [.ref (a 0), .int p1] (rwl Z a S) r := by
  refine ROi.of (cc := cX0_berthHolds) (nL := 3) (ret := (some .int)) (by decide +kernel) rfl (Nat.le_of_ble_eq_true rfl) ?_
  intro p e s m below meth c hC hA hP hK hD hS ls hl
  obtain ⟨hx, hb, hr, hml, hown, hts, hlk, -⟩ := hC
  have hown : s.vm.findClass RX0 = some m.cls := hown
  have hin : ∀ w ∈ wsX00, w ∈ wsX0_berthHolds := fun w h => List.mem_cons_of_mem _ (List.mem_append_right _ h)
  have hl : lv_has ls 3 [(0, .ref (a 0)), (1, .int p1)] := hl
  unfold f_X0_berthHolds at hf
  refine lv_aload_n hx hb dX0_berthHolds_0 rfl (lv_at hl 0 rfl) ?_
  refine va_get (D := D) (ci := 0) (v := .ref (a 2)) (C := RX0) (T := TX0) (N := 17) hx hb hts hin hown hK hP 0 rfl rfl 7 (by decide) (hts (.fieldLink RX0 19 "PodGuideway$Ring" "podInBerth" "[I") (List.mem_of_getElem? (i := 1) rfl)) (fun _ h9 => h9) rfl dX0_berthHolds_1 ?_
  refine lv_iload_n hx hb dX0_berthHolds_4 rfl (lv_at hl 1 rfl) ?_
  obtain ⟨v2, hv1, hf⟩ := ob_some hf
  refine zc_i (z_SD (As := [.ref (a 2), .int p1]) (rest := []) ⟨hx, hb, hml, hown, hts⟩ (m_X0_read l D Z (a 2) 18 (S.2 1) p1 v2 hv1) gX0_berthHolds_X0_read rfl rfl rfl hds_X0_read ⟨Nat.le_of_ble_eq_true rfl, Nat.le_of_ble_eq_true rfl⟩ hK (hP.sub (ws' := [((a 2), .inl (Z 0, 18, .inl (S.2 1)))]) [2] rfl) (hD.sub (ws' := [((a 2), .inl (Z 0, 18, .inl (S.2 1)))]) [2] (by decide) rfl) rfl hl.1 rfl (Nat.le_of_ble_eq_true rfl) dX0_berthHolds_5 ⟨Nat.le_of_ble_eq_true rfl, Nat.le_of_ble_eq_true rfl⟩) hP hS hA (fun H locs hP hS => ?_)
  refine lv_istore_n (lv' := [(2, .int v2), (0, .ref (a 0)), (1, .int p1)]) hx hb dX0_berthHolds_8 rfl hl (by decide) rfl (fun ls hl => ?_)
  refine lv_iload_n hx hb dX0_berthHolds_9 rfl (lv_at hl 0 rfl) ?_
  refine lv_iconst (v := (-1)) hx hb dX0_berthHolds_10 (by decide) ?_
  refine lv_icmp_ne (tgt := 16) hx hb dX0_berthHolds_11 (by decide) (fun c3 => ?_) (fun c3 => ?_)
  · have hf := if_f hf c3
    refine lv_aload_n hx hb dX0_berthHolds_16 rfl (lv_at hl 1 rfl) ?_
    refine va_get (D := D) (ci := 0) (v := .ref (a 9)) (C := RX0) (T := TX0) (N := 17) hx hb hts hin hown hK hP 0 rfl rfl 14 (by decide) (hts (.fieldLink RX0 40 "PodGuideway$Ring" "podGoal" "[I") (List.mem_of_getElem? (i := 2) rfl)) (fun _ h9 => h9) rfl dX0_berthHolds_17 ?_
    refine lv_iload_n hx hb dX0_berthHolds_20 rfl (lv_at hl 0 rfl) ?_
    obtain ⟨v5, hv4, hf⟩ := ob_some hf
    refine zc_i (z_SD (As := [.ref (a 9), .int v2]) (rest := []) ⟨hx, hb, hml, hown, hts⟩ (m_X0_read l D Z (a 9) 12 (S.2 8) v2 v5 hv4) gX0_berthHolds_X0_read rfl rfl rfl hds_X0_read ⟨Nat.le_of_ble_eq_true rfl, Nat.le_of_ble_eq_true rfl⟩ hK (hP.sub (ws' := [((a 9), .inl (Z 0, 12, .inl (S.2 8)))]) [9] rfl) (hD.sub (ws' := [((a 9), .inl (Z 0, 12, .inl (S.2 8)))]) [9] (by decide) rfl) rfl hl.1 rfl (Nat.le_of_ble_eq_true rfl) dX0_berthHolds_21 ⟨Nat.le_of_ble_eq_true rfl, Nat.le_of_ble_eq_true rfl⟩) hP hS hA (fun H locs hP hS => ?_)
    refine lv_iconst (v := (-1)) hx hb dX0_berthHolds_24 (by decide) ?_
    refine lv_icmp_ne (tgt := 32) hx hb dX0_berthHolds_25 (by decide) (fun c6 => ?_) (fun c6 => ?_)
    · have hf := if_f hf c6
      refine lv_iconst (v := 2) hx hb dX0_berthHolds_32 (by decide) ?_
      exact zr_i hx hb hr hlk hS (Option.some.inj hf) dX0_berthHolds_33
    · have hf := if_t hf c6
      refine lv_iconst (v := 1) hx hb dX0_berthHolds_28 (by decide) ?_
      refine lv_goto (tgt := 33) hx hb dX0_berthHolds_29 (by decide) ?_
      exact zr_i hx hb hr hlk hS (Option.some.inj hf) dX0_berthHolds_33
  · have hf := if_t hf c3
    refine lv_iconst (v := 0) hx hb dX0_berthHolds_14 (by decide) ?_
    exact zr_i hx hb hr hlk hS (Option.some.inj hf) dX0_berthHolds_15
def f_X0_firstBerth_L4  (S : RS) : Nat → Int32 → Int32 → Int32 → Option (Int32)
  | 0, _, _, _ => none
  | n + 1, x1, x2, x3 =>
    if ((x1 + 1) * 3) ≤ x3 then
      some (-1)
    else
      ob (f_X0_berthHolds S x3) fun v3 =>
      if v3 = x2 then
        some x3
      else
        f_X0_firstBerth_L4 S n x1 x2 (x3 + 1)
def f_X0_firstBerth  (S : RS) (p1 : Int32) (p2 : Int32) : Option (Int32) :=
  f_X0_firstBerth_L4 S FU p1 p2 (p1 * 3)
abbrev rm_X0_firstBerth : Room := { frames := 2, cells := 0, slots := 0, locals := 43 }
theorem hdv_X0_firstBerth : yX0_firstBerth.cls = RX0 ∧ yX0_firstBerth.cls ≠ "java/lang/invoke/MethodHandle" ∧ yX0_firstBerth.cls ≠ "java/lang/invoke/VarHandle" ∧ (parseMethodDescriptor yX0_firstBerth.desc).map (fun d => d.parameters.length) = some 2 := by decide +kernel
set_option maxHeartbeats 4000000 in
set_option maxRecDepth 100000 in
theorem m_X0_firstBerth (l : Launch) (D : va_G) (Z : Nat → ClassId) (a : Nat → Nat) (S : RS) (p1 : Int32) (p2 : Int32) (r : Int32) (hf : f_X0_firstBerth S p1 p2 = some r) : ROi l yX0_firstBerth wsX0_firstBerth rm_X0_firstBerth D Z [.ref (a 0), .int p1, .int p2] (rwl Z a S) r := by
  refine ROi.of (cc := cX0_firstBerth) (nL := 4) (ret := (some .int)) (by decide +kernel) rfl (Nat.le_of_ble_eq_true rfl) ?_
  intro p e s m below meth c hC hA hP hK hD hS ls hl
  obtain ⟨hx, hb, hr, hml, hown, hts, hlk, -⟩ := hC
  have hown : s.vm.findClass RX0 = some m.cls := hown
  have hl : lv_has ls 4 [(0, .ref (a 0)), (1, .int p1), (2, .int p2)] := hl
  have L4 : ∀ (n : Nat) (x1 : Int32) (x2 : Int32) (x3 : Int32) (H : Heap) (locs : List Loc), va_P D vwCl (rwl Z a S) H → va_S (fun q : Nat => s.heap.size ≤ q) s.heap H locs → ∀ ls : Array Slot, lv_has ls 4 [(0, .ref (a 0)), (1, .int x1), (2, .int x2), (3, .int x3)] → f_X0_firstBerth_L4 S n x1 x2 x3 = some r → W p l e rm_X0_firstBerth s m ([.ref (a 0), .int p1, .int p2] : List Value).toArray below meth c H locs 0 0 (MQ below (zQi r s.heap.size) ([.ref (a 0), .int p1, .int p2] : List Value).toArray s 0 0 (fun q => s.heap.size ≤ q)) (F0 m 4 ls []) := by
    intro n
    induction n with
    | zero =>
      intro x1 x2 x3 H locs hP hS ls hl hf
      exact no_r hf
    | succ n ih =>
      intro x1 x2 x3 H locs hP hS ls hl hf
      rw [f_X0_firstBerth_L4] at hf
      refine lv_iload_n hx hb dX0_firstBerth_4 rfl (lv_at hl 3 rfl) ?_
      refine lv_iload_n hx hb dX0_firstBerth_5 rfl (lv_at hl 1 rfl) ?_
      refine lv_iconst (v := 1) hx hb dX0_firstBerth_6 (by decide) ?_
      refine lv_iadd hx hb dX0_firstBerth_7 ?_
      refine lv_iconst (v := 3) hx hb dX0_firstBerth_8 (by decide) ?_
      refine lv_imul hx hb dX0_firstBerth_9 ?_
      refine lv_icmp_ge (tgt := 30) hx hb dX0_firstBerth_10 (by decide) (fun c1 => ?_) (fun c1 => ?_)
      · have hf := if_t hf c1
        refine lv_iconst (v := (-1)) hx hb dX0_firstBerth_30 (by decide) ?_
        exact zr_i hx hb hr hlk hS (Option.some.inj hf) dX0_firstBerth_31
      · have hf := if_f hf c1
        refine lv_aload_n hx hb dX0_firstBerth_13 rfl (lv_at hl 0 rfl) ?_
        refine lv_iload_n hx hb dX0_firstBerth_14 rfl (lv_at hl 3 rfl) ?_
        obtain ⟨v3, hv2, hf⟩ := ob_some hf
        refine zc_i (z_VD (As := [.int x3]) (rest := []) (q0 := 0) (ci := 0) ⟨hx, hb, hml, hown, hts⟩ (m_X0_berthHolds l D Z a S x3 v3 hv2) gX0_firstBerth_X0_berthHolds rfl rfl rfl hdv_X0_berthHolds ⟨Nat.le_of_ble_eq_true rfl, Nat.le_of_ble_eq_true rfl⟩ hK hP hD rfl rfl rfl rfl hl.1 rfl (Nat.le_of_ble_eq_true rfl) dX0_firstBerth_15 ⟨Nat.le_of_ble_eq_true rfl, Nat.le_of_ble_eq_true rfl⟩) hP hS hA (fun H locs hP hS => ?_)
        refine lv_iload_n hx hb dX0_firstBerth_18 rfl (lv_at hl 2 rfl) ?_
        refine lv_icmp_ne (tgt := 24) hx hb dX0_firstBerth_19 (by decide) (fun c4 => ?_) (fun c4 => ?_)
        · have hf := if_f hf c4
          refine lv_iinc (v := (x3 + 1)) (lv' := [(3, .int (x3 + 1)), (0, .ref (a 0)), (1, .int x1), (2, .int x2)]) hx hb dX0_firstBerth_24 hl (k := 3) rfl rfl (by decide) rfl (fun ls hl => ?_)
          refine lv_goto (tgt := 4) hx hb dX0_firstBerth_27 (by decide) ?_
          exact ih x1 x2 (x3 + 1) _ _ hP hS ls (lv_sub hl [1, 2, 3, 0] rfl) hf
        · have hf := if_t hf c4
          refine lv_iload_n hx hb dX0_firstBerth_22 rfl (lv_at hl 3 rfl) ?_
          exact zr_i hx hb hr hlk hS (Option.some.inj hf) dX0_firstBerth_23
  unfold f_X0_firstBerth at hf
  refine lv_iload_n hx hb dX0_firstBerth_0 rfl (lv_at hl 1 rfl) ?_
  refine lv_iconst (v := 3) hx hb dX0_firstBerth_1 (by decide) ?_
  refine lv_imul hx hb dX0_firstBerth_2 ?_
  refine lv_istore_n (lv' := [(3, .int (p1 * 3)), (0, .ref (a 0)), (1, .int p1), (2, .int p2)]) hx hb dX0_firstBerth_3 rfl hl (by decide) rfl (fun ls hl => ?_)
  exact L4 FU p1 p2 (p1 * 3) _ _ hP hS ls (lv_sub hl [1, 2, 3, 0] rfl) hf
def f_X0_berthsThatHold_L7  (S : RS) : Nat → Int32 → Int32 → Int32 → Int32 → Option (Int32)
  | 0, _, _, _, _ => none
  | n + 1, x1, x2, x3, x4 =>
    if ((x1 + 1) * 3) ≤ x4 then
      some x3
    else
      ob (f_X0_berthHolds S x4) fun v3 =>
      if v3 = x2 then
        f_X0_berthsThatHold_L7 S n x1 x2 (x3 + 1) (x4 + 1)
      else
        f_X0_berthsThatHold_L7 S n x1 x2 x3 (x4 + 1)
def f_X0_berthsThatHold  (S : RS) (p1 : Int32) (p2 : Int32) : Option (Int32) :=
  f_X0_berthsThatHold_L7 S FU p1 p2 0 (p1 * 3)
abbrev rm_X0_berthsThatHold : Room := { frames := 2, cells := 0, slots := 0, locals := 43 }
theorem hdv_X0_berthsThatHold : yX0_berthsThatHold.cls = RX0 ∧ yX0_berthsThatHold.cls ≠ "java/lang/invoke/MethodHandle" ∧ yX0_berthsThatHold.cls ≠ "java/lang/invoke/VarHandle" ∧ (parseMethodDescriptor yX0_berthsThatHold.desc).map (fun d => d.parameters.length) = some 2 := by decide +kernel
set_option maxHeartbeats 4000000 in
set_option maxRecDepth 100000 in
theorem m_X0_berthsThatHold (l : Launch) (D : va_G) (Z : Nat → ClassId) (a : Nat → Nat) (S : RS) (p1 : Int32) (p2 : Int32) (r : Int32) (hf : f_X0_berthsThatHold S p1 p2 = some r) : ROi l yX0_berthsThatHold wsX0_berthsThatHold rm_X0_berthsThatHold D Z [.ref (a 0), .int p1, .int p2] (rwl Z a S) r := by
  refine ROi.of (cc := cX0_berthsThatHold) (nL := 5) (ret := (some .int)) (by decide +kernel) rfl (Nat.le_of_ble_eq_true rfl) ?_
  intro p e s m below meth c hC hA hP hK hD hS ls hl
  obtain ⟨hx, hb, hr, hml, hown, hts, hlk, -⟩ := hC
  have hown : s.vm.findClass RX0 = some m.cls := hown
  have hl : lv_has ls 5 [(0, .ref (a 0)), (1, .int p1), (2, .int p2)] := hl
  have L7 : ∀ (n : Nat) (x1 : Int32) (x2 : Int32) (x3 : Int32) (x4 : Int32) (H : Heap) (locs : List Loc), va_P D vwCl (rwl Z a S) H → va_S (fun q : Nat => s.heap.size ≤ q) s.heap H locs → ∀ ls : Array Slot, lv_has ls 5 [(0, .ref (a 0)), (1, .int x1), (2, .int x2), (3, .int x3), (4, .int x4)] → f_X0_berthsThatHold_L7 S n x1 x2 x3 x4 = some r → W p l e rm_X0_berthsThatHold s m ([.ref (a 0), .int p1, .int p2] : List Value).toArray below meth c H locs 0 0 (MQ below (zQi r s.heap.size) ([.ref (a 0), .int p1, .int p2] : List Value).toArray s 0 0 (fun q => s.heap.size ≤ q)) (F0 m 7 ls []) := by
    intro n
    induction n with
    | zero =>
      intro x1 x2 x3 x4 H locs hP hS ls hl hf
      exact no_r hf
    | succ n ih =>
      intro x1 x2 x3 x4 H locs hP hS ls hl hf
      rw [f_X0_berthsThatHold_L7] at hf
      refine lv_iload hx hb dX0_berthsThatHold_7 (lv_at hl 4 rfl) ?_
      refine lv_iload_n hx hb dX0_berthsThatHold_9 rfl (lv_at hl 1 rfl) ?_
      refine lv_iconst (v := 1) hx hb dX0_berthsThatHold_10 (by decide) ?_
      refine lv_iadd hx hb dX0_berthsThatHold_11 ?_
      refine lv_iconst (v := 3) hx hb dX0_berthsThatHold_12 (by decide) ?_
      refine lv_imul hx hb dX0_berthsThatHold_13 ?_
      refine lv_icmp_ge (tgt := 36) hx hb dX0_berthsThatHold_14 (by decide) (fun c1 => ?_) (fun c1 => ?_)
      · have hf := if_t hf c1
        refine lv_iload_n hx hb dX0_berthsThatHold_36 rfl (lv_at hl 3 rfl) ?_
        exact zr_i hx hb hr hlk hS (Option.some.inj hf) dX0_berthsThatHold_37
      · have hf := if_f hf c1
        refine lv_aload_n hx hb dX0_berthsThatHold_17 rfl (lv_at hl 0 rfl) ?_
        refine lv_iload hx hb dX0_berthsThatHold_18 (lv_at hl 4 rfl) ?_
        obtain ⟨v3, hv2, hf⟩ := ob_some hf
        refine zc_i (z_VD (As := [.int x4]) (rest := []) (q0 := 0) (ci := 0) ⟨hx, hb, hml, hown, hts⟩ (m_X0_berthHolds l D Z a S x4 v3 hv2) gX0_berthsThatHold_X0_berthHolds rfl rfl rfl hdv_X0_berthHolds ⟨Nat.le_of_ble_eq_true rfl, Nat.le_of_ble_eq_true rfl⟩ hK hP hD rfl rfl rfl rfl hl.1 rfl (Nat.le_of_ble_eq_true rfl) dX0_berthsThatHold_20 ⟨Nat.le_of_ble_eq_true rfl, Nat.le_of_ble_eq_true rfl⟩) hP hS hA (fun H locs hP hS => ?_)
        refine lv_iload_n hx hb dX0_berthsThatHold_23 rfl (lv_at hl 2 rfl) ?_
        refine lv_icmp_ne (tgt := 30) hx hb dX0_berthsThatHold_24 (by decide) (fun c4 => ?_) (fun c4 => ?_)
        · have hf := if_f hf c4
          refine lv_iinc (v := (x4 + 1)) (lv' := [(4, .int (x4 + 1)), (0, .ref (a 0)), (1, .int x1), (2, .int x2), (3, .int x3)]) hx hb dX0_berthsThatHold_30 hl (k := 4) rfl rfl (by decide) rfl (fun ls hl => ?_)
          refine lv_goto (tgt := 7) hx hb dX0_berthsThatHold_33 (by decide) ?_
          exact ih x1 x2 x3 (x4 + 1) _ _ hP hS ls (lv_sub hl [1, 2, 3, 4, 0] rfl) hf
        · have hf := if_t hf c4
          refine lv_iinc (v := (x3 + 1)) (lv' := [(3, .int (x3 + 1)), (0, .ref (a 0)), (1, .int x1), (2, .int x2), (4, .int x4)]) hx hb dX0_berthsThatHold_27 hl (k := 3) rfl rfl (by decide) rfl (fun ls hl => ?_)
          refine lv_iinc (v := (x4 + 1)) (lv' := [(4, .int (x4 + 1)), (3, .int (x3 + 1)), (0, .ref (a 0)), (1, .int x1), (2, .int x2)]) hx hb dX0_berthsThatHold_30 hl (k := 4) rfl rfl (by decide) rfl (fun ls hl => ?_)
          refine lv_goto (tgt := 7) hx hb dX0_berthsThatHold_33 (by decide) ?_
          exact ih x1 x2 (x3 + 1) (x4 + 1) _ _ hP hS ls (lv_sub hl [2, 3, 4, 1, 0] rfl) hf
  unfold f_X0_berthsThatHold at hf
  refine lv_iconst (v := 0) hx hb dX0_berthsThatHold_0 (by decide) ?_
  refine lv_istore_n (lv' := [(3, .int 0), (0, .ref (a 0)), (1, .int p1), (2, .int p2)]) hx hb dX0_berthsThatHold_1 rfl hl (by decide) rfl (fun ls hl => ?_)
  refine lv_iload_n hx hb dX0_berthsThatHold_2 rfl (lv_at hl 2 rfl) ?_
  refine lv_iconst (v := 3) hx hb dX0_berthsThatHold_3 (by decide) ?_
  refine lv_imul hx hb dX0_berthsThatHold_4 ?_
  refine lv_istore (lv' := [(4, .int (p1 * 3)), (3, .int 0), (0, .ref (a 0)), (1, .int p1), (2, .int p2)]) hx hb dX0_berthsThatHold_5 hl (by decide) rfl (fun ls hl => ?_)
  exact L7 FU p1 p2 0 (p1 * 3) _ _ hP hS ls (lv_sub hl [2, 3, 4, 1, 0] rfl) hf
def f_X0_berthOf  (S : RS) (p1 : Int32) : Option (Int32) :=
  ob (f_X0_find 18 (S.2 1) p1) fun v2 =>
  some v2
abbrev rm_X0_berthOf : Room := { frames := 1, cells := 0, slots := 0, locals := 22 }
theorem hdv_X0_berthOf : yX0_berthOf.cls = RX0 ∧ yX0_berthOf.cls ≠ "java/lang/invoke/MethodHandle" ∧ yX0_berthOf.cls ≠ "java/lang/invoke/VarHandle" ∧ (parseMethodDescriptor yX0_berthOf.desc).map (fun d => d.parameters.length) = some 1 := by decide +kernel
set_option maxHeartbeats 4000000 in
set_option maxRecDepth 100000 in
theorem m_X0_berthOf (l : Launch) (D : va_G) (Z : Nat → ClassId) (a : Nat → Nat) (S : RS) (p1 : Int32) (r : Int32) (hf : f_X0_berthOf S p1 = some r) : ROi l yX0_berthOf wsX0_berthOf rm_X0_berthOf D Z [.ref (a 0), .int p1] (rwl Z a S) r := by
  refine ROi.of (cc := cX0_berthOf) (nL := 2) (ret := (some .int)) (by decide +kernel) rfl (Nat.le_of_ble_eq_true rfl) ?_
  intro p e s m below meth c hC hA hP hK hD hS ls hl
  obtain ⟨hx, hb, hr, hml, hown, hts, hlk, -⟩ := hC
  have hown : s.vm.findClass RX0 = some m.cls := hown
  have hin : ∀ w ∈ wsX00, w ∈ wsX0_berthOf := fun w h => List.mem_cons_of_mem _ (List.mem_append_right _ h)
  have hl : lv_has ls 2 [(0, .ref (a 0)), (1, .int p1)] := hl
  unfold f_X0_berthOf at hf
  refine lv_aload_n hx hb dX0_berthOf_0 rfl (lv_at hl 0 rfl) ?_
  refine va_get (D := D) (ci := 0) (v := .ref (a 2)) (C := RX0) (T := TX0) (N := 17) hx hb hts hin hown hK hP 0 rfl rfl 7 (by decide) (hts (.fieldLink RX0 19 "PodGuideway$Ring" "podInBerth" "[I") (List.mem_of_getElem? (i := 1) rfl)) (fun _ h9 => h9) rfl dX0_berthOf_1 ?_
  refine lv_iload_n hx hb dX0_berthOf_4 rfl (lv_at hl 1 rfl) ?_
  obtain ⟨v2, hv1, hf⟩ := ob_some hf
  refine zc_i (z_SD (As := [.ref (a 2), .int p1]) (rest := []) ⟨hx, hb, hml, hown, hts⟩ (m_X0_find l D Z (a 2) 18 (S.2 1) p1 v2 hv1) gX0_berthOf_X0_find rfl rfl rfl hds_X0_find ⟨Nat.le_of_ble_eq_true rfl, Nat.le_of_ble_eq_true rfl⟩ hK (hP.sub (ws' := [((a 2), .inl (Z 0, 18, .inl (S.2 1)))]) [2] rfl) (hD.sub (ws' := [((a 2), .inl (Z 0, 18, .inl (S.2 1)))]) [2] (by decide) rfl) rfl hl.1 rfl (Nat.le_of_ble_eq_true rfl) dX0_berthOf_5 ⟨Nat.le_of_ble_eq_true rfl, Nat.le_of_ble_eq_true rfl⟩) hP hS hA (fun H locs hP hS => ?_)
  exact zr_i hx hb hr hlk hS (Option.some.inj hf) dX0_berthOf_8
def f_X0_emptyPodsTo_L4  (S : RS) : Nat → Int32 → Int32 → Int32 → Option (Int32)
  | 0, _, _, _ => none
  | n + 1, x1, x2, x3 =>
    if (S.1 2) ≤ x3 then
      some x2
    else
      ob (f_X0_goalOf S x3) fun v3 =>
      if v3 = x1 then
        ob (f_X0_read 12 (S.2 9) x3) fun v6 =>
        if v6 = (-1) then
          f_X0_emptyPodsTo_L4 S n x1 (x2 + 1) (x3 + 1)
        else
          f_X0_emptyPodsTo_L4 S n x1 x2 (x3 + 1)
      else
        f_X0_emptyPodsTo_L4 S n x1 x2 (x3 + 1)
def f_X0_emptyPodsTo  (S : RS) (p1 : Int32) : Option (Int32) :=
  f_X0_emptyPodsTo_L4 S FU p1 0 0
abbrev rm_X0_emptyPodsTo : Room := { frames := 2, cells := 0, slots := 0, locals := 42 }
theorem hdv_X0_emptyPodsTo : yX0_emptyPodsTo.cls = RX0 ∧ yX0_emptyPodsTo.cls ≠ "java/lang/invoke/MethodHandle" ∧ yX0_emptyPodsTo.cls ≠ "java/lang/invoke/VarHandle" ∧ (parseMethodDescriptor yX0_emptyPodsTo.desc).map (fun d => d.parameters.length) = some 1 := by decide +kernel
set_option maxHeartbeats 4000000 in
set_option maxRecDepth 100000 in
theorem m_X0_emptyPodsTo (l : Launch) (D : va_G) (Z : Nat → ClassId) (a : Nat → Nat) (S : RS) (p1 : Int32) (r : Int32) (hf : f_X0_emptyPodsTo S p1 = some r) : ROi l yX0_emptyPodsTo wsX0_emptyPodsTo rm_X0_emptyPodsTo D Z [.ref (a 0), .int p1] (rwl Z a S) r := by
  refine ROi.of (cc := cX0_emptyPodsTo) (nL := 4) (ret := (some .int)) (by decide +kernel) rfl (Nat.le_of_ble_eq_true rfl) ?_
  intro p e s m below meth c hC hA hP hK hD hS ls hl
  obtain ⟨hx, hb, hr, hml, hown, hts, hlk, -⟩ := hC
  have hown : s.vm.findClass RX0 = some m.cls := hown
  have hin : ∀ w ∈ wsX00, w ∈ wsX0_emptyPodsTo := fun w h => List.mem_cons_of_mem _ (List.mem_append_right _ h)
  have hl : lv_has ls 4 [(0, .ref (a 0)), (1, .int p1)] := hl
  have L4 : ∀ (n : Nat) (x1 : Int32) (x2 : Int32) (x3 : Int32) (H : Heap) (locs : List Loc), va_P D vwCl (rwl Z a S) H → va_S (fun q : Nat => s.heap.size ≤ q) s.heap H locs → ∀ ls : Array Slot, lv_has ls 4 [(0, .ref (a 0)), (1, .int x1), (2, .int x2), (3, .int x3)] → f_X0_emptyPodsTo_L4 S n x1 x2 x3 = some r → W p l e rm_X0_emptyPodsTo s m ([.ref (a 0), .int p1] : List Value).toArray below meth c H locs 0 0 (MQ below (zQi r s.heap.size) ([.ref (a 0), .int p1] : List Value).toArray s 0 0 (fun q => s.heap.size ≤ q)) (F0 m 4 ls []) := by
    intro n
    induction n with
    | zero =>
      intro x1 x2 x3 H locs hP hS ls hl hf
      exact no_r hf
    | succ n ih =>
      intro x1 x2 x3 H locs hP hS ls hl hf
      rw [f_X0_emptyPodsTo_L4] at hf
      refine lv_iload_n hx hb dX0_emptyPodsTo_4 rfl (lv_at hl 3 rfl) ?_
      refine lv_aload_n hx hb dX0_emptyPodsTo_5 rfl (lv_at hl 0 rfl) ?_
      refine va_get (D := D) (ci := 0) (v := .int (S.1 2)) (C := RX0) (T := TX0) (N := 17) hx hb hts hin hown hK hP 0 rfl rfl 2 (by decide) (hts (.fieldLink RX0 56 "PodGuideway$Ring" "pods" "I") (List.mem_of_getElem? (i := 1) rfl)) (fun _ h9 => h9) rfl dX0_emptyPodsTo_6 ?_
      refine lv_icmp_ge (tgt := 42) hx hb dX0_emptyPodsTo_9 (by decide) (fun c1 => ?_) (fun c1 => ?_)
      · have hf := if_t hf c1
        refine lv_iload_n hx hb dX0_emptyPodsTo_42 rfl (lv_at hl 2 rfl) ?_
        exact zr_i hx hb hr hlk hS (Option.some.inj hf) dX0_emptyPodsTo_43
      · have hf := if_f hf c1
        refine lv_aload_n hx hb dX0_emptyPodsTo_12 rfl (lv_at hl 0 rfl) ?_
        refine lv_iload_n hx hb dX0_emptyPodsTo_13 rfl (lv_at hl 3 rfl) ?_
        obtain ⟨v3, hv2, hf⟩ := ob_some hf
        refine zc_i (z_VD (As := [.int x3]) (rest := []) (q0 := 0) (ci := 0) ⟨hx, hb, hml, hown, hts⟩ (m_X0_goalOf l D Z a S x3 v3 hv2) gX0_emptyPodsTo_X0_goalOf rfl rfl rfl hdv_X0_goalOf ⟨Nat.le_of_ble_eq_true rfl, Nat.le_of_ble_eq_true rfl⟩ hK hP hD rfl rfl rfl rfl hl.1 rfl (Nat.le_of_ble_eq_true rfl) dX0_emptyPodsTo_14 ⟨Nat.le_of_ble_eq_true rfl, Nat.le_of_ble_eq_true rfl⟩) hP hS hA (fun H locs hP hS => ?_)
        refine lv_iload_n hx hb dX0_emptyPodsTo_17 rfl (lv_at hl 1 rfl) ?_
        refine lv_icmp_ne (tgt := 36) hx hb dX0_emptyPodsTo_18 (by decide) (fun c4 => ?_) (fun c4 => ?_)
        · have hf := if_f hf c4
          refine lv_iinc (v := (x3 + 1)) (lv' := [(3, .int (x3 + 1)), (0, .ref (a 0)), (1, .int x1), (2, .int x2)]) hx hb dX0_emptyPodsTo_36 hl (k := 3) rfl rfl (by decide) rfl (fun ls hl => ?_)
          refine lv_goto (tgt := 4) hx hb dX0_emptyPodsTo_39 (by decide) ?_
          exact ih x1 x2 (x3 + 1) _ _ hP hS ls (lv_sub hl [1, 2, 3, 0] rfl) hf
        · have hf := if_t hf c4
          refine lv_aload_n hx hb dX0_emptyPodsTo_21 rfl (lv_at hl 0 rfl) ?_
          refine va_get (D := D) (ci := 0) (v := .ref (a 10)) (C := RX0) (T := TX0) (N := 17) hx hb hts hin hown hK hP 0 rfl rfl 15 (by decide) (hts (.fieldLink RX0 43 "PodGuideway$Ring" "podRider" "[I") (List.mem_of_getElem? (i := 2) rfl)) (fun _ h9 => h9) rfl dX0_emptyPodsTo_22 ?_
          refine lv_iload_n hx hb dX0_emptyPodsTo_25 rfl (lv_at hl 3 rfl) ?_
          obtain ⟨v6, hv5, hf⟩ := ob_some hf
          refine zc_i (z_SD (As := [.ref (a 10), .int x3]) (rest := []) ⟨hx, hb, hml, hown, hts⟩ (m_X0_read l D Z (a 10) 12 (S.2 9) x3 v6 hv5) gX0_emptyPodsTo_X0_read rfl rfl rfl hds_X0_read ⟨Nat.le_of_ble_eq_true rfl, Nat.le_of_ble_eq_true rfl⟩ hK (hP.sub (ws' := [((a 10), .inl (Z 0, 12, .inl (S.2 9)))]) [10] rfl) (hD.sub (ws' := [((a 10), .inl (Z 0, 12, .inl (S.2 9)))]) [10] (by decide) rfl) rfl hl.1 rfl (Nat.le_of_ble_eq_true rfl) dX0_emptyPodsTo_26 ⟨Nat.le_of_ble_eq_true rfl, Nat.le_of_ble_eq_true rfl⟩) hP hS hA (fun H locs hP hS => ?_)
          refine lv_iconst (v := (-1)) hx hb dX0_emptyPodsTo_29 (by decide) ?_
          refine lv_icmp_ne (tgt := 36) hx hb dX0_emptyPodsTo_30 (by decide) (fun c7 => ?_) (fun c7 => ?_)
          · have hf := if_f hf c7
            refine lv_iinc (v := (x3 + 1)) (lv' := [(3, .int (x3 + 1)), (0, .ref (a 0)), (1, .int x1), (2, .int x2)]) hx hb dX0_emptyPodsTo_36 hl (k := 3) rfl rfl (by decide) rfl (fun ls hl => ?_)
            refine lv_goto (tgt := 4) hx hb dX0_emptyPodsTo_39 (by decide) ?_
            exact ih x1 x2 (x3 + 1) _ _ hP hS ls (lv_sub hl [1, 2, 3, 0] rfl) hf
          · have hf := if_t hf c7
            refine lv_iinc (v := (x2 + 1)) (lv' := [(2, .int (x2 + 1)), (0, .ref (a 0)), (1, .int x1), (3, .int x3)]) hx hb dX0_emptyPodsTo_33 hl (k := 2) rfl rfl (by decide) rfl (fun ls hl => ?_)
            refine lv_iinc (v := (x3 + 1)) (lv' := [(3, .int (x3 + 1)), (2, .int (x2 + 1)), (0, .ref (a 0)), (1, .int x1)]) hx hb dX0_emptyPodsTo_36 hl (k := 3) rfl rfl (by decide) rfl (fun ls hl => ?_)
            refine lv_goto (tgt := 4) hx hb dX0_emptyPodsTo_39 (by decide) ?_
            exact ih x1 (x2 + 1) (x3 + 1) _ _ hP hS ls (lv_sub hl [2, 3, 1, 0] rfl) hf
  unfold f_X0_emptyPodsTo at hf
  refine lv_iconst (v := 0) hx hb dX0_emptyPodsTo_0 (by decide) ?_
  refine lv_istore_n (lv' := [(2, .int 0), (0, .ref (a 0)), (1, .int p1)]) hx hb dX0_emptyPodsTo_1 rfl hl (by decide) rfl (fun ls hl => ?_)
  refine lv_iconst (v := 0) hx hb dX0_emptyPodsTo_2 (by decide) ?_
  refine lv_istore_n (lv' := [(3, .int 0), (2, .int 0), (0, .ref (a 0)), (1, .int p1)]) hx hb dX0_emptyPodsTo_3 rfl hl (by decide) rfl (fun ls hl => ?_)
  exact L4 FU p1 0 0 _ _ hP hS ls (lv_sub hl [2, 3, 1, 0] rfl) hf
def f_X0_setGoal  (S : RS) (p1 : Int32) (p2 : Int32) : Option (RS) :=
  ob (f_X0_write 12 (S.2 8) p1 p2) fun f2 =>
  lt (sR S 8 f2) fun (S3 : RS) =>
  some S3
abbrev rm_X0_setGoal : Room := { frames := 1, cells := 0, slots := 0, locals := 22 }
theorem hdv_X0_setGoal : yX0_setGoal.cls = RX0 ∧ yX0_setGoal.cls ≠ "java/lang/invoke/MethodHandle" ∧ yX0_setGoal.cls ≠ "java/lang/invoke/VarHandle" ∧ (parseMethodDescriptor yX0_setGoal.desc).map (fun d => d.parameters.length) = some 2 := by decide +kernel
set_option maxHeartbeats 4000000 in
set_option maxRecDepth 100000 in
theorem m_X0_setGoal (l : Launch) (D : va_G) (Z : Nat → ClassId) (a : Nat → Nat) (S : RS) (p1 : Int32) (p2 : Int32) (S' : RS) (hf : f_X0_setGoal S p1 p2 = some S') : RWv l yX0_setGoal wsX0_setGoal rm_X0_setGoal D Z [.ref (a 0), .int p1, .int p2] (rwl Z a S) (rwl Z a S') 0 0 := by
  refine RWv.of (cc := cX0_setGoal) (nL := 3) (ret := none) (by decide +kernel) rfl (Nat.le_of_ble_eq_true rfl) ?_
  intro p e s m below meth c A hC hA hP hK hD hS ls hl
  obtain ⟨hx, hb, hr, hml, hown, hts, hlk, -⟩ := hC
  have hown : s.vm.findClass RX0 = some m.cls := hown
  have hin : ∀ w ∈ wsX00, w ∈ wsX0_setGoal := fun w h => List.mem_cons_of_mem _ (List.mem_append_right _ h)
  have hl : lv_has ls 3 [(0, .ref (a 0)), (1, .int p1), (2, .int p2)] := hl
  unfold f_X0_setGoal at hf
  refine lv_aload_n hx hb dX0_setGoal_0 rfl (lv_at hl 0 rfl) ?_
  refine va_get (D := D) (ci := 0) (v := .ref (a 9)) (C := RX0) (T := TX0) (N := 17) hx hb hts hin hown hK hP 0 rfl rfl 14 (by decide) (hts (.fieldLink RX0 40 "PodGuideway$Ring" "podGoal" "[I") (List.mem_of_getElem? (i := 1) rfl)) (fun _ h9 => h9) rfl dX0_setGoal_1 ?_
  refine lv_iload_n hx hb dX0_setGoal_4 rfl (lv_at hl 1 rfl) ?_
  refine lv_iload_n hx hb dX0_setGoal_5 rfl (lv_at hl 2 rfl) ?_
  obtain ⟨f2, hv1, hf⟩ := ob_some hf
  refine zc_mv1 (k := 9) (e1 := .inl (Z 0, 12, .inl f2)) rfl (z_SD (As := [.ref (a 9), .int p1, .int p2]) (rest := []) ⟨hx, hb, hml, hown, hts⟩ (m_X0_write l D Z (a 9) 12 (S.2 8) p1 p2 f2 hv1) gX0_setGoal_X0_write rfl rfl rfl hds_X0_write ⟨Nat.le_of_ble_eq_true rfl, Nat.le_of_ble_eq_true rfl⟩ hK (hP.sub (ws' := [((a 9), .inl (Z 0, 12, .inl (S.2 8)))]) [9] rfl) (hD.sub (ws' := [((a 9), .inl (Z 0, 12, .inl (S.2 8)))]) [9] (by decide) rfl) rfl hl.1 rfl (Nat.le_of_ble_eq_true rfl) dX0_setGoal_6 ⟨Nat.le_of_ble_eq_true rfl, Nat.le_of_ble_eq_true rfl⟩) hP hD hS hA (fun H locs hP hD hS => ?_)
  obtain ⟨S3, eS3, hf⟩ := lt_ex hf
  have hP : va_P D vwCl (rwl Z a S3) H := by rw [eS3]; exact hP
  have hD : va_D A (rwl Z a S3) := by rw [eS3]; exact hD
  exact zw_v hx hb hr hlk hP hD hS (congrArg (fun z => ((rwl Z a z) : va_W)) (Option.some.inj hf)) (Nat.le_of_ble_eq_true rfl) (Nat.le_of_ble_eq_true rfl) dX0_setGoal_9
def f_X0_stationAtPlace_L2  (S : RS) : Nat → Int32 → Int32 → Option (Int32)
  | 0, _, _ => none
  | n + 1, x1, x2 =>
    if (S.1 1) ≤ x2 then
      some (-1)
    else
      ob (f_X0_placeOf S x2) fun v3 =>
      if v3 = x1 then
        some x2
      else
        f_X0_stationAtPlace_L2 S n x1 (x2 + 1)
def f_X0_stationAtPlace  (S : RS) (p1 : Int32) : Option (Int32) :=
  f_X0_stationAtPlace_L2 S FU p1 0
abbrev rm_X0_stationAtPlace : Room := { frames := 2, cells := 0, slots := 0, locals := 42 }
theorem hdv_X0_stationAtPlace : yX0_stationAtPlace.cls = RX0 ∧ yX0_stationAtPlace.cls ≠ "java/lang/invoke/MethodHandle" ∧ yX0_stationAtPlace.cls ≠ "java/lang/invoke/VarHandle" ∧ (parseMethodDescriptor yX0_stationAtPlace.desc).map (fun d => d.parameters.length) = some 1 := by decide +kernel
set_option maxHeartbeats 4000000 in
set_option maxRecDepth 100000 in
theorem m_X0_stationAtPlace (l : Launch) (D : va_G) (Z : Nat → ClassId) (a : Nat → Nat) (S : RS) (p1 : Int32) (r : Int32) (hf : f_X0_stationAtPlace S p1 = some r) : ROi l yX0_stationAtPlace wsX0_stationAtPlace rm_X0_stationAtPlace D Z [.ref (a 0), .int p1] (rwl Z a S) r := by
  refine ROi.of (cc := cX0_stationAtPlace) (nL := 3) (ret := (some .int)) (by decide +kernel) rfl (Nat.le_of_ble_eq_true rfl) ?_
  intro p e s m below meth c hC hA hP hK hD hS ls hl
  obtain ⟨hx, hb, hr, hml, hown, hts, hlk, -⟩ := hC
  have hown : s.vm.findClass RX0 = some m.cls := hown
  have hin : ∀ w ∈ wsX00, w ∈ wsX0_stationAtPlace := fun w h => List.mem_cons_of_mem _ (List.mem_append_right _ h)
  have hl : lv_has ls 3 [(0, .ref (a 0)), (1, .int p1)] := hl
  have L2 : ∀ (n : Nat) (x1 : Int32) (x2 : Int32) (H : Heap) (locs : List Loc), va_P D vwCl (rwl Z a S) H → va_S (fun q : Nat => s.heap.size ≤ q) s.heap H locs → ∀ ls : Array Slot, lv_has ls 3 [(0, .ref (a 0)), (1, .int x1), (2, .int x2)] → f_X0_stationAtPlace_L2 S n x1 x2 = some r → W p l e rm_X0_stationAtPlace s m ([.ref (a 0), .int p1] : List Value).toArray below meth c H locs 0 0 (MQ below (zQi r s.heap.size) ([.ref (a 0), .int p1] : List Value).toArray s 0 0 (fun q => s.heap.size ≤ q)) (F0 m 2 ls []) := by
    intro n
    induction n with
    | zero =>
      intro x1 x2 H locs hP hS ls hl hf
      exact no_r hf
    | succ n ih =>
      intro x1 x2 H locs hP hS ls hl hf
      rw [f_X0_stationAtPlace_L2] at hf
      refine lv_iload_n hx hb dX0_stationAtPlace_2 rfl (lv_at hl 2 rfl) ?_
      refine lv_aload_n hx hb dX0_stationAtPlace_3 rfl (lv_at hl 0 rfl) ?_
      refine va_get (D := D) (ci := 0) (v := .int (S.1 1)) (C := RX0) (T := TX0) (N := 17) hx hb hts hin hown hK hP 0 rfl rfl 1 (by decide) (hts (.fieldLink RX0 53 "PodGuideway$Ring" "stations" "I") (List.mem_of_getElem? (i := 1) rfl)) (fun _ h9 => h9) rfl dX0_stationAtPlace_4 ?_
      refine lv_icmp_ge (tgt := 27) hx hb dX0_stationAtPlace_7 (by decide) (fun c1 => ?_) (fun c1 => ?_)
      · have hf := if_t hf c1
        refine lv_iconst (v := (-1)) hx hb dX0_stationAtPlace_27 (by decide) ?_
        exact zr_i hx hb hr hlk hS (Option.some.inj hf) dX0_stationAtPlace_28
      · have hf := if_f hf c1
        refine lv_aload_n hx hb dX0_stationAtPlace_10 rfl (lv_at hl 0 rfl) ?_
        refine lv_iload_n hx hb dX0_stationAtPlace_11 rfl (lv_at hl 2 rfl) ?_
        obtain ⟨v3, hv2, hf⟩ := ob_some hf
        refine zc_i (z_VD (As := [.int x2]) (rest := []) (q0 := 0) (ci := 0) ⟨hx, hb, hml, hown, hts⟩ (m_X0_placeOf l D Z a S x2 v3 hv2) gX0_stationAtPlace_X0_placeOf rfl rfl rfl hdv_X0_placeOf ⟨Nat.le_of_ble_eq_true rfl, Nat.le_of_ble_eq_true rfl⟩ hK hP hD rfl rfl rfl rfl hl.1 rfl (Nat.le_of_ble_eq_true rfl) dX0_stationAtPlace_12 ⟨Nat.le_of_ble_eq_true rfl, Nat.le_of_ble_eq_true rfl⟩) hP hS hA (fun H locs hP hS => ?_)
        refine lv_iload_n hx hb dX0_stationAtPlace_15 rfl (lv_at hl 1 rfl) ?_
        refine lv_icmp_ne (tgt := 21) hx hb dX0_stationAtPlace_16 (by decide) (fun c4 => ?_) (fun c4 => ?_)
        · have hf := if_f hf c4
          refine lv_iinc (v := (x2 + 1)) (lv' := [(2, .int (x2 + 1)), (0, .ref (a 0)), (1, .int x1)]) hx hb dX0_stationAtPlace_21 hl (k := 2) rfl rfl (by decide) rfl (fun ls hl => ?_)
          refine lv_goto (tgt := 2) hx hb dX0_stationAtPlace_24 (by decide) ?_
          exact ih x1 (x2 + 1) _ _ hP hS ls (lv_sub hl [1, 2, 0] rfl) hf
        · have hf := if_t hf c4
          refine lv_iload_n hx hb dX0_stationAtPlace_19 rfl (lv_at hl 2 rfl) ?_
          exact zr_i hx hb hr hlk hS (Option.some.inj hf) dX0_stationAtPlace_20
  unfold f_X0_stationAtPlace at hf
  refine lv_iconst (v := 0) hx hb dX0_stationAtPlace_0 (by decide) ?_
  refine lv_istore_n (lv' := [(2, .int 0), (0, .ref (a 0)), (1, .int p1)]) hx hb dX0_stationAtPlace_1 rfl hl (by decide) rfl (fun ls hl => ?_)
  exact L2 FU p1 0 _ _ hP hS ls (lv_sub hl [1, 2, 0] rfl) hf
def f_X0_placesOn  (S : RS) (p1 : Int32) (p2 : Int32) : Option (Int32) :=
  ob (f_X0_placeOf S p2) fun v2 =>
  ob (f_X0_placeOf S p1) fun v4 =>
  ob (f_J9_floorMod_7cf53 (v2 - v4) 24) fun v6 =>
  some v6
abbrev rm_X0_placesOn : Room := { frames := 2, cells := 0, slots := 0, locals := 42 }
theorem hdv_X0_placesOn : yX0_placesOn.cls = RX0 ∧ yX0_placesOn.cls ≠ "java/lang/invoke/MethodHandle" ∧ yX0_placesOn.cls ≠ "java/lang/invoke/VarHandle" ∧ (parseMethodDescriptor yX0_placesOn.desc).map (fun d => d.parameters.length) = some 2 := by decide +kernel
set_option maxHeartbeats 4000000 in
set_option maxRecDepth 100000 in
theorem m_X0_placesOn (l : Launch) (D : va_G) (Z : Nat → ClassId) (a : Nat → Nat) (S : RS) (p1 : Int32) (p2 : Int32) (r : Int32) (hf : f_X0_placesOn S p1 p2 = some r) : ROi l yX0_placesOn wsX0_placesOn rm_X0_placesOn D Z [.ref (a 0), .int p1, .int p2] (rwl Z a S) r := by
  refine ROi.of (cc := cX0_placesOn) (nL := 3) (ret := (some .int)) (by decide +kernel) rfl (Nat.le_of_ble_eq_true rfl) ?_
  intro p e s m below meth c hC hA hP hK hD hS ls hl
  obtain ⟨hx, hb, hr, hml, hown, hts, hlk, -⟩ := hC
  have hown : s.vm.findClass RX0 = some m.cls := hown
  have hl : lv_has ls 3 [(0, .ref (a 0)), (1, .int p1), (2, .int p2)] := hl
  unfold f_X0_placesOn at hf
  refine lv_aload_n hx hb dX0_placesOn_0 rfl (lv_at hl 0 rfl) ?_
  refine lv_iload_n hx hb dX0_placesOn_1 rfl (lv_at hl 2 rfl) ?_
  obtain ⟨v2, hv1, hf⟩ := ob_some hf
  refine zc_i (z_VD (As := [.int p2]) (rest := []) (q0 := 0) (ci := 0) ⟨hx, hb, hml, hown, hts⟩ (m_X0_placeOf l D Z a S p2 v2 hv1) gX0_placesOn_X0_placeOf rfl rfl rfl hdv_X0_placeOf ⟨Nat.le_of_ble_eq_true rfl, Nat.le_of_ble_eq_true rfl⟩ hK hP hD rfl rfl rfl rfl hl.1 rfl (Nat.le_of_ble_eq_true rfl) dX0_placesOn_2 ⟨Nat.le_of_ble_eq_true rfl, Nat.le_of_ble_eq_true rfl⟩) hP hS hA (fun H locs hP hS => ?_)
  refine lv_aload_n hx hb dX0_placesOn_5 rfl (lv_at hl 0 rfl) ?_
  refine lv_iload_n hx hb dX0_placesOn_6 rfl (lv_at hl 1 rfl) ?_
  obtain ⟨v4, hv3, hf⟩ := ob_some hf
  refine zc_i (z_VD (As := [.int p1]) (rest := [.int v2]) (q0 := 0) (ci := 0) ⟨hx, hb, hml, hown, hts⟩ (m_X0_placeOf l D Z a S p1 v4 hv3) gX0_placesOn_X0_placeOf rfl rfl rfl hdv_X0_placeOf ⟨Nat.le_of_ble_eq_true rfl, Nat.le_of_ble_eq_true rfl⟩ hK hP hD rfl rfl rfl rfl hl.1 rfl (Nat.le_of_ble_eq_true rfl) dX0_placesOn_7 ⟨Nat.le_of_ble_eq_true rfl, Nat.le_of_ble_eq_true rfl⟩) hP hS hA (fun H locs hP hS => ?_)
  refine lv_isub hx hb dX0_placesOn_10 ?_
  refine lv_bipush (v := 24) hx hb dX0_placesOn_11 (by decide) ?_
  obtain ⟨v6, hv5, hf⟩ := ob_some hf
  refine zc_i (z_SD (As := [.int (v2 - v4), .int 24]) (rest := []) ⟨hx, hb, hml, hown, hts⟩ (m_J9_floorMod_7cf53 l D Z (v2 - v4) 24 v6 hv5) gX0_placesOn_J9_floorMod_7cf53 rfl rfl rfl hds_J9_floorMod_7cf53 ⟨Nat.le_of_ble_eq_true rfl, Nat.le_of_ble_eq_true rfl⟩ hK (hP.sub (ws' := []) [] rfl) (hD.sub (ws' := []) [] (by decide) rfl) rfl hl.1 rfl (Nat.le_of_ble_eq_true rfl) dX0_placesOn_13 ⟨Nat.le_of_ble_eq_true rfl, Nat.le_of_ble_eq_true rfl⟩) hP hS hA (fun H locs hP hS => ?_)
  exact zr_i hx hb hr hlk hS (Option.some.inj hf) dX0_placesOn_16
def f_X0_stationThatAnswers_L8  (S : RS) : Nat → Int32 → Int32 → Int32 → Int32 → Option (Int32)
  | 0, _, _, _, _ => none
  | n + 1, x1, x2, x3, x4 =>
    if (S.1 1) ≤ x4 then
      some x2
    else
      ob (f_X0_placesOn S x4 x1) fun v3 =>
      if x4 = x1 then
        f_X0_stationThatAnswers_L8 S n x1 x2 x3 (x4 + 1)
      else
        if x3 ≤ v3 then
          f_X0_stationThatAnswers_L8 S n x1 x2 x3 (x4 + 1)
        else
          ob (f_X0_waitingAt S x4) fun v7 =>
          if v7 = 0 then
            ob (f_X0_firstBerth S x4 1) fun v10 =>
            if v10 = (-1) then
              f_X0_stationThatAnswers_L8 S n x1 x2 x3 (x4 + 1)
            else
              f_X0_stationThatAnswers_L8 S n x1 x4 v3 (x4 + 1)
          else
            f_X0_stationThatAnswers_L8 S n x1 x2 x3 (x4 + 1)
def f_X0_stationThatAnswers  (S : RS) (p1 : Int32) : Option (Int32) :=
  f_X0_stationThatAnswers_L8 S FU p1 (-1) 24 0
abbrev rm_X0_stationThatAnswers : Room := { frames := 3, cells := 0, slots := 0, locals := 66 }
theorem hdv_X0_stationThatAnswers : yX0_stationThatAnswers.cls = RX0 ∧ yX0_stationThatAnswers.cls ≠ "java/lang/invoke/MethodHandle" ∧ yX0_stationThatAnswers.cls ≠ "java/lang/invoke/VarHandle" ∧ (parseMethodDescriptor yX0_stationThatAnswers.desc).map (fun d => d.parameters.length) = some 1 := by decide +kernel
set_option maxHeartbeats 4000000 in
set_option maxRecDepth 100000 in
theorem m_X0_stationThatAnswers (l : Launch) (D : va_G) (Z : Nat → ClassId) (a : Nat → Nat) (S : RS) (p1 : Int32) (r : Int32) (hf : f_X0_stationThatAnswers S p1 = some r) : ROi l yX0_stationThatAnswers wsX0_stationThatAnswers rm_X0_stationThatAnswers D Z [.ref (a 0), .int p1] (rwl Z a S) r := by
  refine ROi.of (cc := cX0_stationThatAnswers) (nL := 6) (ret := (some .int)) (by decide +kernel) rfl (Nat.le_of_ble_eq_true rfl) ?_
  intro p e s m below meth c hC hA hP hK hD hS ls hl
  obtain ⟨hx, hb, hr, hml, hown, hts, hlk, -⟩ := hC
  have hown : s.vm.findClass RX0 = some m.cls := hown
  have hin : ∀ w ∈ wsX00, w ∈ wsX0_stationThatAnswers := fun w h => List.mem_cons_of_mem _ (List.mem_append_right _ h)
  have hl : lv_has ls 6 [(0, .ref (a 0)), (1, .int p1)] := hl
  have L8 : ∀ (n : Nat) (x1 : Int32) (x2 : Int32) (x3 : Int32) (x4 : Int32) (H : Heap) (locs : List Loc), va_P D vwCl (rwl Z a S) H → va_S (fun q : Nat => s.heap.size ≤ q) s.heap H locs → ∀ ls : Array Slot, lv_has ls 6 [(0, .ref (a 0)), (1, .int x1), (2, .int x2), (3, .int x3), (4, .int x4)] → f_X0_stationThatAnswers_L8 S n x1 x2 x3 x4 = some r → W p l e rm_X0_stationThatAnswers s m ([.ref (a 0), .int p1] : List Value).toArray below meth c H locs 0 0 (MQ below (zQi r s.heap.size) ([.ref (a 0), .int p1] : List Value).toArray s 0 0 (fun q => s.heap.size ≤ q)) (F0 m 8 ls []) := by
    intro n
    induction n with
    | zero =>
      intro x1 x2 x3 x4 H locs hP hS ls hl hf
      exact no_r hf
    | succ n ih =>
      intro x1 x2 x3 x4 H locs hP hS ls hl hf
      rw [f_X0_stationThatAnswers_L8] at hf
      refine lv_iload hx hb dX0_stationThatAnswers_8 (lv_at hl 4 rfl) ?_
      refine lv_aload_n hx hb dX0_stationThatAnswers_10 rfl (lv_at hl 0 rfl) ?_
      refine va_get (D := D) (ci := 0) (v := .int (S.1 1)) (C := RX0) (T := TX0) (N := 17) hx hb hts hin hown hK hP 0 rfl rfl 1 (by decide) (hts (.fieldLink RX0 53 "PodGuideway$Ring" "stations" "I") (List.mem_of_getElem? (i := 1) rfl)) (fun _ h9 => h9) rfl dX0_stationThatAnswers_11 ?_
      refine lv_icmp_ge (tgt := 70) hx hb dX0_stationThatAnswers_14 (by decide) (fun c1 => ?_) (fun c1 => ?_)
      · have hf := if_t hf c1
        refine lv_iload_n hx hb dX0_stationThatAnswers_70 rfl (lv_at hl 2 rfl) ?_
        exact zr_i hx hb hr hlk hS (Option.some.inj hf) dX0_stationThatAnswers_71
      · have hf := if_f hf c1
        refine lv_aload_n hx hb dX0_stationThatAnswers_17 rfl (lv_at hl 0 rfl) ?_
        refine lv_iload hx hb dX0_stationThatAnswers_18 (lv_at hl 4 rfl) ?_
        refine lv_iload_n hx hb dX0_stationThatAnswers_20 rfl (lv_at hl 1 rfl) ?_
        obtain ⟨v3, hv2, hf⟩ := ob_some hf
        refine zc_i (z_VD (As := [.int x4, .int x1]) (rest := []) (q0 := 0) (ci := 0) ⟨hx, hb, hml, hown, hts⟩ (m_X0_placesOn l D Z a S x4 x1 v3 hv2) gX0_stationThatAnswers_X0_placesOn rfl rfl rfl hdv_X0_placesOn ⟨Nat.le_of_ble_eq_true rfl, Nat.le_of_ble_eq_true rfl⟩ hK hP hD rfl rfl rfl rfl hl.1 rfl (Nat.le_of_ble_eq_true rfl) dX0_stationThatAnswers_21 ⟨Nat.le_of_ble_eq_true rfl, Nat.le_of_ble_eq_true rfl⟩) hP hS hA (fun H locs hP hS => ?_)
        refine lv_istore (lv' := [(5, .int v3), (0, .ref (a 0)), (1, .int x1), (2, .int x2), (3, .int x3), (4, .int x4)]) hx hb dX0_stationThatAnswers_24 hl (by decide) rfl (fun ls hl => ?_)
        refine lv_iload hx hb dX0_stationThatAnswers_26 (lv_at hl 5 rfl) ?_
        refine lv_iload_n hx hb dX0_stationThatAnswers_28 rfl (lv_at hl 2 rfl) ?_
        refine lv_icmp_eq (tgt := 64) hx hb dX0_stationThatAnswers_29 (by decide) (fun c4 => ?_) (fun c4 => ?_)
        · have hf := if_t hf c4
          refine lv_iinc (v := (x4 + 1)) (lv' := [(4, .int (x4 + 1)), (5, .int v3), (0, .ref (a 0)), (1, .int x1), (2, .int x2), (3, .int x3)]) hx hb dX0_stationThatAnswers_64 hl (k := 5) rfl rfl (by decide) rfl (fun ls hl => ?_)
          refine lv_goto (tgt := 8) hx hb dX0_stationThatAnswers_67 (by decide) ?_
          exact ih x1 x2 x3 (x4 + 1) _ _ hP hS ls (lv_sub hl [2, 3, 4, 5, 0] rfl) hf
        · have hf := if_f hf c4
          refine lv_iload hx hb dX0_stationThatAnswers_32 (lv_at hl 0 rfl) ?_
          refine lv_iload_n hx hb dX0_stationThatAnswers_34 rfl (lv_at hl 4 rfl) ?_
          refine lv_icmp_ge (tgt := 64) hx hb dX0_stationThatAnswers_35 (by decide) (fun c5 => ?_) (fun c5 => ?_)
          · have hf := if_t hf c5
            refine lv_iinc (v := (x4 + 1)) (lv' := [(4, .int (x4 + 1)), (5, .int v3), (0, .ref (a 0)), (1, .int x1), (2, .int x2), (3, .int x3)]) hx hb dX0_stationThatAnswers_64 hl (k := 5) rfl rfl (by decide) rfl (fun ls hl => ?_)
            refine lv_goto (tgt := 8) hx hb dX0_stationThatAnswers_67 (by decide) ?_
            exact ih x1 x2 x3 (x4 + 1) _ _ hP hS ls (lv_sub hl [2, 3, 4, 5, 0] rfl) hf
          · have hf := if_f hf c5
            refine lv_aload_n hx hb dX0_stationThatAnswers_38 rfl (lv_at hl 1 rfl) ?_
            refine lv_iload hx hb dX0_stationThatAnswers_39 (lv_at hl 5 rfl) ?_
            obtain ⟨v7, hv6, hf⟩ := ob_some hf
            refine zc_i (z_VD (As := [.int x4]) (rest := []) (q0 := 0) (ci := 0) ⟨hx, hb, hml, hown, hts⟩ (m_X0_waitingAt l D Z a S x4 v7 hv6) gX0_stationThatAnswers_X0_waitingAt rfl rfl rfl hdv_X0_waitingAt ⟨Nat.le_of_ble_eq_true rfl, Nat.le_of_ble_eq_true rfl⟩ hK hP hD rfl rfl rfl rfl hl.1 rfl (Nat.le_of_ble_eq_true rfl) dX0_stationThatAnswers_41 ⟨Nat.le_of_ble_eq_true rfl, Nat.le_of_ble_eq_true rfl⟩) hP hS hA (fun H locs hP hS => ?_)
            refine lv_if_ne (tgt := 64) hx hb dX0_stationThatAnswers_44 (by decide) (fun c8 => ?_) (fun c8 => ?_)
            · have hf := if_f hf c8
              refine lv_iinc (v := (x4 + 1)) (lv' := [(4, .int (x4 + 1)), (5, .int v3), (0, .ref (a 0)), (1, .int x1), (2, .int x2), (3, .int x3)]) hx hb dX0_stationThatAnswers_64 hl (k := 5) rfl rfl (by decide) rfl (fun ls hl => ?_)
              refine lv_goto (tgt := 8) hx hb dX0_stationThatAnswers_67 (by decide) ?_
              exact ih x1 x2 x3 (x4 + 1) _ _ hP hS ls (lv_sub hl [2, 3, 4, 5, 0] rfl) hf
            · have hf := if_t hf c8
              refine lv_aload_n hx hb dX0_stationThatAnswers_47 rfl (lv_at hl 1 rfl) ?_
              refine lv_iload hx hb dX0_stationThatAnswers_48 (lv_at hl 5 rfl) ?_
              refine lv_iconst (v := 1) hx hb dX0_stationThatAnswers_50 (by decide) ?_
              obtain ⟨v10, hv9, hf⟩ := ob_some hf
              refine zc_i (z_VD (As := [.int x4, .int 1]) (rest := []) (q0 := 0) (ci := 0) ⟨hx, hb, hml, hown, hts⟩ (m_X0_firstBerth l D Z a S x4 1 v10 hv9) gX0_stationThatAnswers_X0_firstBerth rfl rfl rfl hdv_X0_firstBerth ⟨Nat.le_of_ble_eq_true rfl, Nat.le_of_ble_eq_true rfl⟩ hK hP hD rfl rfl rfl rfl hl.1 rfl (Nat.le_of_ble_eq_true rfl) dX0_stationThatAnswers_51 ⟨Nat.le_of_ble_eq_true rfl, Nat.le_of_ble_eq_true rfl⟩) hP hS hA (fun H locs hP hS => ?_)
              refine lv_iconst (v := (-1)) hx hb dX0_stationThatAnswers_54 (by decide) ?_
              refine lv_icmp_eq (tgt := 64) hx hb dX0_stationThatAnswers_55 (by decide) (fun c11 => ?_) (fun c11 => ?_)
              · have hf := if_t hf c11
                refine lv_iinc (v := (x4 + 1)) (lv' := [(4, .int (x4 + 1)), (5, .int v3), (0, .ref (a 0)), (1, .int x1), (2, .int x2), (3, .int x3)]) hx hb dX0_stationThatAnswers_64 hl (k := 5) rfl rfl (by decide) rfl (fun ls hl => ?_)
                refine lv_goto (tgt := 8) hx hb dX0_stationThatAnswers_67 (by decide) ?_
                exact ih x1 x2 x3 (x4 + 1) _ _ hP hS ls (lv_sub hl [2, 3, 4, 5, 0] rfl) hf
              · have hf := if_f hf c11
                refine lv_iload hx hb dX0_stationThatAnswers_58 (lv_at hl 5 rfl) ?_
                refine lv_istore_n (lv' := [(2, .int x4), (5, .int v3), (0, .ref (a 0)), (1, .int x1), (3, .int x3), (4, .int x4)]) hx hb dX0_stationThatAnswers_60 rfl hl (by decide) rfl (fun ls hl => ?_)
                refine lv_iload hx hb dX0_stationThatAnswers_61 (lv_at hl 1 rfl) ?_
                refine lv_istore_n (lv' := [(3, .int v3), (2, .int x4), (5, .int v3), (0, .ref (a 0)), (1, .int x1), (4, .int x4)]) hx hb dX0_stationThatAnswers_63 rfl hl (by decide) rfl (fun ls hl => ?_)
                refine lv_iinc (v := (x4 + 1)) (lv' := [(4, .int (x4 + 1)), (3, .int v3), (2, .int x4), (5, .int v3), (0, .ref (a 0)), (1, .int x1)]) hx hb dX0_stationThatAnswers_64 hl (k := 5) rfl rfl (by decide) rfl (fun ls hl => ?_)
                refine lv_goto (tgt := 8) hx hb dX0_stationThatAnswers_67 (by decide) ?_
                exact ih x1 x4 v3 (x4 + 1) _ _ hP hS ls (lv_sub hl [4, 5, 2, 1, 0] rfl) hf
  unfold f_X0_stationThatAnswers at hf
  refine lv_iconst (v := (-1)) hx hb dX0_stationThatAnswers_0 (by decide) ?_
  refine lv_istore_n (lv' := [(2, .int (-1)), (0, .ref (a 0)), (1, .int p1)]) hx hb dX0_stationThatAnswers_1 rfl hl (by decide) rfl (fun ls hl => ?_)
  refine lv_bipush (v := 24) hx hb dX0_stationThatAnswers_2 (by decide) ?_
  refine lv_istore_n (lv' := [(3, .int 24), (2, .int (-1)), (0, .ref (a 0)), (1, .int p1)]) hx hb dX0_stationThatAnswers_4 rfl hl (by decide) rfl (fun ls hl => ?_)
  refine lv_iconst (v := 0) hx hb dX0_stationThatAnswers_5 (by decide) ?_
  refine lv_istore (lv' := [(4, .int 0), (3, .int 24), (2, .int (-1)), (0, .ref (a 0)), (1, .int p1)]) hx hb dX0_stationThatAnswers_6 hl (by decide) rfl (fun ls hl => ?_)
  exact L8 FU p1 (-1) 24 0 _ _ hP hS ls (lv_sub hl [3, 4, 2, 1, 0] rfl) hf
def f_X0_waitedBy  (S : RS) (p1 : Int32) (p2 : Int32) : Option (Int32) :=
  ob (f_X0_read 54 (S.2 7) ((p1 * 9) + p2)) fun v2 =>
  some ((S.1 0) - v2)
abbrev rm_X0_waitedBy : Room := { frames := 1, cells := 0, slots := 0, locals := 21 }
theorem hdv_X0_waitedBy : yX0_waitedBy.cls = RX0 ∧ yX0_waitedBy.cls ≠ "java/lang/invoke/MethodHandle" ∧ yX0_waitedBy.cls ≠ "java/lang/invoke/VarHandle" ∧ (parseMethodDescriptor yX0_waitedBy.desc).map (fun d => d.parameters.length) = some 2 := by decide +kernel
set_option maxHeartbeats 4000000 in
set_option maxRecDepth 100000 in
theorem m_X0_waitedBy (l : Launch) (D : va_G) (Z : Nat → ClassId) (a : Nat → Nat) (S : RS) (p1 : Int32) (p2 : Int32) (r : Int32) (hf : f_X0_waitedBy S p1 p2 = some r) : ROi l yX0_waitedBy wsX0_waitedBy rm_X0_waitedBy D Z [.ref (a 0), .int p1, .int p2] (rwl Z a S) r := by
  refine ROi.of (cc := cX0_waitedBy) (nL := 3) (ret := (some .int)) (by decide +kernel) rfl (Nat.le_of_ble_eq_true rfl) ?_
  intro p e s m below meth c hC hA hP hK hD hS ls hl
  obtain ⟨hx, hb, hr, hml, hown, hts, hlk, -⟩ := hC
  have hown : s.vm.findClass RX0 = some m.cls := hown
  have hin : ∀ w ∈ wsX00, w ∈ wsX0_waitedBy := fun w h => List.mem_cons_of_mem _ (List.mem_append_right _ h)
  have hl : lv_has ls 3 [(0, .ref (a 0)), (1, .int p1), (2, .int p2)] := hl
  unfold f_X0_waitedBy at hf
  refine lv_aload_n hx hb dX0_waitedBy_0 rfl (lv_at hl 0 rfl) ?_
  refine va_get (D := D) (ci := 0) (v := .int (S.1 0)) (C := RX0) (T := TX0) (N := 17) hx hb hts hin hown hK hP 0 rfl rfl 0 (by decide) (hts (.fieldLink RX0 49 "PodGuideway$Ring" "minute" "I") (List.mem_of_getElem? (i := 1) rfl)) (fun _ h9 => h9) rfl dX0_waitedBy_1 ?_
  refine lv_aload_n hx hb dX0_waitedBy_4 rfl (lv_at hl 0 rfl) ?_
  refine va_get (D := D) (ci := 0) (v := .ref (a 8)) (C := RX0) (T := TX0) (N := 17) hx hb hts hin hown hK hP 0 rfl rfl 13 (by decide) (hts (.fieldLink RX0 37 "PodGuideway$Ring" "riderCame" "[I") (List.mem_of_getElem? (i := 2) rfl)) (fun _ h9 => h9) rfl dX0_waitedBy_5 ?_
  refine lv_iload_n hx hb dX0_waitedBy_8 rfl (lv_at hl 1 rfl) ?_
  refine lv_bipush (v := 9) hx hb dX0_waitedBy_9 (by decide) ?_
  refine lv_imul hx hb dX0_waitedBy_11 ?_
  refine lv_iload_n hx hb dX0_waitedBy_12 rfl (lv_at hl 2 rfl) ?_
  refine lv_iadd hx hb dX0_waitedBy_13 ?_
  obtain ⟨v2, hv1, hf⟩ := ob_some hf
  refine zc_i (z_SD (As := [.ref (a 8), .int ((p1 * 9) + p2)]) (rest := [.int (S.1 0)]) ⟨hx, hb, hml, hown, hts⟩ (m_X0_read l D Z (a 8) 54 (S.2 7) ((p1 * 9) + p2) v2 hv1) gX0_waitedBy_X0_read rfl rfl rfl hds_X0_read ⟨Nat.le_of_ble_eq_true rfl, Nat.le_of_ble_eq_true rfl⟩ hK (hP.sub (ws' := [((a 8), .inl (Z 0, 54, .inl (S.2 7)))]) [8] rfl) (hD.sub (ws' := [((a 8), .inl (Z 0, 54, .inl (S.2 7)))]) [8] (by decide) rfl) rfl hl.1 rfl (Nat.le_of_ble_eq_true rfl) dX0_waitedBy_14 ⟨Nat.le_of_ble_eq_true rfl, Nat.le_of_ble_eq_true rfl⟩) hP hS hA (fun H locs hP hS => ?_)
  refine lv_isub hx hb dX0_waitedBy_17 ?_
  exact zr_i hx hb hr hlk hS (Option.some.inj hf) dX0_waitedBy_18
def f_X0_waitedAt_L11  (S : RS) : Nat → Int32 → Int32 → Int32 → Int32 → Option (Int32)
  | 0, _, _, _, _ => none
  | n + 1, x1, x2, x3, x4 =>
    if x3 ≤ x4 then
      some x2
    else
      ob (f_X0_waitedBy S x1 x4) fun v5 =>
      f_X0_waitedAt_L11 S n x1 (x2 + v5) x3 (x4 + 1)
def f_X0_waitedAt  (S : RS) (p1 : Int32) : Option (Int32) :=
  ob (f_X0_waitingAt S p1) fun v2 =>
  f_X0_waitedAt_L11 S FU p1 0 v2 0
abbrev rm_X0_waitedAt : Room := { frames := 2, cells := 0, slots := 0, locals := 45 }
theorem hdv_X0_waitedAt : yX0_waitedAt.cls = RX0 ∧ yX0_waitedAt.cls ≠ "java/lang/invoke/MethodHandle" ∧ yX0_waitedAt.cls ≠ "java/lang/invoke/VarHandle" ∧ (parseMethodDescriptor yX0_waitedAt.desc).map (fun d => d.parameters.length) = some 1 := by decide +kernel
set_option maxHeartbeats 4000000 in
set_option maxRecDepth 100000 in
theorem m_X0_waitedAt (l : Launch) (D : va_G) (Z : Nat → ClassId) (a : Nat → Nat) (S : RS) (p1 : Int32) (r : Int32) (hf : f_X0_waitedAt S p1 = some r) : ROi l yX0_waitedAt wsX0_waitedAt rm_X0_waitedAt D Z [.ref (a 0), .int p1] (rwl Z a S) r := by
  refine ROi.of (cc := cX0_waitedAt) (nL := 5) (ret := (some .int)) (by decide +kernel) rfl (Nat.le_of_ble_eq_true rfl) ?_
  intro p e s m below meth c hC hA hP hK hD hS ls hl
  obtain ⟨hx, hb, hr, hml, hown, hts, hlk, -⟩ := hC
  have hown : s.vm.findClass RX0 = some m.cls := hown
  have hl : lv_has ls 5 [(0, .ref (a 0)), (1, .int p1)] := hl
  have L11 : ∀ (n : Nat) (x1 : Int32) (x2 : Int32) (x3 : Int32) (x4 : Int32) (H : Heap) (locs : List Loc), va_P D vwCl (rwl Z a S) H → va_S (fun q : Nat => s.heap.size ≤ q) s.heap H locs → ∀ ls : Array Slot, lv_has ls 5 [(0, .ref (a 0)), (1, .int x1), (2, .int x2), (3, .int x3), (4, .int x4)] → f_X0_waitedAt_L11 S n x1 x2 x3 x4 = some r → W p l e rm_X0_waitedAt s m ([.ref (a 0), .int p1] : List Value).toArray below meth c H locs 0 0 (MQ below (zQi r s.heap.size) ([.ref (a 0), .int p1] : List Value).toArray s 0 0 (fun q => s.heap.size ≤ q)) (F0 m 11 ls []) := by
    intro n
    induction n with
    | zero =>
      intro x1 x2 x3 x4 H locs hP hS ls hl hf
      exact no_r hf
    | succ n ih =>
      intro x1 x2 x3 x4 H locs hP hS ls hl hf
      rw [f_X0_waitedAt_L11] at hf
      refine lv_iload hx hb dX0_waitedAt_11 (lv_at hl 4 rfl) ?_
      refine lv_iload_n hx hb dX0_waitedAt_13 rfl (lv_at hl 3 rfl) ?_
      refine lv_icmp_ge (tgt := 33) hx hb dX0_waitedAt_14 (by decide) (fun c3 => ?_) (fun c3 => ?_)
      · have hf := if_t hf c3
        refine lv_iload_n hx hb dX0_waitedAt_33 rfl (lv_at hl 2 rfl) ?_
        exact zr_i hx hb hr hlk hS (Option.some.inj hf) dX0_waitedAt_34
      · have hf := if_f hf c3
        refine lv_iload_n hx hb dX0_waitedAt_17 rfl (lv_at hl 2 rfl) ?_
        refine lv_aload_n hx hb dX0_waitedAt_18 rfl (lv_at hl 0 rfl) ?_
        refine lv_iload_n hx hb dX0_waitedAt_19 rfl (lv_at hl 1 rfl) ?_
        refine lv_iload hx hb dX0_waitedAt_20 (lv_at hl 4 rfl) ?_
        obtain ⟨v5, hv4, hf⟩ := ob_some hf
        refine zc_i (z_VD (As := [.int x1, .int x4]) (rest := [.int x2]) (q0 := 0) (ci := 0) ⟨hx, hb, hml, hown, hts⟩ (m_X0_waitedBy l D Z a S x1 x4 v5 hv4) gX0_waitedAt_X0_waitedBy rfl rfl rfl hdv_X0_waitedBy ⟨Nat.le_of_ble_eq_true rfl, Nat.le_of_ble_eq_true rfl⟩ hK hP hD rfl rfl rfl rfl hl.1 rfl (Nat.le_of_ble_eq_true rfl) dX0_waitedAt_22 ⟨Nat.le_of_ble_eq_true rfl, Nat.le_of_ble_eq_true rfl⟩) hP hS hA (fun H locs hP hS => ?_)
        refine lv_iadd hx hb dX0_waitedAt_25 ?_
        refine lv_istore_n (lv' := [(2, .int (x2 + v5)), (0, .ref (a 0)), (1, .int x1), (3, .int x3), (4, .int x4)]) hx hb dX0_waitedAt_26 rfl hl (by decide) rfl (fun ls hl => ?_)
        refine lv_iinc (v := (x4 + 1)) (lv' := [(4, .int (x4 + 1)), (2, .int (x2 + v5)), (0, .ref (a 0)), (1, .int x1), (3, .int x3)]) hx hb dX0_waitedAt_27 hl (k := 4) rfl rfl (by decide) rfl (fun ls hl => ?_)
        refine lv_goto (tgt := 11) hx hb dX0_waitedAt_30 (by decide) ?_
        exact ih x1 (x2 + v5) x3 (x4 + 1) _ _ hP hS ls (lv_sub hl [2, 3, 1, 4, 0] rfl) hf
  unfold f_X0_waitedAt at hf
  refine lv_iconst (v := 0) hx hb dX0_waitedAt_0 (by decide) ?_
  refine lv_istore_n (lv' := [(2, .int 0), (0, .ref (a 0)), (1, .int p1)]) hx hb dX0_waitedAt_1 rfl hl (by decide) rfl (fun ls hl => ?_)
  refine lv_aload_n hx hb dX0_waitedAt_2 rfl (lv_at hl 1 rfl) ?_
  refine lv_iload_n hx hb dX0_waitedAt_3 rfl (lv_at hl 2 rfl) ?_
  obtain ⟨v2, hv1, hf⟩ := ob_some hf
  refine zc_i (z_VD (As := [.int p1]) (rest := []) (q0 := 0) (ci := 0) ⟨hx, hb, hml, hown, hts⟩ (m_X0_waitingAt l D Z a S p1 v2 hv1) gX0_waitedAt_X0_waitingAt rfl rfl rfl hdv_X0_waitingAt ⟨Nat.le_of_ble_eq_true rfl, Nat.le_of_ble_eq_true rfl⟩ hK hP hD rfl rfl rfl rfl hl.1 rfl (Nat.le_of_ble_eq_true rfl) dX0_waitedAt_4 ⟨Nat.le_of_ble_eq_true rfl, Nat.le_of_ble_eq_true rfl⟩) hP hS hA (fun H locs hP hS => ?_)
  refine lv_istore_n (lv' := [(3, .int v2), (2, .int 0), (0, .ref (a 0)), (1, .int p1)]) hx hb dX0_waitedAt_7 rfl hl (by decide) rfl (fun ls hl => ?_)
  refine lv_iconst (v := 0) hx hb dX0_waitedAt_8 (by decide) ?_
  refine lv_istore (lv' := [(4, .int 0), (3, .int v2), (2, .int 0), (0, .ref (a 0)), (1, .int p1)]) hx hb dX0_waitedAt_9 hl (by decide) rfl (fun ls hl => ?_)
  exact L11 FU p1 0 v2 0 _ _ hP hS ls (lv_sub hl [3, 4, 2, 1, 0] rfl) hf
def f_X0_waitedInAll_L4  (S : RS) : Nat → Int32 → Int32 → Option (Int32)
  | 0, _, _ => none
  | n + 1, x1, x2 =>
    if (S.1 1) ≤ x2 then
      some x1
    else
      ob (f_X0_waitedAt S x2) fun v3 =>
      f_X0_waitedInAll_L4 S n (x1 + v3) (x2 + 1)
def f_X0_waitedInAll  (S : RS)  : Option (Int32) :=
  f_X0_waitedInAll_L4 S FU 0 0
abbrev rm_X0_waitedInAll : Room := { frames := 3, cells := 0, slots := 0, locals := 69 }
theorem hdv_X0_waitedInAll : yX0_waitedInAll.cls = RX0 ∧ yX0_waitedInAll.cls ≠ "java/lang/invoke/MethodHandle" ∧ yX0_waitedInAll.cls ≠ "java/lang/invoke/VarHandle" ∧ (parseMethodDescriptor yX0_waitedInAll.desc).map (fun d => d.parameters.length) = some 0 := by decide +kernel
set_option maxHeartbeats 4000000 in
set_option maxRecDepth 100000 in
theorem m_X0_waitedInAll (l : Launch) (D : va_G) (Z : Nat → ClassId) (a : Nat → Nat) (S : RS)  (r : Int32) (hf : f_X0_waitedInAll S = some r) : ROi l yX0_waitedInAll wsX0_waitedInAll rm_X0_waitedInAll D Z [.ref (a 0)] (rwl Z a S) r := by
  refine ROi.of (cc := cX0_waitedInAll) (nL := 3) (ret := (some .int)) (by decide +kernel) rfl (Nat.le_of_ble_eq_true rfl) ?_
  intro p e s m below meth c hC hA hP hK hD hS ls hl
  obtain ⟨hx, hb, hr, hml, hown, hts, hlk, -⟩ := hC
  have hown : s.vm.findClass RX0 = some m.cls := hown
  have hin : ∀ w ∈ wsX00, w ∈ wsX0_waitedInAll := fun w h => List.mem_cons_of_mem _ (List.mem_append_right _ h)
  have hl : lv_has ls 3 [(0, .ref (a 0))] := hl
  have L4 : ∀ (n : Nat) (x1 : Int32) (x2 : Int32) (H : Heap) (locs : List Loc), va_P D vwCl (rwl Z a S) H → va_S (fun q : Nat => s.heap.size ≤ q) s.heap H locs → ∀ ls : Array Slot, lv_has ls 3 [(0, .ref (a 0)), (1, .int x1), (2, .int x2)] → f_X0_waitedInAll_L4 S n x1 x2 = some r → W p l e rm_X0_waitedInAll s m ([.ref (a 0)] : List Value).toArray below meth c H locs 0 0 (MQ below (zQi r s.heap.size) ([.ref (a 0)] : List Value).toArray s 0 0 (fun q => s.heap.size ≤ q)) (F0 m 4 ls []) := by
    intro n
    induction n with
    | zero =>
      intro x1 x2 H locs hP hS ls hl hf
      exact no_r hf
    | succ n ih =>
      intro x1 x2 H locs hP hS ls hl hf
      rw [f_X0_waitedInAll_L4] at hf
      refine lv_iload_n hx hb dX0_waitedInAll_4 rfl (lv_at hl 2 rfl) ?_
      refine lv_aload_n hx hb dX0_waitedInAll_5 rfl (lv_at hl 0 rfl) ?_
      refine va_get (D := D) (ci := 0) (v := .int (S.1 1)) (C := RX0) (T := TX0) (N := 17) hx hb hts hin hown hK hP 0 rfl rfl 1 (by decide) (hts (.fieldLink RX0 53 "PodGuideway$Ring" "stations" "I") (List.mem_of_getElem? (i := 1) rfl)) (fun _ h9 => h9) rfl dX0_waitedInAll_6 ?_
      refine lv_icmp_ge (tgt := 26) hx hb dX0_waitedInAll_9 (by decide) (fun c1 => ?_) (fun c1 => ?_)
      · have hf := if_t hf c1
        refine lv_iload_n hx hb dX0_waitedInAll_26 rfl (lv_at hl 1 rfl) ?_
        exact zr_i hx hb hr hlk hS (Option.some.inj hf) dX0_waitedInAll_27
      · have hf := if_f hf c1
        refine lv_iload_n hx hb dX0_waitedInAll_12 rfl (lv_at hl 1 rfl) ?_
        refine lv_aload_n hx hb dX0_waitedInAll_13 rfl (lv_at hl 0 rfl) ?_
        refine lv_iload_n hx hb dX0_waitedInAll_14 rfl (lv_at hl 2 rfl) ?_
        obtain ⟨v3, hv2, hf⟩ := ob_some hf
        refine zc_i (z_VD (As := [.int x2]) (rest := [.int x1]) (q0 := 0) (ci := 0) ⟨hx, hb, hml, hown, hts⟩ (m_X0_waitedAt l D Z a S x2 v3 hv2) gX0_waitedInAll_X0_waitedAt rfl rfl rfl hdv_X0_waitedAt ⟨Nat.le_of_ble_eq_true rfl, Nat.le_of_ble_eq_true rfl⟩ hK hP hD rfl rfl rfl rfl hl.1 rfl (Nat.le_of_ble_eq_true rfl) dX0_waitedInAll_15 ⟨Nat.le_of_ble_eq_true rfl, Nat.le_of_ble_eq_true rfl⟩) hP hS hA (fun H locs hP hS => ?_)
        refine lv_iadd hx hb dX0_waitedInAll_18 ?_
        refine lv_istore_n (lv' := [(1, .int (x1 + v3)), (0, .ref (a 0)), (2, .int x2)]) hx hb dX0_waitedInAll_19 rfl hl (by decide) rfl (fun ls hl => ?_)
        refine lv_iinc (v := (x2 + 1)) (lv' := [(2, .int (x2 + 1)), (1, .int (x1 + v3)), (0, .ref (a 0))]) hx hb dX0_waitedInAll_20 hl (k := 2) rfl rfl (by decide) rfl (fun ls hl => ?_)
        refine lv_goto (tgt := 4) hx hb dX0_waitedInAll_23 (by decide) ?_
        exact ih (x1 + v3) (x2 + 1) _ _ hP hS ls (lv_sub hl [2, 1, 0] rfl) hf
  unfold f_X0_waitedInAll at hf
  refine lv_iconst (v := 0) hx hb dX0_waitedInAll_0 (by decide) ?_
  refine lv_istore_n (lv' := [(1, .int 0), (0, .ref (a 0))]) hx hb dX0_waitedInAll_1 rfl hl (by decide) rfl (fun ls hl => ?_)
  refine lv_iconst (v := 0) hx hb dX0_waitedInAll_2 (by decide) ?_
  refine lv_istore_n (lv' := [(2, .int 0), (1, .int 0), (0, .ref (a 0))]) hx hb dX0_waitedInAll_3 rfl hl (by decide) rfl (fun ls hl => ?_)
  exact L4 FU 0 0 _ _ hP hS ls (lv_sub hl [2, 1, 0] rfl) hf
def f_X0_waitingInAll_L4  (S : RS) : Nat → Int32 → Int32 → Option (Int32)
  | 0, _, _ => none
  | n + 1, x1, x2 =>
    if (S.1 1) ≤ x2 then
      some x1
    else
      ob (f_X0_waitingAt S x2) fun v3 =>
      f_X0_waitingInAll_L4 S n (x1 + v3) (x2 + 1)
def f_X0_waitingInAll  (S : RS)  : Option (Int32) :=
  f_X0_waitingInAll_L4 S FU 0 0
abbrev rm_X0_waitingInAll : Room := { frames := 2, cells := 0, slots := 0, locals := 45 }
theorem hdv_X0_waitingInAll : yX0_waitingInAll.cls = RX0 ∧ yX0_waitingInAll.cls ≠ "java/lang/invoke/MethodHandle" ∧ yX0_waitingInAll.cls ≠ "java/lang/invoke/VarHandle" ∧ (parseMethodDescriptor yX0_waitingInAll.desc).map (fun d => d.parameters.length) = some 0 := by decide +kernel
set_option maxHeartbeats 4000000 in
set_option maxRecDepth 100000 in
theorem m_X0_waitingInAll (l : Launch) (D : va_G) (Z : Nat → ClassId) (a : Nat → Nat) (S : RS)  (r : Int32) (hf : f_X0_waitingInAll S = some r) : ROi l yX0_waitingInAll wsX0_waitingInAll rm_X0_waitingInAll D Z [.ref (a 0)] (rwl Z a S) r := by
  refine ROi.of (cc := cX0_waitingInAll) (nL := 3) (ret := (some .int)) (by decide +kernel) rfl (Nat.le_of_ble_eq_true rfl) ?_
  intro p e s m below meth c hC hA hP hK hD hS ls hl
  obtain ⟨hx, hb, hr, hml, hown, hts, hlk, -⟩ := hC
  have hown : s.vm.findClass RX0 = some m.cls := hown
  have hin : ∀ w ∈ wsX00, w ∈ wsX0_waitingInAll := fun w h => List.mem_cons_of_mem _ (List.mem_append_right _ h)
  have hl : lv_has ls 3 [(0, .ref (a 0))] := hl
  have L4 : ∀ (n : Nat) (x1 : Int32) (x2 : Int32) (H : Heap) (locs : List Loc), va_P D vwCl (rwl Z a S) H → va_S (fun q : Nat => s.heap.size ≤ q) s.heap H locs → ∀ ls : Array Slot, lv_has ls 3 [(0, .ref (a 0)), (1, .int x1), (2, .int x2)] → f_X0_waitingInAll_L4 S n x1 x2 = some r → W p l e rm_X0_waitingInAll s m ([.ref (a 0)] : List Value).toArray below meth c H locs 0 0 (MQ below (zQi r s.heap.size) ([.ref (a 0)] : List Value).toArray s 0 0 (fun q => s.heap.size ≤ q)) (F0 m 4 ls []) := by
    intro n
    induction n with
    | zero =>
      intro x1 x2 H locs hP hS ls hl hf
      exact no_r hf
    | succ n ih =>
      intro x1 x2 H locs hP hS ls hl hf
      rw [f_X0_waitingInAll_L4] at hf
      refine lv_iload_n hx hb dX0_waitingInAll_4 rfl (lv_at hl 2 rfl) ?_
      refine lv_aload_n hx hb dX0_waitingInAll_5 rfl (lv_at hl 0 rfl) ?_
      refine va_get (D := D) (ci := 0) (v := .int (S.1 1)) (C := RX0) (T := TX0) (N := 17) hx hb hts hin hown hK hP 0 rfl rfl 1 (by decide) (hts (.fieldLink RX0 53 "PodGuideway$Ring" "stations" "I") (List.mem_of_getElem? (i := 1) rfl)) (fun _ h9 => h9) rfl dX0_waitingInAll_6 ?_
      refine lv_icmp_ge (tgt := 26) hx hb dX0_waitingInAll_9 (by decide) (fun c1 => ?_) (fun c1 => ?_)
      · have hf := if_t hf c1
        refine lv_iload_n hx hb dX0_waitingInAll_26 rfl (lv_at hl 1 rfl) ?_
        exact zr_i hx hb hr hlk hS (Option.some.inj hf) dX0_waitingInAll_27
      · have hf := if_f hf c1
        refine lv_iload_n hx hb dX0_waitingInAll_12 rfl (lv_at hl 1 rfl) ?_
        refine lv_aload_n hx hb dX0_waitingInAll_13 rfl (lv_at hl 0 rfl) ?_
        refine lv_iload_n hx hb dX0_waitingInAll_14 rfl (lv_at hl 2 rfl) ?_
        obtain ⟨v3, hv2, hf⟩ := ob_some hf
        refine zc_i (z_VD (As := [.int x2]) (rest := [.int x1]) (q0 := 0) (ci := 0) ⟨hx, hb, hml, hown, hts⟩ (m_X0_waitingAt l D Z a S x2 v3 hv2) gX0_waitingInAll_X0_waitingAt rfl rfl rfl hdv_X0_waitingAt ⟨Nat.le_of_ble_eq_true rfl, Nat.le_of_ble_eq_true rfl⟩ hK hP hD rfl rfl rfl rfl hl.1 rfl (Nat.le_of_ble_eq_true rfl) dX0_waitingInAll_15 ⟨Nat.le_of_ble_eq_true rfl, Nat.le_of_ble_eq_true rfl⟩) hP hS hA (fun H locs hP hS => ?_)
        refine lv_iadd hx hb dX0_waitingInAll_18 ?_
        refine lv_istore_n (lv' := [(1, .int (x1 + v3)), (0, .ref (a 0)), (2, .int x2)]) hx hb dX0_waitingInAll_19 rfl hl (by decide) rfl (fun ls hl => ?_)
        refine lv_iinc (v := (x2 + 1)) (lv' := [(2, .int (x2 + 1)), (1, .int (x1 + v3)), (0, .ref (a 0))]) hx hb dX0_waitingInAll_20 hl (k := 2) rfl rfl (by decide) rfl (fun ls hl => ?_)
        refine lv_goto (tgt := 4) hx hb dX0_waitingInAll_23 (by decide) ?_
        exact ih (x1 + v3) (x2 + 1) _ _ hP hS ls (lv_sub hl [2, 1, 0] rfl) hf
  unfold f_X0_waitingInAll at hf
  refine lv_iconst (v := 0) hx hb dX0_waitingInAll_0 (by decide) ?_
  refine lv_istore_n (lv' := [(1, .int 0), (0, .ref (a 0))]) hx hb dX0_waitingInAll_1 rfl hl (by decide) rfl (fun ls hl => ?_)
  refine lv_iconst (v := 0) hx hb dX0_waitingInAll_2 (by decide) ?_
  refine lv_istore_n (lv' := [(2, .int 0), (1, .int 0), (0, .ref (a 0))]) hx hb dX0_waitingInAll_3 rfl hl (by decide) rfl (fun ls hl => ?_)
  exact L4 FU 0 0 _ _ hP hS ls (lv_sub hl [2, 1, 0] rfl) hf
def f_X0_arrivedInAll_L4  (S : RS) : Nat → Int32 → Int32 → Option (Int32)
  | 0, _, _ => none
  | n + 1, x1, x2 =>
    if (S.1 1) ≤ x2 then
      some x1
    else
      ob (f_X0_read 6 (S.2 3) x2) fun v3 =>
      f_X0_arrivedInAll_L4 S n (x1 + v3) (x2 + 1)
def f_X0_arrivedInAll  (S : RS)  : Option (Int32) :=
  f_X0_arrivedInAll_L4 S FU 0 0
abbrev rm_X0_arrivedInAll : Room := { frames := 1, cells := 0, slots := 0, locals := 21 }
theorem hdv_X0_arrivedInAll : yX0_arrivedInAll.cls = RX0 ∧ yX0_arrivedInAll.cls ≠ "java/lang/invoke/MethodHandle" ∧ yX0_arrivedInAll.cls ≠ "java/lang/invoke/VarHandle" ∧ (parseMethodDescriptor yX0_arrivedInAll.desc).map (fun d => d.parameters.length) = some 0 := by decide +kernel
set_option maxHeartbeats 4000000 in
set_option maxRecDepth 100000 in
theorem m_X0_arrivedInAll (l : Launch) (D : va_G) (Z : Nat → ClassId) (a : Nat → Nat) (S : RS)  (r : Int32) (hf : f_X0_arrivedInAll S = some r) : ROi l yX0_arrivedInAll wsX0_arrivedInAll rm_X0_arrivedInAll D Z [.ref (a 0)] (rwl Z a S) r := by
  refine ROi.of (cc := cX0_arrivedInAll) (nL := 3) (ret := (some .int)) (by decide +kernel) rfl (Nat.le_of_ble_eq_true rfl) ?_
  intro p e s m below meth c hC hA hP hK hD hS ls hl
  obtain ⟨hx, hb, hr, hml, hown, hts, hlk, -⟩ := hC
  have hown : s.vm.findClass RX0 = some m.cls := hown
  have hin : ∀ w ∈ wsX00, w ∈ wsX0_arrivedInAll := fun w h => List.mem_cons_of_mem _ (List.mem_append_right _ h)
  have hl : lv_has ls 3 [(0, .ref (a 0))] := hl
  have L4 : ∀ (n : Nat) (x1 : Int32) (x2 : Int32) (H : Heap) (locs : List Loc), va_P D vwCl (rwl Z a S) H → va_S (fun q : Nat => s.heap.size ≤ q) s.heap H locs → ∀ ls : Array Slot, lv_has ls 3 [(0, .ref (a 0)), (1, .int x1), (2, .int x2)] → f_X0_arrivedInAll_L4 S n x1 x2 = some r → W p l e rm_X0_arrivedInAll s m ([.ref (a 0)] : List Value).toArray below meth c H locs 0 0 (MQ below (zQi r s.heap.size) ([.ref (a 0)] : List Value).toArray s 0 0 (fun q => s.heap.size ≤ q)) (F0 m 4 ls []) := by
    intro n
    induction n with
    | zero =>
      intro x1 x2 H locs hP hS ls hl hf
      exact no_r hf
    | succ n ih =>
      intro x1 x2 H locs hP hS ls hl hf
      rw [f_X0_arrivedInAll_L4] at hf
      refine lv_iload_n hx hb dX0_arrivedInAll_4 rfl (lv_at hl 2 rfl) ?_
      refine lv_aload_n hx hb dX0_arrivedInAll_5 rfl (lv_at hl 0 rfl) ?_
      refine va_get (D := D) (ci := 0) (v := .int (S.1 1)) (C := RX0) (T := TX0) (N := 17) hx hb hts hin hown hK hP 0 rfl rfl 1 (by decide) (hts (.fieldLink RX0 53 "PodGuideway$Ring" "stations" "I") (List.mem_of_getElem? (i := 1) rfl)) (fun _ h9 => h9) rfl dX0_arrivedInAll_6 ?_
      refine lv_icmp_ge (tgt := 29) hx hb dX0_arrivedInAll_9 (by decide) (fun c1 => ?_) (fun c1 => ?_)
      · have hf := if_t hf c1
        refine lv_iload_n hx hb dX0_arrivedInAll_29 rfl (lv_at hl 1 rfl) ?_
        exact zr_i hx hb hr hlk hS (Option.some.inj hf) dX0_arrivedInAll_30
      · have hf := if_f hf c1
        refine lv_iload_n hx hb dX0_arrivedInAll_12 rfl (lv_at hl 1 rfl) ?_
        refine lv_aload_n hx hb dX0_arrivedInAll_13 rfl (lv_at hl 0 rfl) ?_
        refine va_get (D := D) (ci := 0) (v := .ref (a 4)) (C := RX0) (T := TX0) (N := 17) hx hb hts hin hown hK hP 0 rfl rfl 9 (by decide) (hts (.fieldLink RX0 25 "PodGuideway$Ring" "stationArrived" "[I") (List.mem_of_getElem? (i := 2) rfl)) (fun _ h9 => h9) rfl dX0_arrivedInAll_14 ?_
        refine lv_iload_n hx hb dX0_arrivedInAll_17 rfl (lv_at hl 2 rfl) ?_
        obtain ⟨v3, hv2, hf⟩ := ob_some hf
        refine zc_i (z_SD (As := [.ref (a 4), .int x2]) (rest := [.int x1]) ⟨hx, hb, hml, hown, hts⟩ (m_X0_read l D Z (a 4) 6 (S.2 3) x2 v3 hv2) gX0_arrivedInAll_X0_read rfl rfl rfl hds_X0_read ⟨Nat.le_of_ble_eq_true rfl, Nat.le_of_ble_eq_true rfl⟩ hK (hP.sub (ws' := [((a 4), .inl (Z 0, 6, .inl (S.2 3)))]) [4] rfl) (hD.sub (ws' := [((a 4), .inl (Z 0, 6, .inl (S.2 3)))]) [4] (by decide) rfl) rfl hl.1 rfl (Nat.le_of_ble_eq_true rfl) dX0_arrivedInAll_18 ⟨Nat.le_of_ble_eq_true rfl, Nat.le_of_ble_eq_true rfl⟩) hP hS hA (fun H locs hP hS => ?_)
        refine lv_iadd hx hb dX0_arrivedInAll_21 ?_
        refine lv_istore_n (lv' := [(1, .int (x1 + v3)), (0, .ref (a 0)), (2, .int x2)]) hx hb dX0_arrivedInAll_22 rfl hl (by decide) rfl (fun ls hl => ?_)
        refine lv_iinc (v := (x2 + 1)) (lv' := [(2, .int (x2 + 1)), (1, .int (x1 + v3)), (0, .ref (a 0))]) hx hb dX0_arrivedInAll_23 hl (k := 2) rfl rfl (by decide) rfl (fun ls hl => ?_)
        refine lv_goto (tgt := 4) hx hb dX0_arrivedInAll_26 (by decide) ?_
        exact ih (x1 + v3) (x2 + 1) _ _ hP hS ls (lv_sub hl [2, 1, 0] rfl) hf
  unfold f_X0_arrivedInAll at hf
  refine lv_iconst (v := 0) hx hb dX0_arrivedInAll_0 (by decide) ?_
  refine lv_istore_n (lv' := [(1, .int 0), (0, .ref (a 0))]) hx hb dX0_arrivedInAll_1 rfl hl (by decide) rfl (fun ls hl => ?_)
  refine lv_iconst (v := 0) hx hb dX0_arrivedInAll_2 (by decide) ?_
  refine lv_istore_n (lv' := [(2, .int 0), (1, .int 0), (0, .ref (a 0))]) hx hb dX0_arrivedInAll_3 rfl hl (by decide) rfl (fun ls hl => ?_)
  exact L4 FU 0 0 _ _ hP hS ls (lv_sub hl [2, 1, 0] rfl) hf
def f_X0_ridersInPods_L4  (S : RS) : Nat → Int32 → Int32 → Option (Int32)
  | 0, _, _ => none
  | n + 1, x1, x2 =>
    if (S.1 2) ≤ x2 then
      some x1
    else
      ob (f_X0_read 12 (S.2 9) x2) fun v3 =>
      if v3 = (-1) then
        f_X0_ridersInPods_L4 S n x1 (x2 + 1)
      else
        f_X0_ridersInPods_L4 S n (x1 + 1) (x2 + 1)
def f_X0_ridersInPods  (S : RS)  : Option (Int32) :=
  f_X0_ridersInPods_L4 S FU 0 0
abbrev rm_X0_ridersInPods : Room := { frames := 1, cells := 0, slots := 0, locals := 21 }
theorem hdv_X0_ridersInPods : yX0_ridersInPods.cls = RX0 ∧ yX0_ridersInPods.cls ≠ "java/lang/invoke/MethodHandle" ∧ yX0_ridersInPods.cls ≠ "java/lang/invoke/VarHandle" ∧ (parseMethodDescriptor yX0_ridersInPods.desc).map (fun d => d.parameters.length) = some 0 := by decide +kernel
set_option maxHeartbeats 4000000 in
set_option maxRecDepth 100000 in
theorem m_X0_ridersInPods (l : Launch) (D : va_G) (Z : Nat → ClassId) (a : Nat → Nat) (S : RS)  (r : Int32) (hf : f_X0_ridersInPods S = some r) : ROi l yX0_ridersInPods wsX0_ridersInPods rm_X0_ridersInPods D Z [.ref (a 0)] (rwl Z a S) r := by
  refine ROi.of (cc := cX0_ridersInPods) (nL := 3) (ret := (some .int)) (by decide +kernel) rfl (Nat.le_of_ble_eq_true rfl) ?_
  intro p e s m below meth c hC hA hP hK hD hS ls hl
  obtain ⟨hx, hb, hr, hml, hown, hts, hlk, -⟩ := hC
  have hown : s.vm.findClass RX0 = some m.cls := hown
  have hin : ∀ w ∈ wsX00, w ∈ wsX0_ridersInPods := fun w h => List.mem_cons_of_mem _ (List.mem_append_right _ h)
  have hl : lv_has ls 3 [(0, .ref (a 0))] := hl
  have L4 : ∀ (n : Nat) (x1 : Int32) (x2 : Int32) (H : Heap) (locs : List Loc), va_P D vwCl (rwl Z a S) H → va_S (fun q : Nat => s.heap.size ≤ q) s.heap H locs → ∀ ls : Array Slot, lv_has ls 3 [(0, .ref (a 0)), (1, .int x1), (2, .int x2)] → f_X0_ridersInPods_L4 S n x1 x2 = some r → W p l e rm_X0_ridersInPods s m ([.ref (a 0)] : List Value).toArray below meth c H locs 0 0 (MQ below (zQi r s.heap.size) ([.ref (a 0)] : List Value).toArray s 0 0 (fun q => s.heap.size ≤ q)) (F0 m 4 ls []) := by
    intro n
    induction n with
    | zero =>
      intro x1 x2 H locs hP hS ls hl hf
      exact no_r hf
    | succ n ih =>
      intro x1 x2 H locs hP hS ls hl hf
      rw [f_X0_ridersInPods_L4] at hf
      refine lv_iload_n hx hb dX0_ridersInPods_4 rfl (lv_at hl 2 rfl) ?_
      refine lv_aload_n hx hb dX0_ridersInPods_5 rfl (lv_at hl 0 rfl) ?_
      refine va_get (D := D) (ci := 0) (v := .int (S.1 2)) (C := RX0) (T := TX0) (N := 17) hx hb hts hin hown hK hP 0 rfl rfl 2 (by decide) (hts (.fieldLink RX0 56 "PodGuideway$Ring" "pods" "I") (List.mem_of_getElem? (i := 1) rfl)) (fun _ h9 => h9) rfl dX0_ridersInPods_6 ?_
      refine lv_icmp_ge (tgt := 33) hx hb dX0_ridersInPods_9 (by decide) (fun c1 => ?_) (fun c1 => ?_)
      · have hf := if_t hf c1
        refine lv_iload_n hx hb dX0_ridersInPods_33 rfl (lv_at hl 1 rfl) ?_
        exact zr_i hx hb hr hlk hS (Option.some.inj hf) dX0_ridersInPods_34
      · have hf := if_f hf c1
        refine lv_aload_n hx hb dX0_ridersInPods_12 rfl (lv_at hl 0 rfl) ?_
        refine va_get (D := D) (ci := 0) (v := .ref (a 10)) (C := RX0) (T := TX0) (N := 17) hx hb hts hin hown hK hP 0 rfl rfl 15 (by decide) (hts (.fieldLink RX0 43 "PodGuideway$Ring" "podRider" "[I") (List.mem_of_getElem? (i := 2) rfl)) (fun _ h9 => h9) rfl dX0_ridersInPods_13 ?_
        refine lv_iload_n hx hb dX0_ridersInPods_16 rfl (lv_at hl 2 rfl) ?_
        obtain ⟨v3, hv2, hf⟩ := ob_some hf
        refine zc_i (z_SD (As := [.ref (a 10), .int x2]) (rest := []) ⟨hx, hb, hml, hown, hts⟩ (m_X0_read l D Z (a 10) 12 (S.2 9) x2 v3 hv2) gX0_ridersInPods_X0_read rfl rfl rfl hds_X0_read ⟨Nat.le_of_ble_eq_true rfl, Nat.le_of_ble_eq_true rfl⟩ hK (hP.sub (ws' := [((a 10), .inl (Z 0, 12, .inl (S.2 9)))]) [10] rfl) (hD.sub (ws' := [((a 10), .inl (Z 0, 12, .inl (S.2 9)))]) [10] (by decide) rfl) rfl hl.1 rfl (Nat.le_of_ble_eq_true rfl) dX0_ridersInPods_17 ⟨Nat.le_of_ble_eq_true rfl, Nat.le_of_ble_eq_true rfl⟩) hP hS hA (fun H locs hP hS => ?_)
        refine lv_iconst (v := (-1)) hx hb dX0_ridersInPods_20 (by decide) ?_
        refine lv_icmp_eq (tgt := 27) hx hb dX0_ridersInPods_21 (by decide) (fun c4 => ?_) (fun c4 => ?_)
        · have hf := if_t hf c4
          refine lv_iinc (v := (x2 + 1)) (lv' := [(2, .int (x2 + 1)), (0, .ref (a 0)), (1, .int x1)]) hx hb dX0_ridersInPods_27 hl (k := 2) rfl rfl (by decide) rfl (fun ls hl => ?_)
          refine lv_goto (tgt := 4) hx hb dX0_ridersInPods_30 (by decide) ?_
          exact ih x1 (x2 + 1) _ _ hP hS ls (lv_sub hl [1, 2, 0] rfl) hf
        · have hf := if_f hf c4
          refine lv_iinc (v := (x1 + 1)) (lv' := [(1, .int (x1 + 1)), (0, .ref (a 0)), (2, .int x2)]) hx hb dX0_ridersInPods_24 hl (k := 1) rfl rfl (by decide) rfl (fun ls hl => ?_)
          refine lv_iinc (v := (x2 + 1)) (lv' := [(2, .int (x2 + 1)), (1, .int (x1 + 1)), (0, .ref (a 0))]) hx hb dX0_ridersInPods_27 hl (k := 2) rfl rfl (by decide) rfl (fun ls hl => ?_)
          refine lv_goto (tgt := 4) hx hb dX0_ridersInPods_30 (by decide) ?_
          exact ih (x1 + 1) (x2 + 1) _ _ hP hS ls (lv_sub hl [2, 1, 0] rfl) hf
  unfold f_X0_ridersInPods at hf
  refine lv_iconst (v := 0) hx hb dX0_ridersInPods_0 (by decide) ?_
  refine lv_istore_n (lv' := [(1, .int 0), (0, .ref (a 0))]) hx hb dX0_ridersInPods_1 rfl hl (by decide) rfl (fun ls hl => ?_)
  refine lv_iconst (v := 0) hx hb dX0_ridersInPods_2 (by decide) ?_
  refine lv_istore_n (lv' := [(2, .int 0), (1, .int 0), (0, .ref (a 0))]) hx hb dX0_ridersInPods_3 rfl hl (by decide) rfl (fun ls hl => ?_)
  exact L4 FU 0 0 _ _ hP hS ls (lv_sub hl [2, 1, 0] rfl) hf
def f_X0_freeSlots_L4  (S : RS) : Nat → Int32 → Int32 → Option (Int32)
  | 0, _, _ => none
  | n + 1, x1, x2 =>
    if 24 ≤ x2 then
      some x1
    else
      ob (f_X0_podAtPlace S x2) fun v3 =>
      if v3 = (-1) then
        f_X0_freeSlots_L4 S n (x1 + 1) (x2 + 1)
      else
        f_X0_freeSlots_L4 S n x1 (x2 + 1)
def f_X0_freeSlots  (S : RS)  : Option (Int32) :=
  f_X0_freeSlots_L4 S FU 0 0
abbrev rm_X0_freeSlots : Room := { frames := 2, cells := 0, slots := 0, locals := 42 }
theorem hdv_X0_freeSlots : yX0_freeSlots.cls = RX0 ∧ yX0_freeSlots.cls ≠ "java/lang/invoke/MethodHandle" ∧ yX0_freeSlots.cls ≠ "java/lang/invoke/VarHandle" ∧ (parseMethodDescriptor yX0_freeSlots.desc).map (fun d => d.parameters.length) = some 0 := by decide +kernel
set_option maxHeartbeats 4000000 in
set_option maxRecDepth 100000 in
theorem m_X0_freeSlots (l : Launch) (D : va_G) (Z : Nat → ClassId) (a : Nat → Nat) (S : RS)  (r : Int32) (hf : f_X0_freeSlots S = some r) : ROi l yX0_freeSlots wsX0_freeSlots rm_X0_freeSlots D Z [.ref (a 0)] (rwl Z a S) r := by
  refine ROi.of (cc := cX0_freeSlots) (nL := 3) (ret := (some .int)) (by decide +kernel) rfl (Nat.le_of_ble_eq_true rfl) ?_
  intro p e s m below meth c hC hA hP hK hD hS ls hl
  obtain ⟨hx, hb, hr, hml, hown, hts, hlk, -⟩ := hC
  have hown : s.vm.findClass RX0 = some m.cls := hown
  have hl : lv_has ls 3 [(0, .ref (a 0))] := hl
  have L4 : ∀ (n : Nat) (x1 : Int32) (x2 : Int32) (H : Heap) (locs : List Loc), va_P D vwCl (rwl Z a S) H → va_S (fun q : Nat => s.heap.size ≤ q) s.heap H locs → ∀ ls : Array Slot, lv_has ls 3 [(0, .ref (a 0)), (1, .int x1), (2, .int x2)] → f_X0_freeSlots_L4 S n x1 x2 = some r → W p l e rm_X0_freeSlots s m ([.ref (a 0)] : List Value).toArray below meth c H locs 0 0 (MQ below (zQi r s.heap.size) ([.ref (a 0)] : List Value).toArray s 0 0 (fun q => s.heap.size ≤ q)) (F0 m 4 ls []) := by
    intro n
    induction n with
    | zero =>
      intro x1 x2 H locs hP hS ls hl hf
      exact no_r hf
    | succ n ih =>
      intro x1 x2 H locs hP hS ls hl hf
      rw [f_X0_freeSlots_L4] at hf
      refine lv_iload_n hx hb dX0_freeSlots_4 rfl (lv_at hl 2 rfl) ?_
      refine lv_bipush (v := 24) hx hb dX0_freeSlots_5 (by decide) ?_
      refine lv_icmp_ge (tgt := 28) hx hb dX0_freeSlots_7 (by decide) (fun c1 => ?_) (fun c1 => ?_)
      · have hf := if_t hf c1
        refine lv_iload_n hx hb dX0_freeSlots_28 rfl (lv_at hl 1 rfl) ?_
        exact zr_i hx hb hr hlk hS (Option.some.inj hf) dX0_freeSlots_29
      · have hf := if_f hf c1
        refine lv_aload_n hx hb dX0_freeSlots_10 rfl (lv_at hl 0 rfl) ?_
        refine lv_iload_n hx hb dX0_freeSlots_11 rfl (lv_at hl 2 rfl) ?_
        obtain ⟨v3, hv2, hf⟩ := ob_some hf
        refine zc_i (z_VD (As := [.int x2]) (rest := []) (q0 := 0) (ci := 0) ⟨hx, hb, hml, hown, hts⟩ (m_X0_podAtPlace l D Z a S x2 v3 hv2) gX0_freeSlots_X0_podAtPlace rfl rfl rfl hdv_X0_podAtPlace ⟨Nat.le_of_ble_eq_true rfl, Nat.le_of_ble_eq_true rfl⟩ hK hP hD rfl rfl rfl rfl hl.1 rfl (Nat.le_of_ble_eq_true rfl) dX0_freeSlots_12 ⟨Nat.le_of_ble_eq_true rfl, Nat.le_of_ble_eq_true rfl⟩) hP hS hA (fun H locs hP hS => ?_)
        refine lv_iconst (v := (-1)) hx hb dX0_freeSlots_15 (by decide) ?_
        refine lv_icmp_ne (tgt := 22) hx hb dX0_freeSlots_16 (by decide) (fun c4 => ?_) (fun c4 => ?_)
        · have hf := if_f hf c4
          refine lv_iinc (v := (x2 + 1)) (lv' := [(2, .int (x2 + 1)), (0, .ref (a 0)), (1, .int x1)]) hx hb dX0_freeSlots_22 hl (k := 2) rfl rfl (by decide) rfl (fun ls hl => ?_)
          refine lv_goto (tgt := 4) hx hb dX0_freeSlots_25 (by decide) ?_
          exact ih x1 (x2 + 1) _ _ hP hS ls (lv_sub hl [1, 2, 0] rfl) hf
        · have hf := if_t hf c4
          refine lv_iinc (v := (x1 + 1)) (lv' := [(1, .int (x1 + 1)), (0, .ref (a 0)), (2, .int x2)]) hx hb dX0_freeSlots_19 hl (k := 1) rfl rfl (by decide) rfl (fun ls hl => ?_)
          refine lv_iinc (v := (x2 + 1)) (lv' := [(2, .int (x2 + 1)), (1, .int (x1 + 1)), (0, .ref (a 0))]) hx hb dX0_freeSlots_22 hl (k := 2) rfl rfl (by decide) rfl (fun ls hl => ?_)
          refine lv_goto (tgt := 4) hx hb dX0_freeSlots_25 (by decide) ?_
          exact ih (x1 + 1) (x2 + 1) _ _ hP hS ls (lv_sub hl [2, 1, 0] rfl) hf
  unfold f_X0_freeSlots at hf
  refine lv_iconst (v := 0) hx hb dX0_freeSlots_0 (by decide) ?_
  refine lv_istore_n (lv' := [(1, .int 0), (0, .ref (a 0))]) hx hb dX0_freeSlots_1 rfl hl (by decide) rfl (fun ls hl => ?_)
  refine lv_iconst (v := 0) hx hb dX0_freeSlots_2 (by decide) ?_
  refine lv_istore_n (lv' := [(2, .int 0), (1, .int 0), (0, .ref (a 0))]) hx hb dX0_freeSlots_3 rfl hl (by decide) rfl (fun ls hl => ?_)
  exact L4 FU 0 0 _ _ hP hS ls (lv_sub hl [2, 1, 0] rfl) hf
def f_X0_tellPod  (S : RS) (p1 : Int32) (p2 : Int32) : Option (Int32) :=
  ob (f_X0_berthOf S p1) fun v2 =>
  if p2 = 0 then
    ob (f_X0_find 24 (S.2 0) p1) fun v5 =>
    some v5
  else if p2 = 1 then
    if v2 = (-1) then
      some (-1)
    else
      some (v2 / 3)
  else if p2 = 2 then
    if v2 = (-1) then
      some (-1)
    else
      some (v2 - v2 / 3 * 3)
  else if p2 = 3 then
    ob (f_X0_goalOf S p1) fun v12 =>
    some v12
  else if p2 = 4 then
    ob (f_X0_read 12 (S.2 9) p1) fun v15 =>
    if v15 = (-1) then
      some 0
    else
      some 1
  else 
    ob (f_X0_read 12 (S.2 10) p1) fun v18 =>
    some v18
abbrev rm_X0_tellPod : Room := { frames := 2, cells := 0, slots := 0, locals := 43 }
theorem hdv_X0_tellPod : yX0_tellPod.cls = RX0 ∧ yX0_tellPod.cls ≠ "java/lang/invoke/MethodHandle" ∧ yX0_tellPod.cls ≠ "java/lang/invoke/VarHandle" ∧ (parseMethodDescriptor yX0_tellPod.desc).map (fun d => d.parameters.length) = some 2 := by decide +kernel
set_option maxHeartbeats 4000000 in
set_option maxRecDepth 100000 in
theorem m_X0_tellPod (l : Launch) (D : va_G) (Z : Nat → ClassId) (a : Nat → Nat) (S : RS) (p1 : Int32) (p2 : Int32) (r : Int32) (hf : f_X0_tellPod S p1 p2 = some r) : ROi l yX0_tellPod wsX0_tellPod rm_X0_tellPod D Z [.ref (a 0), .int p1, .int p2] (rwl Z a S) r := by
  refine ROi.of (cc := cX0_tellPod) (nL := 4) (ret := (some .int)) (by decide +kernel) rfl (Nat.le_of_ble_eq_true rfl) ?_
  intro p e s m below meth c hC hA hP hK hD hS ls hl
  obtain ⟨hx, hb, hr, hml, hown, hts, hlk, -⟩ := hC
  have hown : s.vm.findClass RX0 = some m.cls := hown
  have hin : ∀ w ∈ wsX00, w ∈ wsX0_tellPod := fun w h => List.mem_cons_of_mem _ (List.mem_append_right _ h)
  have hl : lv_has ls 4 [(0, .ref (a 0)), (1, .int p1), (2, .int p2)] := hl
  unfold f_X0_tellPod at hf
  refine lv_aload_n hx hb dX0_tellPod_0 rfl (lv_at hl 0 rfl) ?_
  refine lv_iload_n hx hb dX0_tellPod_1 rfl (lv_at hl 1 rfl) ?_
  obtain ⟨v2, hv1, hf⟩ := ob_some hf
  refine zc_i (z_VD (As := [.int p1]) (rest := []) (q0 := 0) (ci := 0) ⟨hx, hb, hml, hown, hts⟩ (m_X0_berthOf l D Z a S p1 v2 hv1) gX0_tellPod_X0_berthOf rfl rfl rfl hdv_X0_berthOf ⟨Nat.le_of_ble_eq_true rfl, Nat.le_of_ble_eq_true rfl⟩ hK hP hD rfl rfl rfl rfl hl.1 rfl (Nat.le_of_ble_eq_true rfl) dX0_tellPod_2 ⟨Nat.le_of_ble_eq_true rfl, Nat.le_of_ble_eq_true rfl⟩) hP hS hA (fun H locs hP hS => ?_)
  refine lv_istore_n (lv' := [(3, .int v2), (0, .ref (a 0)), (1, .int p1), (2, .int p2)]) hx hb dX0_tellPod_5 rfl hl (by decide) rfl (fun ls hl => ?_)
  refine lv_iload_n hx hb dX0_tellPod_6 rfl (lv_at hl 3 rfl) ?_
  by_cases c3 : p2 = 0
  · have hf := if_t hf c3
    refine lv_tableIn (tgt := 40) (off := 33) hx hb dX0_tellPod_7 (by rw [c3]; decide) (by rw [c3]; decide) (by rw [c3]; rfl) (by decide) ?_
    refine lv_aload_n hx hb dX0_tellPod_40 rfl (lv_at hl 1 rfl) ?_
    refine va_get (D := D) (ci := 0) (v := .ref (a 1)) (C := RX0) (T := TX0) (N := 17) hx hb hts hin hown hK hP 0 rfl rfl 6 (by decide) (hts (.fieldLink RX0 15 "PodGuideway$Ring" "podInSlot" "[I") (List.mem_of_getElem? (i := 1) rfl)) (fun _ h9 => h9) rfl dX0_tellPod_41 ?_
    refine lv_iload_n hx hb dX0_tellPod_44 rfl (lv_at hl 2 rfl) ?_
    obtain ⟨v5, hv4, hf⟩ := ob_some hf
    refine zc_i (z_SD (As := [.ref (a 1), .int p1]) (rest := []) ⟨hx, hb, hml, hown, hts⟩ (m_X0_find l D Z (a 1) 24 (S.2 0) p1 v5 hv4) gX0_tellPod_X0_find rfl rfl rfl hds_X0_find ⟨Nat.le_of_ble_eq_true rfl, Nat.le_of_ble_eq_true rfl⟩ hK (hP.sub (ws' := [((a 1), .inl (Z 0, 24, .inl (S.2 0)))]) [1] rfl) (hD.sub (ws' := [((a 1), .inl (Z 0, 24, .inl (S.2 0)))]) [1] (by decide) rfl) rfl hl.1 rfl (Nat.le_of_ble_eq_true rfl) dX0_tellPod_45 ⟨Nat.le_of_ble_eq_true rfl, Nat.le_of_ble_eq_true rfl⟩) hP hS hA (fun H locs hP hS => ?_)
    exact zr_i hx hb hr hlk hS (Option.some.inj hf) dX0_tellPod_48
  have hf := if_f hf c3
  by_cases c6 : p2 = 1
  · have hf := if_t hf c6
    refine lv_tableIn (tgt := 49) (off := 42) hx hb dX0_tellPod_7 (by rw [c6]; decide) (by rw [c6]; decide) (by rw [c6]; rfl) (by decide) ?_
    refine lv_iload_n hx hb dX0_tellPod_49 rfl (lv_at hl 0 rfl) ?_
    refine lv_iconst (v := (-1)) hx hb dX0_tellPod_50 (by decide) ?_
    refine lv_icmp_ne (tgt := 58) hx hb dX0_tellPod_51 (by decide) (fun c7 => ?_) (fun c7 => ?_)
    · have hf := if_f hf c7
      refine lv_iload_n hx hb dX0_tellPod_58 rfl (lv_at hl 0 rfl) ?_
      refine lv_iconst (v := 3) hx hb dX0_tellPod_59 (by decide) ?_
      refine lv_idiv hx hb dX0_tellPod_60 (by decide) ?_
      exact zr_i hx hb hr hlk hS (Option.some.inj hf) dX0_tellPod_61
    · have hf := if_t hf c7
      refine lv_iconst (v := (-1)) hx hb dX0_tellPod_54 (by decide) ?_
      refine lv_goto (tgt := 61) hx hb dX0_tellPod_55 (by decide) ?_
      exact zr_i hx hb hr hlk hS (Option.some.inj hf) dX0_tellPod_61
  have hf := if_f hf c6
  by_cases c8 : p2 = 2
  · have hf := if_t hf c8
    refine lv_tableIn (tgt := 62) (off := 55) hx hb dX0_tellPod_7 (by rw [c8]; decide) (by rw [c8]; decide) (by rw [c8]; rfl) (by decide) ?_
    refine lv_iload_n hx hb dX0_tellPod_62 rfl (lv_at hl 0 rfl) ?_
    refine lv_iconst (v := (-1)) hx hb dX0_tellPod_63 (by decide) ?_
    refine lv_icmp_ne (tgt := 71) hx hb dX0_tellPod_64 (by decide) (fun c9 => ?_) (fun c9 => ?_)
    · have hf := if_f hf c9
      refine lv_iload_n hx hb dX0_tellPod_71 rfl (lv_at hl 0 rfl) ?_
      refine lv_iconst (v := 3) hx hb dX0_tellPod_72 (by decide) ?_
      refine lv_irem hx hb dX0_tellPod_73 (by decide) ?_
      exact zr_i hx hb hr hlk hS (Option.some.inj hf) dX0_tellPod_74
    · have hf := if_t hf c9
      refine lv_iconst (v := (-1)) hx hb dX0_tellPod_67 (by decide) ?_
      refine lv_goto (tgt := 74) hx hb dX0_tellPod_68 (by decide) ?_
      exact zr_i hx hb hr hlk hS (Option.some.inj hf) dX0_tellPod_74
  have hf := if_f hf c8
  by_cases c10 : p2 = 3
  · have hf := if_t hf c10
    refine lv_tableIn (tgt := 75) (off := 68) hx hb dX0_tellPod_7 (by rw [c10]; decide) (by rw [c10]; decide) (by rw [c10]; rfl) (by decide) ?_
    refine lv_aload_n hx hb dX0_tellPod_75 rfl (lv_at hl 1 rfl) ?_
    refine lv_iload_n hx hb dX0_tellPod_76 rfl (lv_at hl 2 rfl) ?_
    obtain ⟨v12, hv11, hf⟩ := ob_some hf
    refine zc_i (z_VD (As := [.int p1]) (rest := []) (q0 := 0) (ci := 0) ⟨hx, hb, hml, hown, hts⟩ (m_X0_goalOf l D Z a S p1 v12 hv11) gX0_tellPod_X0_goalOf rfl rfl rfl hdv_X0_goalOf ⟨Nat.le_of_ble_eq_true rfl, Nat.le_of_ble_eq_true rfl⟩ hK hP hD rfl rfl rfl rfl hl.1 rfl (Nat.le_of_ble_eq_true rfl) dX0_tellPod_77 ⟨Nat.le_of_ble_eq_true rfl, Nat.le_of_ble_eq_true rfl⟩) hP hS hA (fun H locs hP hS => ?_)
    exact zr_i hx hb hr hlk hS (Option.some.inj hf) dX0_tellPod_80
  have hf := if_f hf c10
  by_cases c13 : p2 = 4
  · have hf := if_t hf c13
    refine lv_tableIn (tgt := 81) (off := 74) hx hb dX0_tellPod_7 (by rw [c13]; decide) (by rw [c13]; decide) (by rw [c13]; rfl) (by decide) ?_
    refine lv_aload_n hx hb dX0_tellPod_81 rfl (lv_at hl 1 rfl) ?_
    refine va_get (D := D) (ci := 0) (v := .ref (a 10)) (C := RX0) (T := TX0) (N := 17) hx hb hts hin hown hK hP 0 rfl rfl 15 (by decide) (hts (.fieldLink RX0 43 "PodGuideway$Ring" "podRider" "[I") (List.mem_of_getElem? (i := 2) rfl)) (fun _ h9 => h9) rfl dX0_tellPod_82 ?_
    refine lv_iload_n hx hb dX0_tellPod_85 rfl (lv_at hl 2 rfl) ?_
    obtain ⟨v15, hv14, hf⟩ := ob_some hf
    refine zc_i (z_SD (As := [.ref (a 10), .int p1]) (rest := []) ⟨hx, hb, hml, hown, hts⟩ (m_X0_read l D Z (a 10) 12 (S.2 9) p1 v15 hv14) gX0_tellPod_X0_read rfl rfl rfl hds_X0_read ⟨Nat.le_of_ble_eq_true rfl, Nat.le_of_ble_eq_true rfl⟩ hK (hP.sub (ws' := [((a 10), .inl (Z 0, 12, .inl (S.2 9)))]) [10] rfl) (hD.sub (ws' := [((a 10), .inl (Z 0, 12, .inl (S.2 9)))]) [10] (by decide) rfl) rfl hl.1 rfl (Nat.le_of_ble_eq_true rfl) dX0_tellPod_86 ⟨Nat.le_of_ble_eq_true rfl, Nat.le_of_ble_eq_true rfl⟩) hP hS hA (fun H locs hP hS => ?_)
    refine lv_iconst (v := (-1)) hx hb dX0_tellPod_89 (by decide) ?_
    refine lv_icmp_ne (tgt := 97) hx hb dX0_tellPod_90 (by decide) (fun c16 => ?_) (fun c16 => ?_)
    · have hf := if_f hf c16
      refine lv_iconst (v := 1) hx hb dX0_tellPod_97 (by decide) ?_
      exact zr_i hx hb hr hlk hS (Option.some.inj hf) dX0_tellPod_98
    · have hf := if_t hf c16
      refine lv_iconst (v := 0) hx hb dX0_tellPod_93 (by decide) ?_
      refine lv_goto (tgt := 98) hx hb dX0_tellPod_94 (by decide) ?_
      exact zr_i hx hb hr hlk hS (Option.some.inj hf) dX0_tellPod_98
  have hf := if_f hf c13
  refine lv_tableOut (tgt := 99) hx hb dX0_tellPod_7 (sw_out5 c3 c6 c8 c10 c13) (by decide) ?_
  refine lv_aload_n hx hb dX0_tellPod_99 rfl (lv_at hl 1 rfl) ?_
  refine va_get (D := D) (ci := 0) (v := .ref (a 11)) (C := RX0) (T := TX0) (N := 17) hx hb hts hin hown hK hP 0 rfl rfl 16 (by decide) (hts (.fieldLink RX0 46 "PodGuideway$Ring" "podBarred" "[I") (List.mem_of_getElem? (i := 3) rfl)) (fun _ h9 => h9) rfl dX0_tellPod_100 ?_
  refine lv_iload_n hx hb dX0_tellPod_103 rfl (lv_at hl 2 rfl) ?_
  obtain ⟨v18, hv17, hf⟩ := ob_some hf
  refine zc_i (z_SD (As := [.ref (a 11), .int p1]) (rest := []) ⟨hx, hb, hml, hown, hts⟩ (m_X0_read l D Z (a 11) 12 (S.2 10) p1 v18 hv17) gX0_tellPod_X0_read rfl rfl rfl hds_X0_read ⟨Nat.le_of_ble_eq_true rfl, Nat.le_of_ble_eq_true rfl⟩ hK (hP.sub (ws' := [((a 11), .inl (Z 0, 12, .inl (S.2 10)))]) [11] rfl) (hD.sub (ws' := [((a 11), .inl (Z 0, 12, .inl (S.2 10)))]) [11] (by decide) rfl) rfl hl.1 rfl (Nat.le_of_ble_eq_true rfl) dX0_tellPod_104 ⟨Nat.le_of_ble_eq_true rfl, Nat.le_of_ble_eq_true rfl⟩) hP hS hA (fun H locs hP hS => ?_)
  exact zr_i hx hb hr hlk hS (Option.some.inj hf) dX0_tellPod_107
def f_X0_tellStation  (S : RS) (p1 : Int32) (p2 : Int32) : Option (Int32) :=
  if p2 = 0 then
    ob (f_X0_placeOf S p1) fun v3 =>
    some v3
  else if p2 = 1 then
    ob (f_X0_berthsThatHold S p1 0) fun v6 =>
    some (3 - v6)
  else if p2 = 2 then
    ob (f_X0_berthsThatHold S p1 1) fun v9 =>
    some v9
  else if p2 = 3 then
    ob (f_X0_waitingAt S p1) fun v12 =>
    some v12
  else if p2 = 4 then
    ob (f_X0_emptyPodsTo S p1) fun v15 =>
    some v15
  else if p2 = 5 then
    ob (f_X0_waitedAt S p1) fun v18 =>
    some v18
  else 
    ob (f_X0_read 6 (S.2 3) p1) fun v20 =>
    some v20
abbrev rm_X0_tellStation : Room := { frames := 3, cells := 0, slots := 0, locals := 69 }
theorem hdv_X0_tellStation : yX0_tellStation.cls = RX0 ∧ yX0_tellStation.cls ≠ "java/lang/invoke/MethodHandle" ∧ yX0_tellStation.cls ≠ "java/lang/invoke/VarHandle" ∧ (parseMethodDescriptor yX0_tellStation.desc).map (fun d => d.parameters.length) = some 2 := by decide +kernel
set_option maxHeartbeats 4000000 in
set_option maxRecDepth 100000 in
theorem m_X0_tellStation (l : Launch) (D : va_G) (Z : Nat → ClassId) (a : Nat → Nat) (S : RS) (p1 : Int32) (p2 : Int32) (r : Int32) (hf : f_X0_tellStation S p1 p2 = some r) : ROi l yX0_tellStation wsX0_tellStation rm_X0_tellStation D Z [.ref (a 0), .int p1, .int p2] (rwl Z a S) r := by
  refine ROi.of (cc := cX0_tellStation) (nL := 3) (ret := (some .int)) (by decide +kernel) rfl (Nat.le_of_ble_eq_true rfl) ?_
  intro p e s m below meth c hC hA hP hK hD hS ls hl
  obtain ⟨hx, hb, hr, hml, hown, hts, hlk, -⟩ := hC
  have hown : s.vm.findClass RX0 = some m.cls := hown
  have hin : ∀ w ∈ wsX00, w ∈ wsX0_tellStation := fun w h => List.mem_cons_of_mem _ (List.mem_append_right _ h)
  have hl : lv_has ls 3 [(0, .ref (a 0)), (1, .int p1), (2, .int p2)] := hl
  unfold f_X0_tellStation at hf
  refine lv_iload_n hx hb dX0_tellStation_0 rfl (lv_at hl 2 rfl) ?_
  by_cases c1 : p2 = 0
  · have hf := if_t hf c1
    refine lv_tableIn (tgt := 40) (off := 39) hx hb dX0_tellStation_1 (by rw [c1]; decide) (by rw [c1]; decide) (by rw [c1]; rfl) (by decide) ?_
    refine lv_aload_n hx hb dX0_tellStation_40 rfl (lv_at hl 0 rfl) ?_
    refine lv_iload_n hx hb dX0_tellStation_41 rfl (lv_at hl 1 rfl) ?_
    obtain ⟨v3, hv2, hf⟩ := ob_some hf
    refine zc_i (z_VD (As := [.int p1]) (rest := []) (q0 := 0) (ci := 0) ⟨hx, hb, hml, hown, hts⟩ (m_X0_placeOf l D Z a S p1 v3 hv2) gX0_tellStation_X0_placeOf rfl rfl rfl hdv_X0_placeOf ⟨Nat.le_of_ble_eq_true rfl, Nat.le_of_ble_eq_true rfl⟩ hK hP hD rfl rfl rfl rfl hl.1 rfl (Nat.le_of_ble_eq_true rfl) dX0_tellStation_42 ⟨Nat.le_of_ble_eq_true rfl, Nat.le_of_ble_eq_true rfl⟩) hP hS hA (fun H locs hP hS => ?_)
    exact zr_i hx hb hr hlk hS (Option.some.inj hf) dX0_tellStation_45
  have hf := if_f hf c1
  by_cases c4 : p2 = 1
  · have hf := if_t hf c4
    refine lv_tableIn (tgt := 46) (off := 45) hx hb dX0_tellStation_1 (by rw [c4]; decide) (by rw [c4]; decide) (by rw [c4]; rfl) (by decide) ?_
    refine lv_iconst (v := 3) hx hb dX0_tellStation_46 (by decide) ?_
    refine lv_aload_n hx hb dX0_tellStation_47 rfl (lv_at hl 0 rfl) ?_
    refine lv_iload_n hx hb dX0_tellStation_48 rfl (lv_at hl 1 rfl) ?_
    refine lv_iconst (v := 0) hx hb dX0_tellStation_49 (by decide) ?_
    obtain ⟨v6, hv5, hf⟩ := ob_some hf
    refine zc_i (z_VD (As := [.int p1, .int 0]) (rest := [.int 3]) (q0 := 0) (ci := 0) ⟨hx, hb, hml, hown, hts⟩ (m_X0_berthsThatHold l D Z a S p1 0 v6 hv5) gX0_tellStation_X0_berthsThatHold rfl rfl rfl hdv_X0_berthsThatHold ⟨Nat.le_of_ble_eq_true rfl, Nat.le_of_ble_eq_true rfl⟩ hK hP hD rfl rfl rfl rfl hl.1 rfl (Nat.le_of_ble_eq_true rfl) dX0_tellStation_50 ⟨Nat.le_of_ble_eq_true rfl, Nat.le_of_ble_eq_true rfl⟩) hP hS hA (fun H locs hP hS => ?_)
    refine lv_isub hx hb dX0_tellStation_53 ?_
    exact zr_i hx hb hr hlk hS (Option.some.inj hf) dX0_tellStation_54
  have hf := if_f hf c4
  by_cases c7 : p2 = 2
  · have hf := if_t hf c7
    refine lv_tableIn (tgt := 55) (off := 54) hx hb dX0_tellStation_1 (by rw [c7]; decide) (by rw [c7]; decide) (by rw [c7]; rfl) (by decide) ?_
    refine lv_aload_n hx hb dX0_tellStation_55 rfl (lv_at hl 0 rfl) ?_
    refine lv_iload_n hx hb dX0_tellStation_56 rfl (lv_at hl 1 rfl) ?_
    refine lv_iconst (v := 1) hx hb dX0_tellStation_57 (by decide) ?_
    obtain ⟨v9, hv8, hf⟩ := ob_some hf
    refine zc_i (z_VD (As := [.int p1, .int 1]) (rest := []) (q0 := 0) (ci := 0) ⟨hx, hb, hml, hown, hts⟩ (m_X0_berthsThatHold l D Z a S p1 1 v9 hv8) gX0_tellStation_X0_berthsThatHold rfl rfl rfl hdv_X0_berthsThatHold ⟨Nat.le_of_ble_eq_true rfl, Nat.le_of_ble_eq_true rfl⟩ hK hP hD rfl rfl rfl rfl hl.1 rfl (Nat.le_of_ble_eq_true rfl) dX0_tellStation_58 ⟨Nat.le_of_ble_eq_true rfl, Nat.le_of_ble_eq_true rfl⟩) hP hS hA (fun H locs hP hS => ?_)
    exact zr_i hx hb hr hlk hS (Option.some.inj hf) dX0_tellStation_61
  have hf := if_f hf c7
  by_cases c10 : p2 = 3
  · have hf := if_t hf c10
    refine lv_tableIn (tgt := 62) (off := 61) hx hb dX0_tellStation_1 (by rw [c10]; decide) (by rw [c10]; decide) (by rw [c10]; rfl) (by decide) ?_
    refine lv_aload_n hx hb dX0_tellStation_62 rfl (lv_at hl 0 rfl) ?_
    refine lv_iload_n hx hb dX0_tellStation_63 rfl (lv_at hl 1 rfl) ?_
    obtain ⟨v12, hv11, hf⟩ := ob_some hf
    refine zc_i (z_VD (As := [.int p1]) (rest := []) (q0 := 0) (ci := 0) ⟨hx, hb, hml, hown, hts⟩ (m_X0_waitingAt l D Z a S p1 v12 hv11) gX0_tellStation_X0_waitingAt rfl rfl rfl hdv_X0_waitingAt ⟨Nat.le_of_ble_eq_true rfl, Nat.le_of_ble_eq_true rfl⟩ hK hP hD rfl rfl rfl rfl hl.1 rfl (Nat.le_of_ble_eq_true rfl) dX0_tellStation_64 ⟨Nat.le_of_ble_eq_true rfl, Nat.le_of_ble_eq_true rfl⟩) hP hS hA (fun H locs hP hS => ?_)
    exact zr_i hx hb hr hlk hS (Option.some.inj hf) dX0_tellStation_67
  have hf := if_f hf c10
  by_cases c13 : p2 = 4
  · have hf := if_t hf c13
    refine lv_tableIn (tgt := 68) (off := 67) hx hb dX0_tellStation_1 (by rw [c13]; decide) (by rw [c13]; decide) (by rw [c13]; rfl) (by decide) ?_
    refine lv_aload_n hx hb dX0_tellStation_68 rfl (lv_at hl 0 rfl) ?_
    refine lv_iload_n hx hb dX0_tellStation_69 rfl (lv_at hl 1 rfl) ?_
    obtain ⟨v15, hv14, hf⟩ := ob_some hf
    refine zc_i (z_VD (As := [.int p1]) (rest := []) (q0 := 0) (ci := 0) ⟨hx, hb, hml, hown, hts⟩ (m_X0_emptyPodsTo l D Z a S p1 v15 hv14) gX0_tellStation_X0_emptyPodsTo rfl rfl rfl hdv_X0_emptyPodsTo ⟨Nat.le_of_ble_eq_true rfl, Nat.le_of_ble_eq_true rfl⟩ hK hP hD rfl rfl rfl rfl hl.1 rfl (Nat.le_of_ble_eq_true rfl) dX0_tellStation_70 ⟨Nat.le_of_ble_eq_true rfl, Nat.le_of_ble_eq_true rfl⟩) hP hS hA (fun H locs hP hS => ?_)
    exact zr_i hx hb hr hlk hS (Option.some.inj hf) dX0_tellStation_73
  have hf := if_f hf c13
  by_cases c16 : p2 = 5
  · have hf := if_t hf c16
    refine lv_tableIn (tgt := 74) (off := 73) hx hb dX0_tellStation_1 (by rw [c16]; decide) (by rw [c16]; decide) (by rw [c16]; rfl) (by decide) ?_
    refine lv_aload_n hx hb dX0_tellStation_74 rfl (lv_at hl 0 rfl) ?_
    refine lv_iload_n hx hb dX0_tellStation_75 rfl (lv_at hl 1 rfl) ?_
    obtain ⟨v18, hv17, hf⟩ := ob_some hf
    refine zc_i (z_VD (As := [.int p1]) (rest := []) (q0 := 0) (ci := 0) ⟨hx, hb, hml, hown, hts⟩ (m_X0_waitedAt l D Z a S p1 v18 hv17) gX0_tellStation_X0_waitedAt rfl rfl rfl hdv_X0_waitedAt ⟨Nat.le_of_ble_eq_true rfl, Nat.le_of_ble_eq_true rfl⟩ hK hP hD rfl rfl rfl rfl hl.1 rfl (Nat.le_of_ble_eq_true rfl) dX0_tellStation_76 ⟨Nat.le_of_ble_eq_true rfl, Nat.le_of_ble_eq_true rfl⟩) hP hS hA (fun H locs hP hS => ?_)
    exact zr_i hx hb hr hlk hS (Option.some.inj hf) dX0_tellStation_79
  have hf := if_f hf c16
  refine lv_tableOut (tgt := 80) hx hb dX0_tellStation_1 (sw_out6 c1 c4 c7 c10 c13 c16) (by decide) ?_
  refine lv_aload_n hx hb dX0_tellStation_80 rfl (lv_at hl 0 rfl) ?_
  refine va_get (D := D) (ci := 0) (v := .ref (a 4)) (C := RX0) (T := TX0) (N := 17) hx hb hts hin hown hK hP 0 rfl rfl 9 (by decide) (hts (.fieldLink RX0 25 "PodGuideway$Ring" "stationArrived" "[I") (List.mem_of_getElem? (i := 1) rfl)) (fun _ h9 => h9) rfl dX0_tellStation_81 ?_
  refine lv_iload_n hx hb dX0_tellStation_84 rfl (lv_at hl 1 rfl) ?_
  obtain ⟨v20, hv19, hf⟩ := ob_some hf
  refine zc_i (z_SD (As := [.ref (a 4), .int p1]) (rest := []) ⟨hx, hb, hml, hown, hts⟩ (m_X0_read l D Z (a 4) 6 (S.2 3) p1 v20 hv19) gX0_tellStation_X0_read rfl rfl rfl hds_X0_read ⟨Nat.le_of_ble_eq_true rfl, Nat.le_of_ble_eq_true rfl⟩ hK (hP.sub (ws' := [((a 4), .inl (Z 0, 6, .inl (S.2 3)))]) [4] rfl) (hD.sub (ws' := [((a 4), .inl (Z 0, 6, .inl (S.2 3)))]) [4] (by decide) rfl) rfl hl.1 rfl (Nat.le_of_ble_eq_true rfl) dX0_tellStation_85 ⟨Nat.le_of_ble_eq_true rfl, Nat.le_of_ble_eq_true rfl⟩) hP hS hA (fun H locs hP hS => ?_)
  exact zr_i hx hb hr hlk hS (Option.some.inj hf) dX0_tellStation_88
def f_X0_tellRider  (S : RS) (p1 : Int32) (p2 : Int32) : Option (Int32) :=
  ob (f_X0_waitedBy S p1 p2) fun v2 =>
  ob (f_X0_read 54 (S.2 6) ((p1 * 9) + p2)) fun v4 =>
  some ((10 * v2) + v4)
abbrev rm_X0_tellRider : Room := { frames := 2, cells := 0, slots := 0, locals := 43 }
theorem hdv_X0_tellRider : yX0_tellRider.cls = RX0 ∧ yX0_tellRider.cls ≠ "java/lang/invoke/MethodHandle" ∧ yX0_tellRider.cls ≠ "java/lang/invoke/VarHandle" ∧ (parseMethodDescriptor yX0_tellRider.desc).map (fun d => d.parameters.length) = some 2 := by decide +kernel
set_option maxHeartbeats 4000000 in
set_option maxRecDepth 100000 in
theorem m_X0_tellRider (l : Launch) (D : va_G) (Z : Nat → ClassId) (a : Nat → Nat) (S : RS) (p1 : Int32) (p2 : Int32) (r : Int32) (hf : f_X0_tellRider S p1 p2 = some r) : ROi l yX0_tellRider wsX0_tellRider rm_X0_tellRider D Z [.ref (a 0), .int p1, .int p2] (rwl Z a S) r := by
  refine ROi.of (cc := cX0_tellRider) (nL := 3) (ret := (some .int)) (by decide +kernel) rfl (Nat.le_of_ble_eq_true rfl) ?_
  intro p e s m below meth c hC hA hP hK hD hS ls hl
  obtain ⟨hx, hb, hr, hml, hown, hts, hlk, -⟩ := hC
  have hown : s.vm.findClass RX0 = some m.cls := hown
  have hin : ∀ w ∈ wsX00, w ∈ wsX0_tellRider := fun w h => List.mem_cons_of_mem _ (List.mem_append_right _ h)
  have hl : lv_has ls 3 [(0, .ref (a 0)), (1, .int p1), (2, .int p2)] := hl
  unfold f_X0_tellRider at hf
  refine lv_bipush (v := 10) hx hb dX0_tellRider_0 (by decide) ?_
  refine lv_aload_n hx hb dX0_tellRider_2 rfl (lv_at hl 0 rfl) ?_
  refine lv_iload_n hx hb dX0_tellRider_3 rfl (lv_at hl 1 rfl) ?_
  refine lv_iload_n hx hb dX0_tellRider_4 rfl (lv_at hl 2 rfl) ?_
  obtain ⟨v2, hv1, hf⟩ := ob_some hf
  refine zc_i (z_VD (As := [.int p1, .int p2]) (rest := [.int 10]) (q0 := 0) (ci := 0) ⟨hx, hb, hml, hown, hts⟩ (m_X0_waitedBy l D Z a S p1 p2 v2 hv1) gX0_tellRider_X0_waitedBy rfl rfl rfl hdv_X0_waitedBy ⟨Nat.le_of_ble_eq_true rfl, Nat.le_of_ble_eq_true rfl⟩ hK hP hD rfl rfl rfl rfl hl.1 rfl (Nat.le_of_ble_eq_true rfl) dX0_tellRider_5 ⟨Nat.le_of_ble_eq_true rfl, Nat.le_of_ble_eq_true rfl⟩) hP hS hA (fun H locs hP hS => ?_)
  refine lv_imul hx hb dX0_tellRider_8 ?_
  refine lv_aload_n hx hb dX0_tellRider_9 rfl (lv_at hl 0 rfl) ?_
  refine va_get (D := D) (ci := 0) (v := .ref (a 7)) (C := RX0) (T := TX0) (N := 17) hx hb hts hin hown hK hP 0 rfl rfl 12 (by decide) (hts (.fieldLink RX0 34 "PodGuideway$Ring" "riderGoal" "[I") (List.mem_of_getElem? (i := 1) rfl)) (fun _ h9 => h9) rfl dX0_tellRider_10 ?_
  refine lv_iload_n hx hb dX0_tellRider_13 rfl (lv_at hl 1 rfl) ?_
  refine lv_bipush (v := 9) hx hb dX0_tellRider_14 (by decide) ?_
  refine lv_imul hx hb dX0_tellRider_16 ?_
  refine lv_iload_n hx hb dX0_tellRider_17 rfl (lv_at hl 2 rfl) ?_
  refine lv_iadd hx hb dX0_tellRider_18 ?_
  obtain ⟨v4, hv3, hf⟩ := ob_some hf
  refine zc_i (z_SD (As := [.ref (a 7), .int ((p1 * 9) + p2)]) (rest := [.int (10 * v2)]) ⟨hx, hb, hml, hown, hts⟩ (m_X0_read l D Z (a 7) 54 (S.2 6) ((p1 * 9) + p2) v4 hv3) gX0_tellRider_X0_read rfl rfl rfl hds_X0_read ⟨Nat.le_of_ble_eq_true rfl, Nat.le_of_ble_eq_true rfl⟩ hK (hP.sub (ws' := [((a 7), .inl (Z 0, 54, .inl (S.2 6)))]) [7] rfl) (hD.sub (ws' := [((a 7), .inl (Z 0, 54, .inl (S.2 6)))]) [7] (by decide) rfl) rfl hl.1 rfl (Nat.le_of_ble_eq_true rfl) dX0_tellRider_19 ⟨Nat.le_of_ble_eq_true rfl, Nat.le_of_ble_eq_true rfl⟩) hP hS hA (fun H locs hP hS => ?_)
  refine lv_iadd hx hb dX0_tellRider_22 ?_
  exact zr_i hx hb hr hlk hS (Option.some.inj hf) dX0_tellRider_23
def f_X0_tellCount  (S : RS) (p1 : Int32) : Option (Int32) :=
  if p1 = 0 then
    some (S.1 0)
  else if p1 = 1 then
    some (S.1 1)
  else if p1 = 2 then
    some (S.1 2)
  else if p1 = 3 then
    ob (f_X0_waitingInAll S) fun v6 =>
    some v6
  else if p1 = 4 then
    ob (f_X0_ridersInPods S) fun v9 =>
    some v9
  else if p1 = 5 then
    ob (f_X0_arrivedInAll S) fun v12 =>
    some v12
  else if p1 = 6 then
    ob (f_X0_freeSlots S) fun v15 =>
    some v15
  else if p1 = 7 then
    some (S.1 4)
  else 
    some (S.1 5)
abbrev rm_X0_tellCount : Room := { frames := 3, cells := 0, slots := 0, locals := 67 }
theorem hdv_X0_tellCount : yX0_tellCount.cls = RX0 ∧ yX0_tellCount.cls ≠ "java/lang/invoke/MethodHandle" ∧ yX0_tellCount.cls ≠ "java/lang/invoke/VarHandle" ∧ (parseMethodDescriptor yX0_tellCount.desc).map (fun d => d.parameters.length) = some 1 := by decide +kernel
set_option maxHeartbeats 4000000 in
set_option maxRecDepth 100000 in
theorem m_X0_tellCount (l : Launch) (D : va_G) (Z : Nat → ClassId) (a : Nat → Nat) (S : RS) (p1 : Int32) (r : Int32) (hf : f_X0_tellCount S p1 = some r) : ROi l yX0_tellCount wsX0_tellCount rm_X0_tellCount D Z [.ref (a 0), .int p1] (rwl Z a S) r := by
  refine ROi.of (cc := cX0_tellCount) (nL := 2) (ret := (some .int)) (by decide +kernel) rfl (Nat.le_of_ble_eq_true rfl) ?_
  intro p e s m below meth c hC hA hP hK hD hS ls hl
  obtain ⟨hx, hb, hr, hml, hown, hts, hlk, -⟩ := hC
  have hown : s.vm.findClass RX0 = some m.cls := hown
  have hin : ∀ w ∈ wsX00, w ∈ wsX0_tellCount := fun w h => List.mem_cons_of_mem _ (List.mem_append_right _ h)
  have hl : lv_has ls 2 [(0, .ref (a 0)), (1, .int p1)] := hl
  unfold f_X0_tellCount at hf
  refine lv_iload_n hx hb dX0_tellCount_0 rfl (lv_at hl 1 rfl) ?_
  by_cases c1 : p1 = 0
  · have hf := if_t hf c1
    refine lv_tableIn (tgt := 48) (off := 47) hx hb dX0_tellCount_1 (by rw [c1]; decide) (by rw [c1]; decide) (by rw [c1]; rfl) (by decide) ?_
    refine lv_aload_n hx hb dX0_tellCount_48 rfl (lv_at hl 0 rfl) ?_
    refine va_get (D := D) (ci := 0) (v := .int (S.1 0)) (C := RX0) (T := TX0) (N := 17) hx hb hts hin hown hK hP 0 rfl rfl 0 (by decide) (hts (.fieldLink RX0 49 "PodGuideway$Ring" "minute" "I") (List.mem_of_getElem? (i := 1) rfl)) (fun _ h9 => h9) rfl dX0_tellCount_49 ?_
    exact zr_i hx hb hr hlk hS (Option.some.inj hf) dX0_tellCount_52
  have hf := if_f hf c1
  by_cases c2 : p1 = 1
  · have hf := if_t hf c2
    refine lv_tableIn (tgt := 53) (off := 52) hx hb dX0_tellCount_1 (by rw [c2]; decide) (by rw [c2]; decide) (by rw [c2]; rfl) (by decide) ?_
    refine lv_aload_n hx hb dX0_tellCount_53 rfl (lv_at hl 0 rfl) ?_
    refine va_get (D := D) (ci := 0) (v := .int (S.1 1)) (C := RX0) (T := TX0) (N := 17) hx hb hts hin hown hK hP 0 rfl rfl 1 (by decide) (hts (.fieldLink RX0 53 "PodGuideway$Ring" "stations" "I") (List.mem_of_getElem? (i := 2) rfl)) (fun _ h9 => h9) rfl dX0_tellCount_54 ?_
    exact zr_i hx hb hr hlk hS (Option.some.inj hf) dX0_tellCount_57
  have hf := if_f hf c2
  by_cases c3 : p1 = 2
  · have hf := if_t hf c3
    refine lv_tableIn (tgt := 58) (off := 57) hx hb dX0_tellCount_1 (by rw [c3]; decide) (by rw [c3]; decide) (by rw [c3]; rfl) (by decide) ?_
    refine lv_aload_n hx hb dX0_tellCount_58 rfl (lv_at hl 0 rfl) ?_
    refine va_get (D := D) (ci := 0) (v := .int (S.1 2)) (C := RX0) (T := TX0) (N := 17) hx hb hts hin hown hK hP 0 rfl rfl 2 (by decide) (hts (.fieldLink RX0 56 "PodGuideway$Ring" "pods" "I") (List.mem_of_getElem? (i := 3) rfl)) (fun _ h9 => h9) rfl dX0_tellCount_59 ?_
    exact zr_i hx hb hr hlk hS (Option.some.inj hf) dX0_tellCount_62
  have hf := if_f hf c3
  by_cases c4 : p1 = 3
  · have hf := if_t hf c4
    refine lv_tableIn (tgt := 63) (off := 62) hx hb dX0_tellCount_1 (by rw [c4]; decide) (by rw [c4]; decide) (by rw [c4]; rfl) (by decide) ?_
    refine lv_aload_n hx hb dX0_tellCount_63 rfl (lv_at hl 0 rfl) ?_
    obtain ⟨v6, hv5, hf⟩ := ob_some hf
    refine zc_i (z_VD (As := []) (rest := []) (q0 := 0) (ci := 0) ⟨hx, hb, hml, hown, hts⟩ (m_X0_waitingInAll l D Z a S v6 hv5) gX0_tellCount_X0_waitingInAll rfl rfl rfl hdv_X0_waitingInAll ⟨Nat.le_of_ble_eq_true rfl, Nat.le_of_ble_eq_true rfl⟩ hK hP hD rfl rfl rfl rfl hl.1 rfl (Nat.le_of_ble_eq_true rfl) dX0_tellCount_64 ⟨Nat.le_of_ble_eq_true rfl, Nat.le_of_ble_eq_true rfl⟩) hP hS hA (fun H locs hP hS => ?_)
    exact zr_i hx hb hr hlk hS (Option.some.inj hf) dX0_tellCount_67
  have hf := if_f hf c4
  by_cases c7 : p1 = 4
  · have hf := if_t hf c7
    refine lv_tableIn (tgt := 68) (off := 67) hx hb dX0_tellCount_1 (by rw [c7]; decide) (by rw [c7]; decide) (by rw [c7]; rfl) (by decide) ?_
    refine lv_aload_n hx hb dX0_tellCount_68 rfl (lv_at hl 0 rfl) ?_
    obtain ⟨v9, hv8, hf⟩ := ob_some hf
    refine zc_i (z_VD (As := []) (rest := []) (q0 := 0) (ci := 0) ⟨hx, hb, hml, hown, hts⟩ (m_X0_ridersInPods l D Z a S v9 hv8) gX0_tellCount_X0_ridersInPods rfl rfl rfl hdv_X0_ridersInPods ⟨Nat.le_of_ble_eq_true rfl, Nat.le_of_ble_eq_true rfl⟩ hK hP hD rfl rfl rfl rfl hl.1 rfl (Nat.le_of_ble_eq_true rfl) dX0_tellCount_69 ⟨Nat.le_of_ble_eq_true rfl, Nat.le_of_ble_eq_true rfl⟩) hP hS hA (fun H locs hP hS => ?_)
    exact zr_i hx hb hr hlk hS (Option.some.inj hf) dX0_tellCount_72
  have hf := if_f hf c7
  by_cases c10 : p1 = 5
  · have hf := if_t hf c10
    refine lv_tableIn (tgt := 73) (off := 72) hx hb dX0_tellCount_1 (by rw [c10]; decide) (by rw [c10]; decide) (by rw [c10]; rfl) (by decide) ?_
    refine lv_aload_n hx hb dX0_tellCount_73 rfl (lv_at hl 0 rfl) ?_
    obtain ⟨v12, hv11, hf⟩ := ob_some hf
    refine zc_i (z_VD (As := []) (rest := []) (q0 := 0) (ci := 0) ⟨hx, hb, hml, hown, hts⟩ (m_X0_arrivedInAll l D Z a S v12 hv11) gX0_tellCount_X0_arrivedInAll rfl rfl rfl hdv_X0_arrivedInAll ⟨Nat.le_of_ble_eq_true rfl, Nat.le_of_ble_eq_true rfl⟩ hK hP hD rfl rfl rfl rfl hl.1 rfl (Nat.le_of_ble_eq_true rfl) dX0_tellCount_74 ⟨Nat.le_of_ble_eq_true rfl, Nat.le_of_ble_eq_true rfl⟩) hP hS hA (fun H locs hP hS => ?_)
    exact zr_i hx hb hr hlk hS (Option.some.inj hf) dX0_tellCount_77
  have hf := if_f hf c10
  by_cases c13 : p1 = 6
  · have hf := if_t hf c13
    refine lv_tableIn (tgt := 78) (off := 77) hx hb dX0_tellCount_1 (by rw [c13]; decide) (by rw [c13]; decide) (by rw [c13]; rfl) (by decide) ?_
    refine lv_aload_n hx hb dX0_tellCount_78 rfl (lv_at hl 0 rfl) ?_
    obtain ⟨v15, hv14, hf⟩ := ob_some hf
    refine zc_i (z_VD (As := []) (rest := []) (q0 := 0) (ci := 0) ⟨hx, hb, hml, hown, hts⟩ (m_X0_freeSlots l D Z a S v15 hv14) gX0_tellCount_X0_freeSlots rfl rfl rfl hdv_X0_freeSlots ⟨Nat.le_of_ble_eq_true rfl, Nat.le_of_ble_eq_true rfl⟩ hK hP hD rfl rfl rfl rfl hl.1 rfl (Nat.le_of_ble_eq_true rfl) dX0_tellCount_79 ⟨Nat.le_of_ble_eq_true rfl, Nat.le_of_ble_eq_true rfl⟩) hP hS hA (fun H locs hP hS => ?_)
    exact zr_i hx hb hr hlk hS (Option.some.inj hf) dX0_tellCount_82
  have hf := if_f hf c13
  by_cases c16 : p1 = 7
  · have hf := if_t hf c16
    refine lv_tableIn (tgt := 83) (off := 82) hx hb dX0_tellCount_1 (by rw [c16]; decide) (by rw [c16]; decide) (by rw [c16]; rfl) (by decide) ?_
    refine lv_aload_n hx hb dX0_tellCount_83 rfl (lv_at hl 0 rfl) ?_
    refine va_get (D := D) (ci := 0) (v := .int (S.1 4)) (C := RX0) (T := TX0) (N := 17) hx hb hts hin hown hK hP 0 rfl rfl 4 (by decide) (hts (.fieldLink RX0 62 "PodGuideway$Ring" "callsAnswered" "I") (List.mem_of_getElem? (i := 4) rfl)) (fun _ h9 => h9) rfl dX0_tellCount_84 ?_
    exact zr_i hx hb hr hlk hS (Option.some.inj hf) dX0_tellCount_87
  have hf := if_f hf c16
  refine lv_tableOut (tgt := 88) hx hb dX0_tellCount_1 (sw_out8 c1 c2 c3 c4 c7 c10 c13 c16) (by decide) ?_
  refine lv_aload_n hx hb dX0_tellCount_88 rfl (lv_at hl 0 rfl) ?_
  refine va_get (D := D) (ci := 0) (v := .int (S.1 5)) (C := RX0) (T := TX0) (N := 17) hx hb hts hin hown hK hP 0 rfl rfl 5 (by decide) (hts (.fieldLink RX0 65 "PodGuideway$Ring" "waitedBeforeBoarding" "I") (List.mem_of_getElem? (i := 5) rfl)) (fun _ h9 => h9) rfl dX0_tellCount_89 ?_
  exact zr_i hx hb hr hlk hS (Option.some.inj hf) dX0_tellCount_92
def f_X0_addStation  (S : RS) (p1 : Int32) : Option (Int32 × RS) :=
  ob (f_X0_write 6 (S.2 2) (S.1 1) p1) fun f2 =>
  lt (sR S 2 f2) fun (S3 : RS) =>
  lt (sI S3 1 ((S3.1 1) + 1)) fun (S4 : RS) =>
  some ((S.1 1), S4)
abbrev rm_X0_addStation : Room := { frames := 1, cells := 0, slots := 0, locals := 22 }
theorem hdv_X0_addStation : yX0_addStation.cls = RX0 ∧ yX0_addStation.cls ≠ "java/lang/invoke/MethodHandle" ∧ yX0_addStation.cls ≠ "java/lang/invoke/VarHandle" ∧ (parseMethodDescriptor yX0_addStation.desc).map (fun d => d.parameters.length) = some 1 := by decide +kernel
set_option maxHeartbeats 4000000 in
set_option maxRecDepth 100000 in
theorem m_X0_addStation (l : Launch) (D : va_G) (Z : Nat → ClassId) (a : Nat → Nat) (S : RS) (p1 : Int32) (S' : RS) (r : Int32) (hf : f_X0_addStation S p1 = some (r, S')) : RWi l yX0_addStation wsX0_addStation rm_X0_addStation D Z [.ref (a 0), .int p1] (rwl Z a S) (rwl Z a S') r 0 0 := by
  refine RWi.of (cc := cX0_addStation) (nL := 3) (ret := (some .int)) (by decide +kernel) rfl (Nat.le_of_ble_eq_true rfl) ?_
  intro p e s m below meth c A hC hA hP hK hD hS ls hl
  obtain ⟨hx, hb, hr, hml, hown, hts, hlk, -⟩ := hC
  have hown : s.vm.findClass RX0 = some m.cls := hown
  have hin : ∀ w ∈ wsX00, w ∈ wsX0_addStation := fun w h => List.mem_cons_of_mem _ (List.mem_append_right _ h)
  have hl : lv_has ls 3 [(0, .ref (a 0)), (1, .int p1)] := hl
  unfold f_X0_addStation at hf
  refine lv_aload_n hx hb dX0_addStation_0 rfl (lv_at hl 0 rfl) ?_
  refine va_get (D := D) (ci := 0) (v := .int (S.1 1)) (C := RX0) (T := TX0) (N := 17) hx hb hts hin hown hK hP 0 rfl rfl 1 (by decide) (hts (.fieldLink RX0 53 "PodGuideway$Ring" "stations" "I") (List.mem_of_getElem? (i := 1) rfl)) (fun _ h9 => h9) rfl dX0_addStation_1 ?_
  refine lv_istore_n (lv' := [(2, .int (S.1 1)), (0, .ref (a 0)), (1, .int p1)]) hx hb dX0_addStation_4 rfl hl (by decide) rfl (fun ls hl => ?_)
  refine lv_aload_n hx hb dX0_addStation_5 rfl (lv_at hl 1 rfl) ?_
  refine va_get (D := D) (ci := 0) (v := .ref (a 3)) (C := RX0) (T := TX0) (N := 17) hx hb hts hin hown hK hP 0 rfl rfl 8 (by decide) (hts (.fieldLink RX0 22 "PodGuideway$Ring" "stationPlace" "[I") (List.mem_of_getElem? (i := 2) rfl)) (fun _ h9 => h9) rfl dX0_addStation_6 ?_
  refine lv_iload_n hx hb dX0_addStation_9 rfl (lv_at hl 0 rfl) ?_
  refine lv_iload_n hx hb dX0_addStation_10 rfl (lv_at hl 2 rfl) ?_
  obtain ⟨f2, hv1, hf⟩ := ob_some hf
  refine zc_mv1 (k := 3) (e1 := .inl (Z 0, 6, .inl f2)) rfl (z_SD (As := [.ref (a 3), .int (S.1 1), .int p1]) (rest := []) ⟨hx, hb, hml, hown, hts⟩ (m_X0_write l D Z (a 3) 6 (S.2 2) (S.1 1) p1 f2 hv1) gX0_addStation_X0_write rfl rfl rfl hds_X0_write ⟨Nat.le_of_ble_eq_true rfl, Nat.le_of_ble_eq_true rfl⟩ hK (hP.sub (ws' := [((a 3), .inl (Z 0, 6, .inl (S.2 2)))]) [3] rfl) (hD.sub (ws' := [((a 3), .inl (Z 0, 6, .inl (S.2 2)))]) [3] (by decide) rfl) rfl hl.1 rfl (Nat.le_of_ble_eq_true rfl) dX0_addStation_11 ⟨Nat.le_of_ble_eq_true rfl, Nat.le_of_ble_eq_true rfl⟩) hP hD hS hA (fun H locs hP hD hS => ?_)
  obtain ⟨S3, eS3, hf⟩ := lt_ex hf
  have hP : va_P D vwCl (rwl Z a S3) H := by rw [eS3]; exact hP
  have hD : va_D A (rwl Z a S3) := by rw [eS3]; exact hD
  refine lv_aload_n hx hb dX0_addStation_14 rfl (lv_at hl 1 rfl) ?_
  refine lv_dup hx hb dX0_addStation_15 rfl ?_
  refine va_get (D := D) (ci := 0) (v := .int (S3.1 1)) (C := RX0) (T := TX0) (N := 17) hx hb hts hin hown hK hP 0 rfl rfl 1 (by decide) (hts (.fieldLink RX0 53 "PodGuideway$Ring" "stations" "I") (List.mem_of_getElem? (i := 1) rfl)) (fun _ h9 => h9) rfl dX0_addStation_16 ?_
  refine lv_iconst (v := 1) hx hb dX0_addStation_19 (by decide) ?_
  refine lv_iadd hx hb dX0_addStation_20 ?_
  refine va_put (D := D) (ci := 0) (v := .int ((S3.1 1) + 1)) (ty := .int) (C := RX0) (T := TX0) (N := 17) hx hb hts hin tyX0 tyX0_ok nmX0 hown hK hP hD hS 0 rfl rfl 1 (by decide) (hts (.fieldLink RX0 53 "PodGuideway$Ring" "stations" "I") (List.mem_of_getElem? (i := 1) rfl)) (fun _ h9 => h9) rfl (by decide +kernel) rfl rfl (Nat.le_of_ble_eq_true rfl) dX0_addStation_21 (fun H locs hP hD hS => ?_)
  obtain ⟨S4, eS4, hf⟩ := lt_ex hf
  have hP : va_P D vwCl (rwl Z a S4) H := by rw [eS4]; exact hP
  have hD : va_D A (rwl Z a S4) := by rw [eS4]; exact hD
  refine lv_iload_n hx hb dX0_addStation_24 rfl (lv_at hl 0 rfl) ?_
  exact zw_i hx hb hr hlk hP hD hS (congrArg (fun z => ((rwl Z a z) : va_W)) (pr2 hf)) (pr1 hf) (Nat.le_of_ble_eq_true rfl) (Nat.le_of_ble_eq_true rfl) dX0_addStation_25
def f_X0_addPod  (S : RS) (p1 : Int32) : Option (Int32 × RS) :=
  ob (f_X0_firstBerth S p1 0) fun v2 =>
  ob (f_X0_write 18 (S.2 1) v2 (S.1 2)) fun f4 =>
  lt (sR S 1 f4) fun (S5 : RS) =>
  lt (sI S5 2 ((S5.1 2) + 1)) fun (S6 : RS) =>
  some ((S.1 2), S6)
abbrev rm_X0_addPod : Room := { frames := 3, cells := 0, slots := 0, locals := 66 }
theorem hdv_X0_addPod : yX0_addPod.cls = RX0 ∧ yX0_addPod.cls ≠ "java/lang/invoke/MethodHandle" ∧ yX0_addPod.cls ≠ "java/lang/invoke/VarHandle" ∧ (parseMethodDescriptor yX0_addPod.desc).map (fun d => d.parameters.length) = some 1 := by decide +kernel
set_option maxHeartbeats 4000000 in
set_option maxRecDepth 100000 in
theorem m_X0_addPod (l : Launch) (D : va_G) (Z : Nat → ClassId) (a : Nat → Nat) (S : RS) (p1 : Int32) (S' : RS) (r : Int32) (hf : f_X0_addPod S p1 = some (r, S')) : RWi l yX0_addPod wsX0_addPod rm_X0_addPod D Z [.ref (a 0), .int p1] (rwl Z a S) (rwl Z a S') r 0 0 := by
  refine RWi.of (cc := cX0_addPod) (nL := 3) (ret := (some .int)) (by decide +kernel) rfl (Nat.le_of_ble_eq_true rfl) ?_
  intro p e s m below meth c A hC hA hP hK hD hS ls hl
  obtain ⟨hx, hb, hr, hml, hown, hts, hlk, -⟩ := hC
  have hown : s.vm.findClass RX0 = some m.cls := hown
  have hin : ∀ w ∈ wsX00, w ∈ wsX0_addPod := fun w h => List.mem_cons_of_mem _ (List.mem_append_right _ h)
  have hl : lv_has ls 3 [(0, .ref (a 0)), (1, .int p1)] := hl
  unfold f_X0_addPod at hf
  refine lv_aload_n hx hb dX0_addPod_0 rfl (lv_at hl 0 rfl) ?_
  refine va_get (D := D) (ci := 0) (v := .int (S.1 2)) (C := RX0) (T := TX0) (N := 17) hx hb hts hin hown hK hP 0 rfl rfl 2 (by decide) (hts (.fieldLink RX0 56 "PodGuideway$Ring" "pods" "I") (List.mem_of_getElem? (i := 1) rfl)) (fun _ h9 => h9) rfl dX0_addPod_1 ?_
  refine lv_istore_n (lv' := [(2, .int (S.1 2)), (0, .ref (a 0)), (1, .int p1)]) hx hb dX0_addPod_4 rfl hl (by decide) rfl (fun ls hl => ?_)
  refine lv_aload_n hx hb dX0_addPod_5 rfl (lv_at hl 1 rfl) ?_
  refine va_get (D := D) (ci := 0) (v := .ref (a 2)) (C := RX0) (T := TX0) (N := 17) hx hb hts hin hown hK hP 0 rfl rfl 7 (by decide) (hts (.fieldLink RX0 19 "PodGuideway$Ring" "podInBerth" "[I") (List.mem_of_getElem? (i := 2) rfl)) (fun _ h9 => h9) rfl dX0_addPod_6 ?_
  refine lv_aload_n hx hb dX0_addPod_9 rfl (lv_at hl 1 rfl) ?_
  refine lv_iload_n hx hb dX0_addPod_10 rfl (lv_at hl 2 rfl) ?_
  refine lv_iconst (v := 0) hx hb dX0_addPod_11 (by decide) ?_
  obtain ⟨v2, hv1, hf⟩ := ob_some hf
  refine zc_i (z_VD (As := [.int p1, .int 0]) (rest := [.ref (a 2)]) (q0 := 0) (ci := 0) ⟨hx, hb, hml, hown, hts⟩ (m_X0_firstBerth l D Z a S p1 0 v2 hv1) gX0_addPod_X0_firstBerth rfl rfl rfl hdv_X0_firstBerth ⟨Nat.le_of_ble_eq_true rfl, Nat.le_of_ble_eq_true rfl⟩ hK hP hD rfl rfl rfl rfl hl.1 rfl (Nat.le_of_ble_eq_true rfl) dX0_addPod_12 ⟨Nat.le_of_ble_eq_true rfl, Nat.le_of_ble_eq_true rfl⟩) hP hS hA (fun H locs hP hS => ?_)
  refine lv_iload_n hx hb dX0_addPod_15 rfl (lv_at hl 0 rfl) ?_
  obtain ⟨f4, hv3, hf⟩ := ob_some hf
  refine zc_mv1 (k := 2) (e1 := .inl (Z 0, 18, .inl f4)) rfl (z_SD (As := [.ref (a 2), .int v2, .int (S.1 2)]) (rest := []) ⟨hx, hb, hml, hown, hts⟩ (m_X0_write l D Z (a 2) 18 (S.2 1) v2 (S.1 2) f4 hv3) gX0_addPod_X0_write rfl rfl rfl hds_X0_write ⟨Nat.le_of_ble_eq_true rfl, Nat.le_of_ble_eq_true rfl⟩ hK (hP.sub (ws' := [((a 2), .inl (Z 0, 18, .inl (S.2 1)))]) [2] rfl) (hD.sub (ws' := [((a 2), .inl (Z 0, 18, .inl (S.2 1)))]) [2] (by decide) rfl) rfl hl.1 rfl (Nat.le_of_ble_eq_true rfl) dX0_addPod_16 ⟨Nat.le_of_ble_eq_true rfl, Nat.le_of_ble_eq_true rfl⟩) hP hD hS hA (fun H locs hP hD hS => ?_)
  obtain ⟨S5, eS5, hf⟩ := lt_ex hf
  have hP : va_P D vwCl (rwl Z a S5) H := by rw [eS5]; exact hP
  have hD : va_D A (rwl Z a S5) := by rw [eS5]; exact hD
  refine lv_aload_n hx hb dX0_addPod_19 rfl (lv_at hl 1 rfl) ?_
  refine lv_dup hx hb dX0_addPod_20 rfl ?_
  refine va_get (D := D) (ci := 0) (v := .int (S5.1 2)) (C := RX0) (T := TX0) (N := 17) hx hb hts hin hown hK hP 0 rfl rfl 2 (by decide) (hts (.fieldLink RX0 56 "PodGuideway$Ring" "pods" "I") (List.mem_of_getElem? (i := 1) rfl)) (fun _ h9 => h9) rfl dX0_addPod_21 ?_
  refine lv_iconst (v := 1) hx hb dX0_addPod_24 (by decide) ?_
  refine lv_iadd hx hb dX0_addPod_25 ?_
  refine va_put (D := D) (ci := 0) (v := .int ((S5.1 2) + 1)) (ty := .int) (C := RX0) (T := TX0) (N := 17) hx hb hts hin tyX0 tyX0_ok nmX0 hown hK hP hD hS 0 rfl rfl 2 (by decide) (hts (.fieldLink RX0 56 "PodGuideway$Ring" "pods" "I") (List.mem_of_getElem? (i := 1) rfl)) (fun _ h9 => h9) rfl (by decide +kernel) rfl rfl (Nat.le_of_ble_eq_true rfl) dX0_addPod_26 (fun H locs hP hD hS => ?_)
  obtain ⟨S6, eS6, hf⟩ := lt_ex hf
  have hP : va_P D vwCl (rwl Z a S6) H := by rw [eS6]; exact hP
  have hD : va_D A (rwl Z a S6) := by rw [eS6]; exact hD
  refine lv_iload_n hx hb dX0_addPod_29 rfl (lv_at hl 0 rfl) ?_
  exact zw_i hx hb hr hlk hP hD hS (congrArg (fun z => ((rwl Z a z) : va_W)) (pr2 hf)) (pr1 hf) (Nat.le_of_ble_eq_true rfl) (Nat.le_of_ble_eq_true rfl) dX0_addPod_30
def f_X0_addRider  (S : RS) (p1 : Int32) (p2 : Int32) : Option (Int32 × RS) :=
  ob (f_X0_waitingAt S p1) fun v2 =>
  ob (f_X0_write 54 (S.2 5) ((p1 * 9) + v2) (S.1 3)) fun f4 =>
  lt (sR S 5 f4) fun (S5 : RS) =>
  ob (f_X0_write 54 (S5.2 6) ((p1 * 9) + v2) p2) fun f7 =>
  lt (sR S5 6 f7) fun (S8 : RS) =>
  ob (f_X0_write 54 (S8.2 7) ((p1 * 9) + v2) (S8.1 0)) fun f10 =>
  lt (sR S8 7 f10) fun (S11 : RS) =>
  ob (f_X0_waitingAt S11 p1) fun v13 =>
  ob (f_X0_write 6 (S11.2 4) p1 (v13 + 1)) fun f15 =>
  lt (sR S11 4 f15) fun (S16 : RS) =>
  lt (sI S16 3 ((S16.1 3) + 1)) fun (S17 : RS) =>
  some ((S.1 3), S17)
abbrev rm_X0_addRider : Room := { frames := 2, cells := 0, slots := 0, locals := 45 }
theorem hdv_X0_addRider : yX0_addRider.cls = RX0 ∧ yX0_addRider.cls ≠ "java/lang/invoke/MethodHandle" ∧ yX0_addRider.cls ≠ "java/lang/invoke/VarHandle" ∧ (parseMethodDescriptor yX0_addRider.desc).map (fun d => d.parameters.length) = some 2 := by decide +kernel
set_option maxHeartbeats 4000000 in
set_option maxRecDepth 100000 in
theorem m_X0_addRider (l : Launch) (D : va_G) (Z : Nat → ClassId) (a : Nat → Nat) (S : RS) (p1 : Int32) (p2 : Int32) (S' : RS) (r : Int32) (hf : f_X0_addRider S p1 p2 = some (r, S')) : RWi l yX0_addRider wsX0_addRider rm_X0_addRider D Z [.ref (a 0), .int p1, .int p2] (rwl Z a S) (rwl Z a S') r 0 0 := by
  refine RWi.of (cc := cX0_addRider) (nL := 5) (ret := (some .int)) (by decide +kernel) rfl (Nat.le_of_ble_eq_true rfl) ?_
  intro p e s m below meth c A hC hA hP hK hD hS ls hl
  obtain ⟨hx, hb, hr, hml, hown, hts, hlk, -⟩ := hC
  have hown : s.vm.findClass RX0 = some m.cls := hown
  have hin : ∀ w ∈ wsX00, w ∈ wsX0_addRider := fun w h => List.mem_cons_of_mem _ (List.mem_append_right _ h)
  have hl : lv_has ls 5 [(0, .ref (a 0)), (1, .int p1), (2, .int p2)] := hl
  unfold f_X0_addRider at hf
  refine lv_aload_n hx hb dX0_addRider_0 rfl (lv_at hl 0 rfl) ?_
  refine va_get (D := D) (ci := 0) (v := .int (S.1 3)) (C := RX0) (T := TX0) (N := 17) hx hb hts hin hown hK hP 0 rfl rfl 3 (by decide) (hts (.fieldLink RX0 59 "PodGuideway$Ring" "ridersInAll" "I") (List.mem_of_getElem? (i := 1) rfl)) (fun _ h9 => h9) rfl dX0_addRider_1 ?_
  refine lv_istore_n (lv' := [(3, .int (S.1 3)), (0, .ref (a 0)), (1, .int p1), (2, .int p2)]) hx hb dX0_addRider_4 rfl hl (by decide) rfl (fun ls hl => ?_)
  refine lv_iload_n hx hb dX0_addRider_5 rfl (lv_at hl 2 rfl) ?_
  refine lv_bipush (v := 9) hx hb dX0_addRider_6 (by decide) ?_
  refine lv_imul hx hb dX0_addRider_8 ?_
  refine lv_aload_n hx hb dX0_addRider_9 rfl (lv_at hl 1 rfl) ?_
  refine lv_iload_n hx hb dX0_addRider_10 rfl (lv_at hl 2 rfl) ?_
  obtain ⟨v2, hv1, hf⟩ := ob_some hf
  refine zc_i (z_VD (As := [.int p1]) (rest := [.int (p1 * 9)]) (q0 := 0) (ci := 0) ⟨hx, hb, hml, hown, hts⟩ (m_X0_waitingAt l D Z a S p1 v2 hv1) gX0_addRider_X0_waitingAt rfl rfl rfl hdv_X0_waitingAt ⟨Nat.le_of_ble_eq_true rfl, Nat.le_of_ble_eq_true rfl⟩ hK hP hD rfl rfl rfl rfl hl.1 rfl (Nat.le_of_ble_eq_true rfl) dX0_addRider_11 ⟨Nat.le_of_ble_eq_true rfl, Nat.le_of_ble_eq_true rfl⟩) hP hS hA (fun H locs hP hS => ?_)
  refine lv_iadd hx hb dX0_addRider_14 ?_
  refine lv_istore (lv' := [(4, .int ((p1 * 9) + v2)), (3, .int (S.1 3)), (0, .ref (a 0)), (1, .int p1), (2, .int p2)]) hx hb dX0_addRider_15 hl (by decide) rfl (fun ls hl => ?_)
  refine lv_aload_n hx hb dX0_addRider_17 rfl (lv_at hl 2 rfl) ?_
  refine va_get (D := D) (ci := 0) (v := .ref (a 6)) (C := RX0) (T := TX0) (N := 17) hx hb hts hin hown hK hP 0 rfl rfl 11 (by decide) (hts (.fieldLink RX0 31 "PodGuideway$Ring" "riderNumber" "[I") (List.mem_of_getElem? (i := 2) rfl)) (fun _ h9 => h9) rfl dX0_addRider_18 ?_
  refine lv_iload hx hb dX0_addRider_21 (lv_at hl 0 rfl) ?_
  refine lv_iload_n hx hb dX0_addRider_23 rfl (lv_at hl 1 rfl) ?_
  obtain ⟨f4, hv3, hf⟩ := ob_some hf
  refine zc_mv1 (k := 6) (e1 := .inl (Z 0, 54, .inl f4)) rfl (z_SD (As := [.ref (a 6), .int ((p1 * 9) + v2), .int (S.1 3)]) (rest := []) ⟨hx, hb, hml, hown, hts⟩ (m_X0_write l D Z (a 6) 54 (S.2 5) ((p1 * 9) + v2) (S.1 3) f4 hv3) gX0_addRider_X0_write rfl rfl rfl hds_X0_write ⟨Nat.le_of_ble_eq_true rfl, Nat.le_of_ble_eq_true rfl⟩ hK (hP.sub (ws' := [((a 6), .inl (Z 0, 54, .inl (S.2 5)))]) [6] rfl) (hD.sub (ws' := [((a 6), .inl (Z 0, 54, .inl (S.2 5)))]) [6] (by decide) rfl) rfl hl.1 rfl (Nat.le_of_ble_eq_true rfl) dX0_addRider_24 ⟨Nat.le_of_ble_eq_true rfl, Nat.le_of_ble_eq_true rfl⟩) hP hD hS hA (fun H locs hP hD hS => ?_)
  obtain ⟨S5, eS5, hf⟩ := lt_ex hf
  have hP : va_P D vwCl (rwl Z a S5) H := by rw [eS5]; exact hP
  have hD : va_D A (rwl Z a S5) := by rw [eS5]; exact hD
  refine lv_aload_n hx hb dX0_addRider_27 rfl (lv_at hl 2 rfl) ?_
  refine va_get (D := D) (ci := 0) (v := .ref (a 7)) (C := RX0) (T := TX0) (N := 17) hx hb hts hin hown hK hP 0 rfl rfl 12 (by decide) (hts (.fieldLink RX0 34 "PodGuideway$Ring" "riderGoal" "[I") (List.mem_of_getElem? (i := 3) rfl)) (fun _ h9 => h9) rfl dX0_addRider_28 ?_
  refine lv_iload hx hb dX0_addRider_31 (lv_at hl 0 rfl) ?_
  refine lv_iload_n hx hb dX0_addRider_33 rfl (lv_at hl 4 rfl) ?_
  obtain ⟨f7, hv6, hf⟩ := ob_some hf
  refine zc_mv1 (k := 7) (e1 := .inl (Z 0, 54, .inl f7)) rfl (z_SD (As := [.ref (a 7), .int ((p1 * 9) + v2), .int p2]) (rest := []) ⟨hx, hb, hml, hown, hts⟩ (m_X0_write l D Z (a 7) 54 (S5.2 6) ((p1 * 9) + v2) p2 f7 hv6) gX0_addRider_X0_write rfl rfl rfl hds_X0_write ⟨Nat.le_of_ble_eq_true rfl, Nat.le_of_ble_eq_true rfl⟩ hK (hP.sub (ws' := [((a 7), .inl (Z 0, 54, .inl (S5.2 6)))]) [7] rfl) (hD.sub (ws' := [((a 7), .inl (Z 0, 54, .inl (S5.2 6)))]) [7] (by decide) rfl) rfl hl.1 rfl (Nat.le_of_ble_eq_true rfl) dX0_addRider_34 ⟨Nat.le_of_ble_eq_true rfl, Nat.le_of_ble_eq_true rfl⟩) hP hD hS hA (fun H locs hP hD hS => ?_)
  obtain ⟨S8, eS8, hf⟩ := lt_ex hf
  have hP : va_P D vwCl (rwl Z a S8) H := by rw [eS8]; exact hP
  have hD : va_D A (rwl Z a S8) := by rw [eS8]; exact hD
  refine lv_aload_n hx hb dX0_addRider_37 rfl (lv_at hl 2 rfl) ?_
  refine va_get (D := D) (ci := 0) (v := .ref (a 8)) (C := RX0) (T := TX0) (N := 17) hx hb hts hin hown hK hP 0 rfl rfl 13 (by decide) (hts (.fieldLink RX0 37 "PodGuideway$Ring" "riderCame" "[I") (List.mem_of_getElem? (i := 4) rfl)) (fun _ h9 => h9) rfl dX0_addRider_38 ?_
  refine lv_iload hx hb dX0_addRider_41 (lv_at hl 0 rfl) ?_
  refine lv_aload_n hx hb dX0_addRider_43 rfl (lv_at hl 2 rfl) ?_
  refine va_get (D := D) (ci := 0) (v := .int (S8.1 0)) (C := RX0) (T := TX0) (N := 17) hx hb hts hin hown hK hP 0 rfl rfl 0 (by decide) (hts (.fieldLink RX0 49 "PodGuideway$Ring" "minute" "I") (List.mem_of_getElem? (i := 5) rfl)) (fun _ h9 => h9) rfl dX0_addRider_44 ?_
  obtain ⟨f10, hv9, hf⟩ := ob_some hf
  refine zc_mv1 (k := 8) (e1 := .inl (Z 0, 54, .inl f10)) rfl (z_SD (As := [.ref (a 8), .int ((p1 * 9) + v2), .int (S8.1 0)]) (rest := []) ⟨hx, hb, hml, hown, hts⟩ (m_X0_write l D Z (a 8) 54 (S8.2 7) ((p1 * 9) + v2) (S8.1 0) f10 hv9) gX0_addRider_X0_write rfl rfl rfl hds_X0_write ⟨Nat.le_of_ble_eq_true rfl, Nat.le_of_ble_eq_true rfl⟩ hK (hP.sub (ws' := [((a 8), .inl (Z 0, 54, .inl (S8.2 7)))]) [8] rfl) (hD.sub (ws' := [((a 8), .inl (Z 0, 54, .inl (S8.2 7)))]) [8] (by decide) rfl) rfl hl.1 rfl (Nat.le_of_ble_eq_true rfl) dX0_addRider_47 ⟨Nat.le_of_ble_eq_true rfl, Nat.le_of_ble_eq_true rfl⟩) hP hD hS hA (fun H locs hP hD hS => ?_)
  obtain ⟨S11, eS11, hf⟩ := lt_ex hf
  have hP : va_P D vwCl (rwl Z a S11) H := by rw [eS11]; exact hP
  have hD : va_D A (rwl Z a S11) := by rw [eS11]; exact hD
  refine lv_aload_n hx hb dX0_addRider_50 rfl (lv_at hl 2 rfl) ?_
  refine va_get (D := D) (ci := 0) (v := .ref (a 5)) (C := RX0) (T := TX0) (N := 17) hx hb hts hin hown hK hP 0 rfl rfl 10 (by decide) (hts (.fieldLink RX0 28 "PodGuideway$Ring" "stationWaiting" "[I") (List.mem_of_getElem? (i := 6) rfl)) (fun _ h9 => h9) rfl dX0_addRider_51 ?_
  refine lv_iload_n hx hb dX0_addRider_54 rfl (lv_at hl 3 rfl) ?_
  refine lv_aload_n hx hb dX0_addRider_55 rfl (lv_at hl 2 rfl) ?_
  refine lv_iload_n hx hb dX0_addRider_56 rfl (lv_at hl 3 rfl) ?_
  obtain ⟨v13, hv12, hf⟩ := ob_some hf
  refine zc_i (z_VD (As := [.int p1]) (rest := [.int p1, .ref (a 5)]) (q0 := 0) (ci := 0) ⟨hx, hb, hml, hown, hts⟩ (m_X0_waitingAt l D Z a S11 p1 v13 hv12) gX0_addRider_X0_waitingAt rfl rfl rfl hdv_X0_waitingAt ⟨Nat.le_of_ble_eq_true rfl, Nat.le_of_ble_eq_true rfl⟩ hK hP hD rfl rfl rfl rfl hl.1 rfl (Nat.le_of_ble_eq_true rfl) dX0_addRider_57 ⟨Nat.le_of_ble_eq_true rfl, Nat.le_of_ble_eq_true rfl⟩) hP hS hA (fun H locs hP hS => ?_)
  refine lv_iconst (v := 1) hx hb dX0_addRider_60 (by decide) ?_
  refine lv_iadd hx hb dX0_addRider_61 ?_
  obtain ⟨f15, hv14, hf⟩ := ob_some hf
  refine zc_mv1 (k := 5) (e1 := .inl (Z 0, 6, .inl f15)) rfl (z_SD (As := [.ref (a 5), .int p1, .int (v13 + 1)]) (rest := []) ⟨hx, hb, hml, hown, hts⟩ (m_X0_write l D Z (a 5) 6 (S11.2 4) p1 (v13 + 1) f15 hv14) gX0_addRider_X0_write rfl rfl rfl hds_X0_write ⟨Nat.le_of_ble_eq_true rfl, Nat.le_of_ble_eq_true rfl⟩ hK (hP.sub (ws' := [((a 5), .inl (Z 0, 6, .inl (S11.2 4)))]) [5] rfl) (hD.sub (ws' := [((a 5), .inl (Z 0, 6, .inl (S11.2 4)))]) [5] (by decide) rfl) rfl hl.1 rfl (Nat.le_of_ble_eq_true rfl) dX0_addRider_62 ⟨Nat.le_of_ble_eq_true rfl, Nat.le_of_ble_eq_true rfl⟩) hP hD hS hA (fun H locs hP hD hS => ?_)
  obtain ⟨S16, eS16, hf⟩ := lt_ex hf
  have hP : va_P D vwCl (rwl Z a S16) H := by rw [eS16]; exact hP
  have hD : va_D A (rwl Z a S16) := by rw [eS16]; exact hD
  refine lv_aload_n hx hb dX0_addRider_65 rfl (lv_at hl 2 rfl) ?_
  refine lv_dup hx hb dX0_addRider_66 rfl ?_
  refine va_get (D := D) (ci := 0) (v := .int (S16.1 3)) (C := RX0) (T := TX0) (N := 17) hx hb hts hin hown hK hP 0 rfl rfl 3 (by decide) (hts (.fieldLink RX0 59 "PodGuideway$Ring" "ridersInAll" "I") (List.mem_of_getElem? (i := 1) rfl)) (fun _ h9 => h9) rfl dX0_addRider_67 ?_
  refine lv_iconst (v := 1) hx hb dX0_addRider_70 (by decide) ?_
  refine lv_iadd hx hb dX0_addRider_71 ?_
  refine va_put (D := D) (ci := 0) (v := .int ((S16.1 3) + 1)) (ty := .int) (C := RX0) (T := TX0) (N := 17) hx hb hts hin tyX0 tyX0_ok nmX0 hown hK hP hD hS 0 rfl rfl 3 (by decide) (hts (.fieldLink RX0 59 "PodGuideway$Ring" "ridersInAll" "I") (List.mem_of_getElem? (i := 1) rfl)) (fun _ h9 => h9) rfl (by decide +kernel) rfl rfl (Nat.le_of_ble_eq_true rfl) dX0_addRider_72 (fun H locs hP hD hS => ?_)
  obtain ⟨S17, eS17, hf⟩ := lt_ex hf
  have hP : va_P D vwCl (rwl Z a S17) H := by rw [eS17]; exact hP
  have hD : va_D A (rwl Z a S17) := by rw [eS17]; exact hD
  refine lv_iload_n hx hb dX0_addRider_75 rfl (lv_at hl 1 rfl) ?_
  exact zw_i hx hb hr hlk hP hD hS (congrArg (fun z => ((rwl Z a z) : va_W)) (pr2 hf)) (pr1 hf) (Nat.le_of_ble_eq_true rfl) (Nat.le_of_ble_eq_true rfl) dX0_addRider_76
def f_X0_moveSlots  (S : RS)  : Option (RS) :=
  if 1 ≤ ((24 : Int32) - 1) then
    ob (f_X0_read 24 (S.2 0) ((24 : Int32) - 1)) fun v3 =>
    if cpbad 0 1 ((24 : Int32) - 1) 24 24 then none else
    lt (sR S 0 (va_cpy (S.2 0) (S.2 0) (0 : Int32).toNatClampNeg (1 : Int32).toNatClampNeg ((24 : Int32) - 1).toNatClampNeg)) fun (S4 : RS) =>
    ob (f_X0_write 24 (S4.2 0) 0 v3) fun f6 =>
    lt (sR S4 0 f6) fun (S7 : RS) =>
    some S7
  else
    some S
abbrev rm_X0_moveSlots : Room := { frames := 1, cells := 0, slots := 0, locals := 80 }
theorem hdv_X0_moveSlots : yX0_moveSlots.cls = RX0 ∧ yX0_moveSlots.cls ≠ "java/lang/invoke/MethodHandle" ∧ yX0_moveSlots.cls ≠ "java/lang/invoke/VarHandle" ∧ (parseMethodDescriptor yX0_moveSlots.desc).map (fun d => d.parameters.length) = some 0 := by decide +kernel
set_option maxHeartbeats 4000000 in
set_option maxRecDepth 100000 in
theorem m_X0_moveSlots (l : Launch) (D : va_G) (Z : Nat → ClassId) (a : Nat → Nat) (S : RS)  (S' : RS) (hf : f_X0_moveSlots S = some S') : RWv l yX0_moveSlots wsX0_moveSlots rm_X0_moveSlots D Z [.ref (a 0)] (rwl Z a S) (rwl Z a S') 0 0 := by
  refine RWv.of (cc := cX0_moveSlots) (nL := 3) (ret := none) (by decide +kernel) rfl (Nat.le_of_ble_eq_true rfl) ?_
  intro p e s m below meth c A hC hA hP hK hD hS ls hl
  obtain ⟨hx, hb, hr, hml, hown, hts, hlk, -⟩ := hC
  have hown : s.vm.findClass RX0 = some m.cls := hown
  have hin : ∀ w ∈ wsX00, w ∈ wsX0_moveSlots := fun w h => List.mem_cons_of_mem _ (List.mem_append_right _ h)
  have hl : lv_has ls 3 [(0, .ref (a 0))] := hl
  unfold f_X0_moveSlots at hf
  refine lv_aload_n hx hb dX0_moveSlots_0 rfl (lv_at hl 0 rfl) ?_
  refine va_get (D := D) (ci := 0) (v := .ref (a 1)) (C := RX0) (T := TX0) (N := 17) hx hb hts hin hown hK hP 0 rfl rfl 6 (by decide) (hts (.fieldLink RX0 15 "PodGuideway$Ring" "podInSlot" "[I") (List.mem_of_getElem? (i := 1) rfl)) (fun _ h9 => h9) rfl dX0_moveSlots_1 ?_
  refine va_alen (v := (24 : Int32)) hx hb hK hP 1 0 rfl rfl rfl dX0_moveSlots_4 ?_
  refine lv_iconst (v := 1) hx hb dX0_moveSlots_5 (by decide) ?_
  refine lv_isub hx hb dX0_moveSlots_6 ?_
  refine lv_istore_n (lv' := [(1, .int ((24 : Int32) - 1)), (0, .ref (a 0))]) hx hb dX0_moveSlots_7 rfl hl (by decide) rfl (fun ls hl => ?_)
  refine lv_iload_n hx hb dX0_moveSlots_8 rfl (lv_at hl 0 rfl) ?_
  refine lv_iconst (v := 1) hx hb dX0_moveSlots_9 (by decide) ?_
  refine lv_icmp_ge (tgt := 14) hx hb dX0_moveSlots_10 (by decide) (fun c1 => ?_) (fun c1 => ?_)
  · have hf := if_t hf c1
    refine lv_aload_n hx hb dX0_moveSlots_14 rfl (lv_at hl 1 rfl) ?_
    refine va_get (D := D) (ci := 0) (v := .ref (a 1)) (C := RX0) (T := TX0) (N := 17) hx hb hts hin hown hK hP 0 rfl rfl 6 (by decide) (hts (.fieldLink RX0 15 "PodGuideway$Ring" "podInSlot" "[I") (List.mem_of_getElem? (i := 1) rfl)) (fun _ h9 => h9) rfl dX0_moveSlots_15 ?_
    refine lv_iload_n hx hb dX0_moveSlots_18 rfl (lv_at hl 0 rfl) ?_
    obtain ⟨v3, hv2, hf⟩ := ob_some hf
    refine zc_i (z_SD (As := [.ref (a 1), .int ((24 : Int32) - 1)]) (rest := []) ⟨hx, hb, hml, hown, hts⟩ (m_X0_read l D Z (a 1) 24 (S.2 0) ((24 : Int32) - 1) v3 hv2) gX0_moveSlots_X0_read rfl rfl rfl hds_X0_read ⟨Nat.le_of_ble_eq_true rfl, Nat.le_of_ble_eq_true rfl⟩ hK (hP.sub (ws' := [((a 1), .inl (Z 0, 24, .inl (S.2 0)))]) [1] rfl) (hD.sub (ws' := [((a 1), .inl (Z 0, 24, .inl (S.2 0)))]) [1] (by decide) rfl) rfl hl.1 rfl (Nat.le_of_ble_eq_true rfl) dX0_moveSlots_19 ⟨Nat.le_of_ble_eq_true rfl, Nat.le_of_ble_eq_true rfl⟩) hP hS hA (fun H locs hP hS => ?_)
    refine lv_istore_n (lv' := [(2, .int v3), (1, .int ((24 : Int32) - 1)), (0, .ref (a 0))]) hx hb dX0_moveSlots_22 rfl hl (by decide) rfl (fun ls hl => ?_)
    refine lv_aload_n hx hb dX0_moveSlots_23 rfl (lv_at hl 2 rfl) ?_
    refine va_get (D := D) (ci := 0) (v := .ref (a 1)) (C := RX0) (T := TX0) (N := 17) hx hb hts hin hown hK hP 0 rfl rfl 6 (by decide) (hts (.fieldLink RX0 15 "PodGuideway$Ring" "podInSlot" "[I") (List.mem_of_getElem? (i := 1) rfl)) (fun _ h9 => h9) rfl dX0_moveSlots_24 ?_
    refine lv_iconst (v := 0) hx hb dX0_moveSlots_27 (by decide) ?_
    refine lv_aload_n hx hb dX0_moveSlots_28 rfl (lv_at hl 2 rfl) ?_
    refine va_get (D := D) (ci := 0) (v := .ref (a 1)) (C := RX0) (T := TX0) (N := 17) hx hb hts hin hown hK hP 0 rfl rfl 6 (by decide) (hts (.fieldLink RX0 15 "PodGuideway$Ring" "podInSlot" "[I") (List.mem_of_getElem? (i := 1) rfl)) (fun _ h9 => h9) rfl dX0_moveSlots_29 ?_
    refine lv_iconst (v := 1) hx hb dX0_moveSlots_32 (by decide) ?_
    refine lv_iload_n hx hb dX0_moveSlots_33 rfl (lv_at hl 1 rfl) ?_
    obtain ⟨hcp, hf⟩ := if_g hf
    refine va_copyi (sp := 0) (dp := 1) (n := ((24 : Int32) - 1)) hx hb (hml.trans hl.1.symm) hown (hts (.methodLink RX0 104 arraycopyName) (List.mem_of_getElem? (i := 2) rfl)) (hts (.native arraycopyName) (List.mem_of_getElem? (i := 3) rfl)) (hts (.static arraycopyName) (List.mem_of_getElem? (i := 4) rfl)) (hts (.initialized "java/lang/System") (List.mem_of_getElem? (i := 5) rfl)) hK hP hD hS 1 1 0 0 rfl rfl rfl rfl rfl (cp_1 hcp) (cp_2 hcp) (cp_3 hcp) (cp_4 hcp) (cp_5 hcp) (fun _ _ => rfl) (Nat.le_of_ble_eq_true rfl) (by decide) dX0_moveSlots_34 (fun H locs hP hD hS => ?_)
    obtain ⟨S4, eS4, hf⟩ := lt_ex hf
    have hP : va_P D vwCl (rwl Z a S4) H := by rw [eS4]; exact hP
    have hD : va_D A (rwl Z a S4) := by rw [eS4]; exact hD
    refine lv_aload_n hx hb dX0_moveSlots_37 rfl (lv_at hl 2 rfl) ?_
    refine va_get (D := D) (ci := 0) (v := .ref (a 1)) (C := RX0) (T := TX0) (N := 17) hx hb hts hin hown hK hP 0 rfl rfl 6 (by decide) (hts (.fieldLink RX0 15 "PodGuideway$Ring" "podInSlot" "[I") (List.mem_of_getElem? (i := 1) rfl)) (fun _ h9 => h9) rfl dX0_moveSlots_38 ?_
    refine lv_iconst (v := 0) hx hb dX0_moveSlots_41 (by decide) ?_
    refine lv_iload_n hx hb dX0_moveSlots_42 rfl (lv_at hl 0 rfl) ?_
    obtain ⟨f6, hv5, hf⟩ := ob_some hf
    refine zc_mv1 (k := 1) (e1 := .inl (Z 0, 24, .inl f6)) rfl (z_SD (As := [.ref (a 1), .int 0, .int v3]) (rest := []) ⟨hx, hb, hml, hown, hts⟩ (m_X0_write l D Z (a 1) 24 (S4.2 0) 0 v3 f6 hv5) gX0_moveSlots_X0_write rfl rfl rfl hds_X0_write ⟨Nat.le_of_ble_eq_true rfl, Nat.le_of_ble_eq_true rfl⟩ hK (hP.sub (ws' := [((a 1), .inl (Z 0, 24, .inl (S4.2 0)))]) [1] rfl) (hD.sub (ws' := [((a 1), .inl (Z 0, 24, .inl (S4.2 0)))]) [1] (by decide) rfl) rfl hl.1 rfl (Nat.le_of_ble_eq_true rfl) dX0_moveSlots_43 ⟨Nat.le_of_ble_eq_true rfl, Nat.le_of_ble_eq_true rfl⟩) hP hD hS hA (fun H locs hP hD hS => ?_)
    obtain ⟨S7, eS7, hf⟩ := lt_ex hf
    have hP : va_P D vwCl (rwl Z a S7) H := by rw [eS7]; exact hP
    have hD : va_D A (rwl Z a S7) := by rw [eS7]; exact hD
    exact zw_v hx hb hr hlk hP hD hS (congrArg (fun z => ((rwl Z a z) : va_W)) (Option.some.inj hf)) (Nat.le_of_ble_eq_true rfl) (Nat.le_of_ble_eq_true rfl) dX0_moveSlots_46
  · have hf := if_f hf c1
    exact zw_v hx hb hr hlk hP hD hS (congrArg (fun z => ((rwl Z a z) : va_W)) (Option.some.inj hf)) (Nat.le_of_ble_eq_true rfl) (Nat.le_of_ble_eq_true rfl) dX0_moveSlots_13
def f_X0_letGoOff  (S : RS) (p1 : Int32) : Option (RS) :=
  ob (f_X0_placeOf S p1) fun v2 =>
  ob (f_X0_podAtPlace S v2) fun v4 =>
  if v4 = (-1) then
    some S
  else
    ob (f_X0_goalOf S v4) fun v7 =>
    if v7 = p1 then
      ob (f_X0_firstBerth S p1 0) fun v10 =>
      if v10 = (-1) then
        ob (f_X0_read 12 (S.2 10) v4) fun v32 =>
        ob (f_X0_write 12 (S.2 10) v4 (v32 + 1)) fun f34 =>
        lt (sR S 10 f34) fun (S35 : RS) =>
        some S35
      else
        ob (f_X0_write 24 (S.2 0) v2 (-1)) fun f13 =>
        lt (sR S 0 f13) fun (S14 : RS) =>
        ob (f_X0_write 18 (S14.2 1) v10 v4) fun f16 =>
        lt (sR S14 1 f16) fun (S17 : RS) =>
        ob (f_X0_setGoal S17 v4 (-1)) fun S19 =>
        ob (f_X0_read 12 (S19.2 9) v4) fun v21 =>
        if v21 = (-1) then
          some S19
        else
          ob (f_X0_write 12 (S19.2 9) v4 (-1)) fun f24 =>
          lt (sR S19 9 f24) fun (S25 : RS) =>
          ob (f_X0_read 6 (S25.2 3) p1) fun v27 =>
          ob (f_X0_write 6 (S25.2 3) p1 (v27 + 1)) fun f29 =>
          lt (sR S25 3 f29) fun (S30 : RS) =>
          some S30
    else
      some S
abbrev rm_X0_letGoOff : Room := { frames := 3, cells := 0, slots := 0, locals := 66 }
theorem hdv_X0_letGoOff : yX0_letGoOff.cls = RX0 ∧ yX0_letGoOff.cls ≠ "java/lang/invoke/MethodHandle" ∧ yX0_letGoOff.cls ≠ "java/lang/invoke/VarHandle" ∧ (parseMethodDescriptor yX0_letGoOff.desc).map (fun d => d.parameters.length) = some 1 := by decide +kernel
set_option maxHeartbeats 4000000 in
set_option maxRecDepth 100000 in
theorem m_X0_letGoOff (l : Launch) (D : va_G) (Z : Nat → ClassId) (a : Nat → Nat) (S : RS) (p1 : Int32) (S' : RS) (hf : f_X0_letGoOff S p1 = some S') : RWv l yX0_letGoOff wsX0_letGoOff rm_X0_letGoOff D Z [.ref (a 0), .int p1] (rwl Z a S) (rwl Z a S') 0 0 := by
  refine RWv.of (cc := cX0_letGoOff) (nL := 5) (ret := none) (by decide +kernel) rfl (Nat.le_of_ble_eq_true rfl) ?_
  intro p e s m below meth c A hC hA hP hK hD hS ls hl
  obtain ⟨hx, hb, hr, hml, hown, hts, hlk, -⟩ := hC
  have hown : s.vm.findClass RX0 = some m.cls := hown
  have hin : ∀ w ∈ wsX00, w ∈ wsX0_letGoOff := fun w h => List.mem_cons_of_mem _ (List.mem_append_right _ h)
  have hl : lv_has ls 5 [(0, .ref (a 0)), (1, .int p1)] := hl
  unfold f_X0_letGoOff at hf
  refine lv_aload_n hx hb dX0_letGoOff_0 rfl (lv_at hl 0 rfl) ?_
  refine lv_iload_n hx hb dX0_letGoOff_1 rfl (lv_at hl 1 rfl) ?_
  obtain ⟨v2, hv1, hf⟩ := ob_some hf
  refine zc_i (z_VD (As := [.int p1]) (rest := []) (q0 := 0) (ci := 0) ⟨hx, hb, hml, hown, hts⟩ (m_X0_placeOf l D Z a S p1 v2 hv1) gX0_letGoOff_X0_placeOf rfl rfl rfl hdv_X0_placeOf ⟨Nat.le_of_ble_eq_true rfl, Nat.le_of_ble_eq_true rfl⟩ hK hP hD rfl rfl rfl rfl hl.1 rfl (Nat.le_of_ble_eq_true rfl) dX0_letGoOff_2 ⟨Nat.le_of_ble_eq_true rfl, Nat.le_of_ble_eq_true rfl⟩) hP hS hA (fun H locs hP hS => ?_)
  refine lv_istore_n (lv' := [(2, .int v2), (0, .ref (a 0)), (1, .int p1)]) hx hb dX0_letGoOff_5 rfl hl (by decide) rfl (fun ls hl => ?_)
  refine lv_aload_n hx hb dX0_letGoOff_6 rfl (lv_at hl 1 rfl) ?_
  refine lv_iload_n hx hb dX0_letGoOff_7 rfl (lv_at hl 0 rfl) ?_
  obtain ⟨v4, hv3, hf⟩ := ob_some hf
  refine zc_i (z_VD (As := [.int v2]) (rest := []) (q0 := 0) (ci := 0) ⟨hx, hb, hml, hown, hts⟩ (m_X0_podAtPlace l D Z a S v2 v4 hv3) gX0_letGoOff_X0_podAtPlace rfl rfl rfl hdv_X0_podAtPlace ⟨Nat.le_of_ble_eq_true rfl, Nat.le_of_ble_eq_true rfl⟩ hK hP hD rfl rfl rfl rfl hl.1 rfl (Nat.le_of_ble_eq_true rfl) dX0_letGoOff_8 ⟨Nat.le_of_ble_eq_true rfl, Nat.le_of_ble_eq_true rfl⟩) hP hS hA (fun H locs hP hS => ?_)
  refine lv_istore_n (lv' := [(3, .int v4), (2, .int v2), (0, .ref (a 0)), (1, .int p1)]) hx hb dX0_letGoOff_11 rfl hl (by decide) rfl (fun ls hl => ?_)
  refine lv_iload_n hx hb dX0_letGoOff_12 rfl (lv_at hl 0 rfl) ?_
  refine lv_iconst (v := (-1)) hx hb dX0_letGoOff_13 (by decide) ?_
  refine lv_icmp_eq (tgt := 26) hx hb dX0_letGoOff_14 (by decide) (fun c5 => ?_) (fun c5 => ?_)
  · have hf := if_t hf c5
    exact zw_v hx hb hr hlk hP hD hS (congrArg (fun z => ((rwl Z a z) : va_W)) (Option.some.inj hf)) (Nat.le_of_ble_eq_true rfl) (Nat.le_of_ble_eq_true rfl) dX0_letGoOff_26
  · have hf := if_f hf c5
    refine lv_aload_n hx hb dX0_letGoOff_17 rfl (lv_at hl 2 rfl) ?_
    refine lv_iload_n hx hb dX0_letGoOff_18 rfl (lv_at hl 0 rfl) ?_
    obtain ⟨v7, hv6, hf⟩ := ob_some hf
    refine zc_i (z_VD (As := [.int v4]) (rest := []) (q0 := 0) (ci := 0) ⟨hx, hb, hml, hown, hts⟩ (m_X0_goalOf l D Z a S v4 v7 hv6) gX0_letGoOff_X0_goalOf rfl rfl rfl hdv_X0_goalOf ⟨Nat.le_of_ble_eq_true rfl, Nat.le_of_ble_eq_true rfl⟩ hK hP hD rfl rfl rfl rfl hl.1 rfl (Nat.le_of_ble_eq_true rfl) dX0_letGoOff_19 ⟨Nat.le_of_ble_eq_true rfl, Nat.le_of_ble_eq_true rfl⟩) hP hS hA (fun H locs hP hS => ?_)
    refine lv_iload_n hx hb dX0_letGoOff_22 rfl (lv_at hl 3 rfl) ?_
    refine lv_icmp_eq (tgt := 27) hx hb dX0_letGoOff_23 (by decide) (fun c8 => ?_) (fun c8 => ?_)
    · have hf := if_t hf c8
      refine lv_aload_n hx hb dX0_letGoOff_27 rfl (lv_at hl 2 rfl) ?_
      refine lv_iload_n hx hb dX0_letGoOff_28 rfl (lv_at hl 3 rfl) ?_
      refine lv_iconst (v := 0) hx hb dX0_letGoOff_29 (by decide) ?_
      obtain ⟨v10, hv9, hf⟩ := ob_some hf
      refine zc_i (z_VD (As := [.int p1, .int 0]) (rest := []) (q0 := 0) (ci := 0) ⟨hx, hb, hml, hown, hts⟩ (m_X0_firstBerth l D Z a S p1 0 v10 hv9) gX0_letGoOff_X0_firstBerth rfl rfl rfl hdv_X0_firstBerth ⟨Nat.le_of_ble_eq_true rfl, Nat.le_of_ble_eq_true rfl⟩ hK hP hD rfl rfl rfl rfl hl.1 rfl (Nat.le_of_ble_eq_true rfl) dX0_letGoOff_30 ⟨Nat.le_of_ble_eq_true rfl, Nat.le_of_ble_eq_true rfl⟩) hP hS hA (fun H locs hP hS => ?_)
      refine lv_istore (lv' := [(4, .int v10), (3, .int v4), (2, .int v2), (0, .ref (a 0)), (1, .int p1)]) hx hb dX0_letGoOff_33 hl (by decide) rfl (fun ls hl => ?_)
      refine lv_iload hx hb dX0_letGoOff_35 (lv_at hl 0 rfl) ?_
      refine lv_iconst (v := (-1)) hx hb dX0_letGoOff_37 (by decide) ?_
      refine lv_icmp_ne (tgt := 60) hx hb dX0_letGoOff_38 (by decide) (fun c11 => ?_) (fun c11 => ?_)
      · have hf := if_f hf c11
        refine lv_aload_n hx hb dX0_letGoOff_60 rfl (lv_at hl 3 rfl) ?_
        refine va_get (D := D) (ci := 0) (v := .ref (a 1)) (C := RX0) (T := TX0) (N := 17) hx hb hts hin hown hK hP 0 rfl rfl 6 (by decide) (hts (.fieldLink RX0 15 "PodGuideway$Ring" "podInSlot" "[I") (List.mem_of_getElem? (i := 2) rfl)) (fun _ h9 => h9) rfl dX0_letGoOff_61 ?_
        refine lv_iload_n hx hb dX0_letGoOff_64 rfl (lv_at hl 2 rfl) ?_
        refine lv_iconst (v := (-1)) hx hb dX0_letGoOff_65 (by decide) ?_
        obtain ⟨f13, hv12, hf⟩ := ob_some hf
        refine zc_mv1 (k := 1) (e1 := .inl (Z 0, 24, .inl f13)) rfl (z_SD (As := [.ref (a 1), .int v2, .int (-1)]) (rest := []) ⟨hx, hb, hml, hown, hts⟩ (m_X0_write l D Z (a 1) 24 (S.2 0) v2 (-1) f13 hv12) gX0_letGoOff_X0_write rfl rfl rfl hds_X0_write ⟨Nat.le_of_ble_eq_true rfl, Nat.le_of_ble_eq_true rfl⟩ hK (hP.sub (ws' := [((a 1), .inl (Z 0, 24, .inl (S.2 0)))]) [1] rfl) (hD.sub (ws' := [((a 1), .inl (Z 0, 24, .inl (S.2 0)))]) [1] (by decide) rfl) rfl hl.1 rfl (Nat.le_of_ble_eq_true rfl) dX0_letGoOff_66 ⟨Nat.le_of_ble_eq_true rfl, Nat.le_of_ble_eq_true rfl⟩) hP hD hS hA (fun H locs hP hD hS => ?_)
        obtain ⟨S14, eS14, hf⟩ := lt_ex hf
        have hP : va_P D vwCl (rwl Z a S14) H := by rw [eS14]; exact hP
        have hD : va_D A (rwl Z a S14) := by rw [eS14]; exact hD
        refine lv_aload_n hx hb dX0_letGoOff_69 rfl (lv_at hl 3 rfl) ?_
        refine va_get (D := D) (ci := 0) (v := .ref (a 2)) (C := RX0) (T := TX0) (N := 17) hx hb hts hin hown hK hP 0 rfl rfl 7 (by decide) (hts (.fieldLink RX0 19 "PodGuideway$Ring" "podInBerth" "[I") (List.mem_of_getElem? (i := 3) rfl)) (fun _ h9 => h9) rfl dX0_letGoOff_70 ?_
        refine lv_iload hx hb dX0_letGoOff_73 (lv_at hl 0 rfl) ?_
        refine lv_iload_n hx hb dX0_letGoOff_75 rfl (lv_at hl 1 rfl) ?_
        obtain ⟨f16, hv15, hf⟩ := ob_some hf
        refine zc_mv1 (k := 2) (e1 := .inl (Z 0, 18, .inl f16)) rfl (z_SD (As := [.ref (a 2), .int v10, .int v4]) (rest := []) ⟨hx, hb, hml, hown, hts⟩ (m_X0_write l D Z (a 2) 18 (S14.2 1) v10 v4 f16 hv15) gX0_letGoOff_X0_write rfl rfl rfl hds_X0_write ⟨Nat.le_of_ble_eq_true rfl, Nat.le_of_ble_eq_true rfl⟩ hK (hP.sub (ws' := [((a 2), .inl (Z 0, 18, .inl (S14.2 1)))]) [2] rfl) (hD.sub (ws' := [((a 2), .inl (Z 0, 18, .inl (S14.2 1)))]) [2] (by decide) rfl) rfl hl.1 rfl (Nat.le_of_ble_eq_true rfl) dX0_letGoOff_76 ⟨Nat.le_of_ble_eq_true rfl, Nat.le_of_ble_eq_true rfl⟩) hP hD hS hA (fun H locs hP hD hS => ?_)
        obtain ⟨S17, eS17, hf⟩ := lt_ex hf
        have hP : va_P D vwCl (rwl Z a S17) H := by rw [eS17]; exact hP
        have hD : va_D A (rwl Z a S17) := by rw [eS17]; exact hD
        refine lv_aload_n hx hb dX0_letGoOff_79 rfl (lv_at hl 3 rfl) ?_
        refine lv_iload_n hx hb dX0_letGoOff_80 rfl (lv_at hl 1 rfl) ?_
        refine lv_iconst (v := (-1)) hx hb dX0_letGoOff_81 (by decide) ?_
        obtain ⟨S19, hv18, hf⟩ := ob_some hf
        refine zc_mv0 (z_VD (As := [.int v4, .int (-1)]) (rest := []) (q0 := 0) (ci := 0) ⟨hx, hb, hml, hown, hts⟩ (m_X0_setGoal l D Z a S17 v4 (-1) S19 hv18) gX0_letGoOff_X0_setGoal rfl rfl rfl hdv_X0_setGoal ⟨Nat.le_of_ble_eq_true rfl, Nat.le_of_ble_eq_true rfl⟩ hK hP hD rfl rfl rfl rfl hl.1 rfl (Nat.le_of_ble_eq_true rfl) dX0_letGoOff_82 ⟨Nat.le_of_ble_eq_true rfl, Nat.le_of_ble_eq_true rfl⟩) hD hS hA (fun H locs hP hD hS => ?_)
        refine lv_aload_n hx hb dX0_letGoOff_85 rfl (lv_at hl 3 rfl) ?_
        refine va_get (D := D) (ci := 0) (v := .ref (a 10)) (C := RX0) (T := TX0) (N := 17) hx hb hts hin hown hK hP 0 rfl rfl 15 (by decide) (hts (.fieldLink RX0 43 "PodGuideway$Ring" "podRider" "[I") (List.mem_of_getElem? (i := 4) rfl)) (fun _ h9 => h9) rfl dX0_letGoOff_86 ?_
        refine lv_iload_n hx hb dX0_letGoOff_89 rfl (lv_at hl 1 rfl) ?_
        obtain ⟨v21, hv20, hf⟩ := ob_some hf
        refine zc_i (z_SD (As := [.ref (a 10), .int v4]) (rest := []) ⟨hx, hb, hml, hown, hts⟩ (m_X0_read l D Z (a 10) 12 (S19.2 9) v4 v21 hv20) gX0_letGoOff_X0_read rfl rfl rfl hds_X0_read ⟨Nat.le_of_ble_eq_true rfl, Nat.le_of_ble_eq_true rfl⟩ hK (hP.sub (ws' := [((a 10), .inl (Z 0, 12, .inl (S19.2 9)))]) [10] rfl) (hD.sub (ws' := [((a 10), .inl (Z 0, 12, .inl (S19.2 9)))]) [10] (by decide) rfl) rfl hl.1 rfl (Nat.le_of_ble_eq_true rfl) dX0_letGoOff_90 ⟨Nat.le_of_ble_eq_true rfl, Nat.le_of_ble_eq_true rfl⟩) hP hS hA (fun H locs hP hS => ?_)
        refine lv_iconst (v := (-1)) hx hb dX0_letGoOff_93 (by decide) ?_
        refine lv_icmp_eq (tgt := 124) hx hb dX0_letGoOff_94 (by decide) (fun c22 => ?_) (fun c22 => ?_)
        · have hf := if_t hf c22
          exact zw_v hx hb hr hlk hP hD hS (congrArg (fun z => ((rwl Z a z) : va_W)) (Option.some.inj hf)) (Nat.le_of_ble_eq_true rfl) (Nat.le_of_ble_eq_true rfl) dX0_letGoOff_124
        · have hf := if_f hf c22
          refine lv_aload_n hx hb dX0_letGoOff_97 rfl (lv_at hl 3 rfl) ?_
          refine va_get (D := D) (ci := 0) (v := .ref (a 10)) (C := RX0) (T := TX0) (N := 17) hx hb hts hin hown hK hP 0 rfl rfl 15 (by decide) (hts (.fieldLink RX0 43 "PodGuideway$Ring" "podRider" "[I") (List.mem_of_getElem? (i := 4) rfl)) (fun _ h9 => h9) rfl dX0_letGoOff_98 ?_
          refine lv_iload_n hx hb dX0_letGoOff_101 rfl (lv_at hl 1 rfl) ?_
          refine lv_iconst (v := (-1)) hx hb dX0_letGoOff_102 (by decide) ?_
          obtain ⟨f24, hv23, hf⟩ := ob_some hf
          refine zc_mv1 (k := 10) (e1 := .inl (Z 0, 12, .inl f24)) rfl (z_SD (As := [.ref (a 10), .int v4, .int (-1)]) (rest := []) ⟨hx, hb, hml, hown, hts⟩ (m_X0_write l D Z (a 10) 12 (S19.2 9) v4 (-1) f24 hv23) gX0_letGoOff_X0_write rfl rfl rfl hds_X0_write ⟨Nat.le_of_ble_eq_true rfl, Nat.le_of_ble_eq_true rfl⟩ hK (hP.sub (ws' := [((a 10), .inl (Z 0, 12, .inl (S19.2 9)))]) [10] rfl) (hD.sub (ws' := [((a 10), .inl (Z 0, 12, .inl (S19.2 9)))]) [10] (by decide) rfl) rfl hl.1 rfl (Nat.le_of_ble_eq_true rfl) dX0_letGoOff_103 ⟨Nat.le_of_ble_eq_true rfl, Nat.le_of_ble_eq_true rfl⟩) hP hD hS hA (fun H locs hP hD hS => ?_)
          obtain ⟨S25, eS25, hf⟩ := lt_ex hf
          have hP : va_P D vwCl (rwl Z a S25) H := by rw [eS25]; exact hP
          have hD : va_D A (rwl Z a S25) := by rw [eS25]; exact hD
          refine lv_aload_n hx hb dX0_letGoOff_106 rfl (lv_at hl 3 rfl) ?_
          refine va_get (D := D) (ci := 0) (v := .ref (a 4)) (C := RX0) (T := TX0) (N := 17) hx hb hts hin hown hK hP 0 rfl rfl 9 (by decide) (hts (.fieldLink RX0 25 "PodGuideway$Ring" "stationArrived" "[I") (List.mem_of_getElem? (i := 5) rfl)) (fun _ h9 => h9) rfl dX0_letGoOff_107 ?_
          refine lv_iload_n hx hb dX0_letGoOff_110 rfl (lv_at hl 4 rfl) ?_
          refine lv_aload_n hx hb dX0_letGoOff_111 rfl (lv_at hl 3 rfl) ?_
          refine va_get (D := D) (ci := 0) (v := .ref (a 4)) (C := RX0) (T := TX0) (N := 17) hx hb hts hin hown hK hP 0 rfl rfl 9 (by decide) (hts (.fieldLink RX0 25 "PodGuideway$Ring" "stationArrived" "[I") (List.mem_of_getElem? (i := 5) rfl)) (fun _ h9 => h9) rfl dX0_letGoOff_112 ?_
          refine lv_iload_n hx hb dX0_letGoOff_115 rfl (lv_at hl 4 rfl) ?_
          obtain ⟨v27, hv26, hf⟩ := ob_some hf
          refine zc_i (z_SD (As := [.ref (a 4), .int p1]) (rest := [.int p1, .ref (a 4)]) ⟨hx, hb, hml, hown, hts⟩ (m_X0_read l D Z (a 4) 6 (S25.2 3) p1 v27 hv26) gX0_letGoOff_X0_read rfl rfl rfl hds_X0_read ⟨Nat.le_of_ble_eq_true rfl, Nat.le_of_ble_eq_true rfl⟩ hK (hP.sub (ws' := [((a 4), .inl (Z 0, 6, .inl (S25.2 3)))]) [4] rfl) (hD.sub (ws' := [((a 4), .inl (Z 0, 6, .inl (S25.2 3)))]) [4] (by decide) rfl) rfl hl.1 rfl (Nat.le_of_ble_eq_true rfl) dX0_letGoOff_116 ⟨Nat.le_of_ble_eq_true rfl, Nat.le_of_ble_eq_true rfl⟩) hP hS hA (fun H locs hP hS => ?_)
          refine lv_iconst (v := 1) hx hb dX0_letGoOff_119 (by decide) ?_
          refine lv_iadd hx hb dX0_letGoOff_120 ?_
          obtain ⟨f29, hv28, hf⟩ := ob_some hf
          refine zc_mv1 (k := 4) (e1 := .inl (Z 0, 6, .inl f29)) rfl (z_SD (As := [.ref (a 4), .int p1, .int (v27 + 1)]) (rest := []) ⟨hx, hb, hml, hown, hts⟩ (m_X0_write l D Z (a 4) 6 (S25.2 3) p1 (v27 + 1) f29 hv28) gX0_letGoOff_X0_write rfl rfl rfl hds_X0_write ⟨Nat.le_of_ble_eq_true rfl, Nat.le_of_ble_eq_true rfl⟩ hK (hP.sub (ws' := [((a 4), .inl (Z 0, 6, .inl (S25.2 3)))]) [4] rfl) (hD.sub (ws' := [((a 4), .inl (Z 0, 6, .inl (S25.2 3)))]) [4] (by decide) rfl) rfl hl.1 rfl (Nat.le_of_ble_eq_true rfl) dX0_letGoOff_121 ⟨Nat.le_of_ble_eq_true rfl, Nat.le_of_ble_eq_true rfl⟩) hP hD hS hA (fun H locs hP hD hS => ?_)
          obtain ⟨S30, eS30, hf⟩ := lt_ex hf
          have hP : va_P D vwCl (rwl Z a S30) H := by rw [eS30]; exact hP
          have hD : va_D A (rwl Z a S30) := by rw [eS30]; exact hD
          exact zw_v hx hb hr hlk hP hD hS (congrArg (fun z => ((rwl Z a z) : va_W)) (Option.some.inj hf)) (Nat.le_of_ble_eq_true rfl) (Nat.le_of_ble_eq_true rfl) dX0_letGoOff_124
      · have hf := if_t hf c11
        refine lv_aload_n hx hb dX0_letGoOff_41 rfl (lv_at hl 3 rfl) ?_
        refine va_get (D := D) (ci := 0) (v := .ref (a 11)) (C := RX0) (T := TX0) (N := 17) hx hb hts hin hown hK hP 0 rfl rfl 16 (by decide) (hts (.fieldLink RX0 46 "PodGuideway$Ring" "podBarred" "[I") (List.mem_of_getElem? (i := 1) rfl)) (fun _ h9 => h9) rfl dX0_letGoOff_42 ?_
        refine lv_iload_n hx hb dX0_letGoOff_45 rfl (lv_at hl 1 rfl) ?_
        refine lv_aload_n hx hb dX0_letGoOff_46 rfl (lv_at hl 3 rfl) ?_
        refine va_get (D := D) (ci := 0) (v := .ref (a 11)) (C := RX0) (T := TX0) (N := 17) hx hb hts hin hown hK hP 0 rfl rfl 16 (by decide) (hts (.fieldLink RX0 46 "PodGuideway$Ring" "podBarred" "[I") (List.mem_of_getElem? (i := 1) rfl)) (fun _ h9 => h9) rfl dX0_letGoOff_47 ?_
        refine lv_iload_n hx hb dX0_letGoOff_50 rfl (lv_at hl 1 rfl) ?_
        obtain ⟨v32, hv31, hf⟩ := ob_some hf
        refine zc_i (z_SD (As := [.ref (a 11), .int v4]) (rest := [.int v4, .ref (a 11)]) ⟨hx, hb, hml, hown, hts⟩ (m_X0_read l D Z (a 11) 12 (S.2 10) v4 v32 hv31) gX0_letGoOff_X0_read rfl rfl rfl hds_X0_read ⟨Nat.le_of_ble_eq_true rfl, Nat.le_of_ble_eq_true rfl⟩ hK (hP.sub (ws' := [((a 11), .inl (Z 0, 12, .inl (S.2 10)))]) [11] rfl) (hD.sub (ws' := [((a 11), .inl (Z 0, 12, .inl (S.2 10)))]) [11] (by decide) rfl) rfl hl.1 rfl (Nat.le_of_ble_eq_true rfl) dX0_letGoOff_51 ⟨Nat.le_of_ble_eq_true rfl, Nat.le_of_ble_eq_true rfl⟩) hP hS hA (fun H locs hP hS => ?_)
        refine lv_iconst (v := 1) hx hb dX0_letGoOff_54 (by decide) ?_
        refine lv_iadd hx hb dX0_letGoOff_55 ?_
        obtain ⟨f34, hv33, hf⟩ := ob_some hf
        refine zc_mv1 (k := 11) (e1 := .inl (Z 0, 12, .inl f34)) rfl (z_SD (As := [.ref (a 11), .int v4, .int (v32 + 1)]) (rest := []) ⟨hx, hb, hml, hown, hts⟩ (m_X0_write l D Z (a 11) 12 (S.2 10) v4 (v32 + 1) f34 hv33) gX0_letGoOff_X0_write rfl rfl rfl hds_X0_write ⟨Nat.le_of_ble_eq_true rfl, Nat.le_of_ble_eq_true rfl⟩ hK (hP.sub (ws' := [((a 11), .inl (Z 0, 12, .inl (S.2 10)))]) [11] rfl) (hD.sub (ws' := [((a 11), .inl (Z 0, 12, .inl (S.2 10)))]) [11] (by decide) rfl) rfl hl.1 rfl (Nat.le_of_ble_eq_true rfl) dX0_letGoOff_56 ⟨Nat.le_of_ble_eq_true rfl, Nat.le_of_ble_eq_true rfl⟩) hP hD hS hA (fun H locs hP hD hS => ?_)
        obtain ⟨S35, eS35, hf⟩ := lt_ex hf
        have hP : va_P D vwCl (rwl Z a S35) H := by rw [eS35]; exact hP
        have hD : va_D A (rwl Z a S35) := by rw [eS35]; exact hD
        exact zw_v hx hb hr hlk hP hD hS (congrArg (fun z => ((rwl Z a z) : va_W)) (Option.some.inj hf)) (Nat.le_of_ble_eq_true rfl) (Nat.le_of_ble_eq_true rfl) dX0_letGoOff_59
    · have hf := if_f hf c8
      exact zw_v hx hb hr hlk hP hD hS (congrArg (fun z => ((rwl Z a z) : va_W)) (Option.some.inj hf)) (Nat.le_of_ble_eq_true rfl) (Nat.le_of_ble_eq_true rfl) dX0_letGoOff_26
def f_X0_boardFirst_L61   : Nat → Int32 → Int32 → Int32 → Int32 → RS → Option (RS)
  | 0, _, _, _, _, _ => none
  | n + 1, x1, x3, x4, x5, S =>
    if (x3 + x4) ≤ x5 then
      ob (f_X0_write 6 (S.2 4) x1 x4) fun f17 =>
      lt (sR S 4 f17) fun (S18 : RS) =>
      some S18
    else
      ob (f_X0_read 54 (S.2 5) (x5 + 1)) fun v20 =>
      ob (f_X0_write 54 (S.2 5) x5 v20) fun f22 =>
      lt (sR S 5 f22) fun (S23 : RS) =>
      ob (f_X0_read 54 (S23.2 6) (x5 + 1)) fun v25 =>
      ob (f_X0_write 54 (S23.2 6) x5 v25) fun f27 =>
      lt (sR S23 6 f27) fun (S28 : RS) =>
      ob (f_X0_read 54 (S28.2 7) (x5 + 1)) fun v30 =>
      ob (f_X0_write 54 (S28.2 7) x5 v30) fun f32 =>
      lt (sR S28 7 f32) fun (S33 : RS) =>
      f_X0_boardFirst_L61 n x1 x3 x4 (x5 + 1) S33
def f_X0_boardFirst  (S : RS) (p1 : Int32) (p2 : Int32) : Option (RS) :=
  ob (f_X0_read 54 (S.2 5) (p1 * 9)) fun v2 =>
  ob (f_X0_write 12 (S.2 9) p2 v2) fun f4 =>
  lt (sR S 9 f4) fun (S5 : RS) =>
  ob (f_X0_read 54 (S5.2 6) (p1 * 9)) fun v7 =>
  ob (f_X0_setGoal S5 p2 v7) fun S9 =>
  ob (f_X0_waitedBy S9 p1 0) fun v11 =>
  lt (sI S9 5 ((S9.1 5) + v11)) fun (S12 : RS) =>
  ob (f_X0_waitingAt S12 p1) fun v14 =>
  f_X0_boardFirst_L61 FU p1 (p1 * 9) (v14 - 1) (p1 * 9) S12
abbrev rm_X0_boardFirst : Room := { frames := 2, cells := 0, slots := 0, locals := 45 }
theorem hdv_X0_boardFirst : yX0_boardFirst.cls = RX0 ∧ yX0_boardFirst.cls ≠ "java/lang/invoke/MethodHandle" ∧ yX0_boardFirst.cls ≠ "java/lang/invoke/VarHandle" ∧ (parseMethodDescriptor yX0_boardFirst.desc).map (fun d => d.parameters.length) = some 2 := by decide +kernel
set_option maxHeartbeats 4000000 in
set_option maxRecDepth 100000 in
theorem m_X0_boardFirst (l : Launch) (D : va_G) (Z : Nat → ClassId) (a : Nat → Nat) (S : RS) (p1 : Int32) (p2 : Int32) (S' : RS) (hf : f_X0_boardFirst S p1 p2 = some S') : RWv l yX0_boardFirst wsX0_boardFirst rm_X0_boardFirst D Z [.ref (a 0), .int p1, .int p2] (rwl Z a S) (rwl Z a S') 0 0 := by
  refine RWv.of (cc := cX0_boardFirst) (nL := 6) (ret := none) (by decide +kernel) rfl (Nat.le_of_ble_eq_true rfl) ?_
  intro p e s m below meth c A hC hA hP hK hD hS ls hl
  obtain ⟨hx, hb, hr, hml, hown, hts, hlk, -⟩ := hC
  have hown : s.vm.findClass RX0 = some m.cls := hown
  have hin : ∀ w ∈ wsX00, w ∈ wsX0_boardFirst := fun w h => List.mem_cons_of_mem _ (List.mem_append_right _ h)
  have hl : lv_has ls 6 [(0, .ref (a 0)), (1, .int p1), (2, .int p2)] := hl
  have L61 : ∀ (n : Nat) (x1 : Int32) (x3 : Int32) (x4 : Int32) (x5 : Int32) (S : RS) (H : Heap) (locs : List Loc), va_P D vwCl (rwl Z a S) H → va_D A (rwl Z a S) → va_S A s.heap H locs → ∀ ls : Array Slot, lv_has ls 6 [(0, .ref (a 0)), (1, .int x1), (3, .int x3), (4, .int x4), (5, .int x5)] → f_X0_boardFirst_L61 n x1 x3 x4 x5 S = some S' → W p l e rm_X0_boardFirst s m ([.ref (a 0), .int p1, .int p2] : List Value).toArray below meth c H locs 0 0 (MQ below (zMv D A (rwl Z a S')) ([.ref (a 0), .int p1, .int p2] : List Value).toArray s 0 0 A) (F0 m 61 ls []) := by
    intro n
    induction n with
    | zero =>
      intro x1 x3 x4 x5 S H locs hP hD hS ls hl hf
      exact no_r hf
    | succ n ih =>
      intro x1 x3 x4 x5 S H locs hP hD hS ls hl hf
      rw [f_X0_boardFirst_L61] at hf
      refine lv_iload hx hb dX0_boardFirst_61 (lv_at hl 4 rfl) ?_
      refine lv_iload_n hx hb dX0_boardFirst_63 rfl (lv_at hl 2 rfl) ?_
      refine lv_iload hx hb dX0_boardFirst_64 (lv_at hl 3 rfl) ?_
      refine lv_iadd hx hb dX0_boardFirst_66 ?_
      refine lv_icmp_ge (tgt := 136) hx hb dX0_boardFirst_67 (by decide) (fun c15 => ?_) (fun c15 => ?_)
      · have hf := if_t hf c15
        refine lv_aload_n hx hb dX0_boardFirst_136 rfl (lv_at hl 0 rfl) ?_
        refine va_get (D := D) (ci := 0) (v := .ref (a 5)) (C := RX0) (T := TX0) (N := 17) hx hb hts hin hown hK hP 0 rfl rfl 10 (by decide) (hts (.fieldLink RX0 28 "PodGuideway$Ring" "stationWaiting" "[I") (List.mem_of_getElem? (i := 6) rfl)) (fun _ h9 => h9) rfl dX0_boardFirst_137 ?_
        refine lv_iload_n hx hb dX0_boardFirst_140 rfl (lv_at hl 1 rfl) ?_
        refine lv_iload hx hb dX0_boardFirst_141 (lv_at hl 3 rfl) ?_
        obtain ⟨f17, hv16, hf⟩ := ob_some hf
        refine zc_mv1 (k := 5) (e1 := .inl (Z 0, 6, .inl f17)) rfl (z_SD (As := [.ref (a 5), .int x1, .int x4]) (rest := []) ⟨hx, hb, hml, hown, hts⟩ (m_X0_write l D Z (a 5) 6 (S.2 4) x1 x4 f17 hv16) gX0_boardFirst_X0_write rfl rfl rfl hds_X0_write ⟨Nat.le_of_ble_eq_true rfl, Nat.le_of_ble_eq_true rfl⟩ hK (hP.sub (ws' := [((a 5), .inl (Z 0, 6, .inl (S.2 4)))]) [5] rfl) (hD.sub (ws' := [((a 5), .inl (Z 0, 6, .inl (S.2 4)))]) [5] (by decide) rfl) rfl hl.1 rfl (Nat.le_of_ble_eq_true rfl) dX0_boardFirst_143 ⟨Nat.le_of_ble_eq_true rfl, Nat.le_of_ble_eq_true rfl⟩) hP hD hS hA (fun H locs hP hD hS => ?_)
        obtain ⟨S18, eS18, hf⟩ := lt_ex hf
        have hP : va_P D vwCl (rwl Z a S18) H := by rw [eS18]; exact hP
        have hD : va_D A (rwl Z a S18) := by rw [eS18]; exact hD
        exact zw_v hx hb hr hlk hP hD hS (congrArg (fun z => ((rwl Z a z) : va_W)) (Option.some.inj hf)) (Nat.le_of_ble_eq_true rfl) (Nat.le_of_ble_eq_true rfl) dX0_boardFirst_146
      · have hf := if_f hf c15
        refine lv_aload_n hx hb dX0_boardFirst_70 rfl (lv_at hl 0 rfl) ?_
        refine va_get (D := D) (ci := 0) (v := .ref (a 6)) (C := RX0) (T := TX0) (N := 17) hx hb hts hin hown hK hP 0 rfl rfl 11 (by decide) (hts (.fieldLink RX0 31 "PodGuideway$Ring" "riderNumber" "[I") (List.mem_of_getElem? (i := 2) rfl)) (fun _ h9 => h9) rfl dX0_boardFirst_71 ?_
        refine lv_iload hx hb dX0_boardFirst_74 (lv_at hl 4 rfl) ?_
        refine lv_aload_n hx hb dX0_boardFirst_76 rfl (lv_at hl 0 rfl) ?_
        refine va_get (D := D) (ci := 0) (v := .ref (a 6)) (C := RX0) (T := TX0) (N := 17) hx hb hts hin hown hK hP 0 rfl rfl 11 (by decide) (hts (.fieldLink RX0 31 "PodGuideway$Ring" "riderNumber" "[I") (List.mem_of_getElem? (i := 2) rfl)) (fun _ h9 => h9) rfl dX0_boardFirst_77 ?_
        refine lv_iload hx hb dX0_boardFirst_80 (lv_at hl 4 rfl) ?_
        refine lv_iconst (v := 1) hx hb dX0_boardFirst_82 (by decide) ?_
        refine lv_iadd hx hb dX0_boardFirst_83 ?_
        obtain ⟨v20, hv19, hf⟩ := ob_some hf
        refine zc_i (z_SD (As := [.ref (a 6), .int (x5 + 1)]) (rest := [.int x5, .ref (a 6)]) ⟨hx, hb, hml, hown, hts⟩ (m_X0_read l D Z (a 6) 54 (S.2 5) (x5 + 1) v20 hv19) gX0_boardFirst_X0_read rfl rfl rfl hds_X0_read ⟨Nat.le_of_ble_eq_true rfl, Nat.le_of_ble_eq_true rfl⟩ hK (hP.sub (ws' := [((a 6), .inl (Z 0, 54, .inl (S.2 5)))]) [6] rfl) (hD.sub (ws' := [((a 6), .inl (Z 0, 54, .inl (S.2 5)))]) [6] (by decide) rfl) rfl hl.1 rfl (Nat.le_of_ble_eq_true rfl) dX0_boardFirst_84 ⟨Nat.le_of_ble_eq_true rfl, Nat.le_of_ble_eq_true rfl⟩) hP hS hA (fun H locs hP hS => ?_)
        obtain ⟨f22, hv21, hf⟩ := ob_some hf
        refine zc_mv1 (k := 6) (e1 := .inl (Z 0, 54, .inl f22)) rfl (z_SD (As := [.ref (a 6), .int x5, .int v20]) (rest := []) ⟨hx, hb, hml, hown, hts⟩ (m_X0_write l D Z (a 6) 54 (S.2 5) x5 v20 f22 hv21) gX0_boardFirst_X0_write rfl rfl rfl hds_X0_write ⟨Nat.le_of_ble_eq_true rfl, Nat.le_of_ble_eq_true rfl⟩ hK (hP.sub (ws' := [((a 6), .inl (Z 0, 54, .inl (S.2 5)))]) [6] rfl) (hD.sub (ws' := [((a 6), .inl (Z 0, 54, .inl (S.2 5)))]) [6] (by decide) rfl) rfl hl.1 rfl (Nat.le_of_ble_eq_true rfl) dX0_boardFirst_87 ⟨Nat.le_of_ble_eq_true rfl, Nat.le_of_ble_eq_true rfl⟩) hP hD hS hA (fun H locs hP hD hS => ?_)
        obtain ⟨S23, eS23, hf⟩ := lt_ex hf
        have hP : va_P D vwCl (rwl Z a S23) H := by rw [eS23]; exact hP
        have hD : va_D A (rwl Z a S23) := by rw [eS23]; exact hD
        refine lv_aload_n hx hb dX0_boardFirst_90 rfl (lv_at hl 0 rfl) ?_
        refine va_get (D := D) (ci := 0) (v := .ref (a 7)) (C := RX0) (T := TX0) (N := 17) hx hb hts hin hown hK hP 0 rfl rfl 12 (by decide) (hts (.fieldLink RX0 34 "PodGuideway$Ring" "riderGoal" "[I") (List.mem_of_getElem? (i := 3) rfl)) (fun _ h9 => h9) rfl dX0_boardFirst_91 ?_
        refine lv_iload hx hb dX0_boardFirst_94 (lv_at hl 4 rfl) ?_
        refine lv_aload_n hx hb dX0_boardFirst_96 rfl (lv_at hl 0 rfl) ?_
        refine va_get (D := D) (ci := 0) (v := .ref (a 7)) (C := RX0) (T := TX0) (N := 17) hx hb hts hin hown hK hP 0 rfl rfl 12 (by decide) (hts (.fieldLink RX0 34 "PodGuideway$Ring" "riderGoal" "[I") (List.mem_of_getElem? (i := 3) rfl)) (fun _ h9 => h9) rfl dX0_boardFirst_97 ?_
        refine lv_iload hx hb dX0_boardFirst_100 (lv_at hl 4 rfl) ?_
        refine lv_iconst (v := 1) hx hb dX0_boardFirst_102 (by decide) ?_
        refine lv_iadd hx hb dX0_boardFirst_103 ?_
        obtain ⟨v25, hv24, hf⟩ := ob_some hf
        refine zc_i (z_SD (As := [.ref (a 7), .int (x5 + 1)]) (rest := [.int x5, .ref (a 7)]) ⟨hx, hb, hml, hown, hts⟩ (m_X0_read l D Z (a 7) 54 (S23.2 6) (x5 + 1) v25 hv24) gX0_boardFirst_X0_read rfl rfl rfl hds_X0_read ⟨Nat.le_of_ble_eq_true rfl, Nat.le_of_ble_eq_true rfl⟩ hK (hP.sub (ws' := [((a 7), .inl (Z 0, 54, .inl (S23.2 6)))]) [7] rfl) (hD.sub (ws' := [((a 7), .inl (Z 0, 54, .inl (S23.2 6)))]) [7] (by decide) rfl) rfl hl.1 rfl (Nat.le_of_ble_eq_true rfl) dX0_boardFirst_104 ⟨Nat.le_of_ble_eq_true rfl, Nat.le_of_ble_eq_true rfl⟩) hP hS hA (fun H locs hP hS => ?_)
        obtain ⟨f27, hv26, hf⟩ := ob_some hf
        refine zc_mv1 (k := 7) (e1 := .inl (Z 0, 54, .inl f27)) rfl (z_SD (As := [.ref (a 7), .int x5, .int v25]) (rest := []) ⟨hx, hb, hml, hown, hts⟩ (m_X0_write l D Z (a 7) 54 (S23.2 6) x5 v25 f27 hv26) gX0_boardFirst_X0_write rfl rfl rfl hds_X0_write ⟨Nat.le_of_ble_eq_true rfl, Nat.le_of_ble_eq_true rfl⟩ hK (hP.sub (ws' := [((a 7), .inl (Z 0, 54, .inl (S23.2 6)))]) [7] rfl) (hD.sub (ws' := [((a 7), .inl (Z 0, 54, .inl (S23.2 6)))]) [7] (by decide) rfl) rfl hl.1 rfl (Nat.le_of_ble_eq_true rfl) dX0_boardFirst_107 ⟨Nat.le_of_ble_eq_true rfl, Nat.le_of_ble_eq_true rfl⟩) hP hD hS hA (fun H locs hP hD hS => ?_)
        obtain ⟨S28, eS28, hf⟩ := lt_ex hf
        have hP : va_P D vwCl (rwl Z a S28) H := by rw [eS28]; exact hP
        have hD : va_D A (rwl Z a S28) := by rw [eS28]; exact hD
        refine lv_aload_n hx hb dX0_boardFirst_110 rfl (lv_at hl 0 rfl) ?_
        refine va_get (D := D) (ci := 0) (v := .ref (a 8)) (C := RX0) (T := TX0) (N := 17) hx hb hts hin hown hK hP 0 rfl rfl 13 (by decide) (hts (.fieldLink RX0 37 "PodGuideway$Ring" "riderCame" "[I") (List.mem_of_getElem? (i := 5) rfl)) (fun _ h9 => h9) rfl dX0_boardFirst_111 ?_
        refine lv_iload hx hb dX0_boardFirst_114 (lv_at hl 4 rfl) ?_
        refine lv_aload_n hx hb dX0_boardFirst_116 rfl (lv_at hl 0 rfl) ?_
        refine va_get (D := D) (ci := 0) (v := .ref (a 8)) (C := RX0) (T := TX0) (N := 17) hx hb hts hin hown hK hP 0 rfl rfl 13 (by decide) (hts (.fieldLink RX0 37 "PodGuideway$Ring" "riderCame" "[I") (List.mem_of_getElem? (i := 5) rfl)) (fun _ h9 => h9) rfl dX0_boardFirst_117 ?_
        refine lv_iload hx hb dX0_boardFirst_120 (lv_at hl 4 rfl) ?_
        refine lv_iconst (v := 1) hx hb dX0_boardFirst_122 (by decide) ?_
        refine lv_iadd hx hb dX0_boardFirst_123 ?_
        obtain ⟨v30, hv29, hf⟩ := ob_some hf
        refine zc_i (z_SD (As := [.ref (a 8), .int (x5 + 1)]) (rest := [.int x5, .ref (a 8)]) ⟨hx, hb, hml, hown, hts⟩ (m_X0_read l D Z (a 8) 54 (S28.2 7) (x5 + 1) v30 hv29) gX0_boardFirst_X0_read rfl rfl rfl hds_X0_read ⟨Nat.le_of_ble_eq_true rfl, Nat.le_of_ble_eq_true rfl⟩ hK (hP.sub (ws' := [((a 8), .inl (Z 0, 54, .inl (S28.2 7)))]) [8] rfl) (hD.sub (ws' := [((a 8), .inl (Z 0, 54, .inl (S28.2 7)))]) [8] (by decide) rfl) rfl hl.1 rfl (Nat.le_of_ble_eq_true rfl) dX0_boardFirst_124 ⟨Nat.le_of_ble_eq_true rfl, Nat.le_of_ble_eq_true rfl⟩) hP hS hA (fun H locs hP hS => ?_)
        obtain ⟨f32, hv31, hf⟩ := ob_some hf
        refine zc_mv1 (k := 8) (e1 := .inl (Z 0, 54, .inl f32)) rfl (z_SD (As := [.ref (a 8), .int x5, .int v30]) (rest := []) ⟨hx, hb, hml, hown, hts⟩ (m_X0_write l D Z (a 8) 54 (S28.2 7) x5 v30 f32 hv31) gX0_boardFirst_X0_write rfl rfl rfl hds_X0_write ⟨Nat.le_of_ble_eq_true rfl, Nat.le_of_ble_eq_true rfl⟩ hK (hP.sub (ws' := [((a 8), .inl (Z 0, 54, .inl (S28.2 7)))]) [8] rfl) (hD.sub (ws' := [((a 8), .inl (Z 0, 54, .inl (S28.2 7)))]) [8] (by decide) rfl) rfl hl.1 rfl (Nat.le_of_ble_eq_true rfl) dX0_boardFirst_127 ⟨Nat.le_of_ble_eq_true rfl, Nat.le_of_ble_eq_true rfl⟩) hP hD hS hA (fun H locs hP hD hS => ?_)
        obtain ⟨S33, eS33, hf⟩ := lt_ex hf
        have hP : va_P D vwCl (rwl Z a S33) H := by rw [eS33]; exact hP
        have hD : va_D A (rwl Z a S33) := by rw [eS33]; exact hD
        refine lv_iinc (v := (x5 + 1)) (lv' := [(5, .int (x5 + 1)), (0, .ref (a 0)), (1, .int x1), (3, .int x3), (4, .int x4)]) hx hb dX0_boardFirst_130 hl (k := 4) rfl rfl (by decide) rfl (fun ls hl => ?_)
        refine lv_goto (tgt := 61) hx hb dX0_boardFirst_133 (by decide) ?_
        exact ih x1 x3 x4 (x5 + 1) S33 _ _ hP hD hS ls (lv_sub hl [1, 2, 3, 4, 0] rfl) hf
  unfold f_X0_boardFirst at hf
  refine lv_iload_n hx hb dX0_boardFirst_0 rfl (lv_at hl 1 rfl) ?_
  refine lv_bipush (v := 9) hx hb dX0_boardFirst_1 (by decide) ?_
  refine lv_imul hx hb dX0_boardFirst_3 ?_
  refine lv_istore_n (lv' := [(3, .int (p1 * 9)), (0, .ref (a 0)), (1, .int p1), (2, .int p2)]) hx hb dX0_boardFirst_4 rfl hl (by decide) rfl (fun ls hl => ?_)
  refine lv_aload_n hx hb dX0_boardFirst_5 rfl (lv_at hl 1 rfl) ?_
  refine va_get (D := D) (ci := 0) (v := .ref (a 10)) (C := RX0) (T := TX0) (N := 17) hx hb hts hin hown hK hP 0 rfl rfl 15 (by decide) (hts (.fieldLink RX0 43 "PodGuideway$Ring" "podRider" "[I") (List.mem_of_getElem? (i := 1) rfl)) (fun _ h9 => h9) rfl dX0_boardFirst_6 ?_
  refine lv_iload_n hx hb dX0_boardFirst_9 rfl (lv_at hl 3 rfl) ?_
  refine lv_aload_n hx hb dX0_boardFirst_10 rfl (lv_at hl 1 rfl) ?_
  refine va_get (D := D) (ci := 0) (v := .ref (a 6)) (C := RX0) (T := TX0) (N := 17) hx hb hts hin hown hK hP 0 rfl rfl 11 (by decide) (hts (.fieldLink RX0 31 "PodGuideway$Ring" "riderNumber" "[I") (List.mem_of_getElem? (i := 2) rfl)) (fun _ h9 => h9) rfl dX0_boardFirst_11 ?_
  refine lv_iload_n hx hb dX0_boardFirst_14 rfl (lv_at hl 0 rfl) ?_
  obtain ⟨v2, hv1, hf⟩ := ob_some hf
  refine zc_i (z_SD (As := [.ref (a 6), .int (p1 * 9)]) (rest := [.int p2, .ref (a 10)]) ⟨hx, hb, hml, hown, hts⟩ (m_X0_read l D Z (a 6) 54 (S.2 5) (p1 * 9) v2 hv1) gX0_boardFirst_X0_read rfl rfl rfl hds_X0_read ⟨Nat.le_of_ble_eq_true rfl, Nat.le_of_ble_eq_true rfl⟩ hK (hP.sub (ws' := [((a 6), .inl (Z 0, 54, .inl (S.2 5)))]) [6] rfl) (hD.sub (ws' := [((a 6), .inl (Z 0, 54, .inl (S.2 5)))]) [6] (by decide) rfl) rfl hl.1 rfl (Nat.le_of_ble_eq_true rfl) dX0_boardFirst_15 ⟨Nat.le_of_ble_eq_true rfl, Nat.le_of_ble_eq_true rfl⟩) hP hS hA (fun H locs hP hS => ?_)
  obtain ⟨f4, hv3, hf⟩ := ob_some hf
  refine zc_mv1 (k := 10) (e1 := .inl (Z 0, 12, .inl f4)) rfl (z_SD (As := [.ref (a 10), .int p2, .int v2]) (rest := []) ⟨hx, hb, hml, hown, hts⟩ (m_X0_write l D Z (a 10) 12 (S.2 9) p2 v2 f4 hv3) gX0_boardFirst_X0_write rfl rfl rfl hds_X0_write ⟨Nat.le_of_ble_eq_true rfl, Nat.le_of_ble_eq_true rfl⟩ hK (hP.sub (ws' := [((a 10), .inl (Z 0, 12, .inl (S.2 9)))]) [10] rfl) (hD.sub (ws' := [((a 10), .inl (Z 0, 12, .inl (S.2 9)))]) [10] (by decide) rfl) rfl hl.1 rfl (Nat.le_of_ble_eq_true rfl) dX0_boardFirst_18 ⟨Nat.le_of_ble_eq_true rfl, Nat.le_of_ble_eq_true rfl⟩) hP hD hS hA (fun H locs hP hD hS => ?_)
  obtain ⟨S5, eS5, hf⟩ := lt_ex hf
  have hP : va_P D vwCl (rwl Z a S5) H := by rw [eS5]; exact hP
  have hD : va_D A (rwl Z a S5) := by rw [eS5]; exact hD
  refine lv_aload_n hx hb dX0_boardFirst_21 rfl (lv_at hl 1 rfl) ?_
  refine lv_iload_n hx hb dX0_boardFirst_22 rfl (lv_at hl 3 rfl) ?_
  refine lv_aload_n hx hb dX0_boardFirst_23 rfl (lv_at hl 1 rfl) ?_
  refine va_get (D := D) (ci := 0) (v := .ref (a 7)) (C := RX0) (T := TX0) (N := 17) hx hb hts hin hown hK hP 0 rfl rfl 12 (by decide) (hts (.fieldLink RX0 34 "PodGuideway$Ring" "riderGoal" "[I") (List.mem_of_getElem? (i := 3) rfl)) (fun _ h9 => h9) rfl dX0_boardFirst_24 ?_
  refine lv_iload_n hx hb dX0_boardFirst_27 rfl (lv_at hl 0 rfl) ?_
  obtain ⟨v7, hv6, hf⟩ := ob_some hf
  refine zc_i (z_SD (As := [.ref (a 7), .int (p1 * 9)]) (rest := [.int p2, .ref (a 0)]) ⟨hx, hb, hml, hown, hts⟩ (m_X0_read l D Z (a 7) 54 (S5.2 6) (p1 * 9) v7 hv6) gX0_boardFirst_X0_read rfl rfl rfl hds_X0_read ⟨Nat.le_of_ble_eq_true rfl, Nat.le_of_ble_eq_true rfl⟩ hK (hP.sub (ws' := [((a 7), .inl (Z 0, 54, .inl (S5.2 6)))]) [7] rfl) (hD.sub (ws' := [((a 7), .inl (Z 0, 54, .inl (S5.2 6)))]) [7] (by decide) rfl) rfl hl.1 rfl (Nat.le_of_ble_eq_true rfl) dX0_boardFirst_28 ⟨Nat.le_of_ble_eq_true rfl, Nat.le_of_ble_eq_true rfl⟩) hP hS hA (fun H locs hP hS => ?_)
  obtain ⟨S9, hv8, hf⟩ := ob_some hf
  refine zc_mv0 (z_VD (As := [.int p2, .int v7]) (rest := []) (q0 := 0) (ci := 0) ⟨hx, hb, hml, hown, hts⟩ (m_X0_setGoal l D Z a S5 p2 v7 S9 hv8) gX0_boardFirst_X0_setGoal rfl rfl rfl hdv_X0_setGoal ⟨Nat.le_of_ble_eq_true rfl, Nat.le_of_ble_eq_true rfl⟩ hK hP hD rfl rfl rfl rfl hl.1 rfl (Nat.le_of_ble_eq_true rfl) dX0_boardFirst_31 ⟨Nat.le_of_ble_eq_true rfl, Nat.le_of_ble_eq_true rfl⟩) hD hS hA (fun H locs hP hD hS => ?_)
  refine lv_aload_n hx hb dX0_boardFirst_34 rfl (lv_at hl 1 rfl) ?_
  refine lv_dup hx hb dX0_boardFirst_35 rfl ?_
  refine va_get (D := D) (ci := 0) (v := .int (S9.1 5)) (C := RX0) (T := TX0) (N := 17) hx hb hts hin hown hK hP 0 rfl rfl 5 (by decide) (hts (.fieldLink RX0 65 "PodGuideway$Ring" "waitedBeforeBoarding" "I") (List.mem_of_getElem? (i := 4) rfl)) (fun _ h9 => h9) rfl dX0_boardFirst_36 ?_
  refine lv_aload_n hx hb dX0_boardFirst_39 rfl (lv_at hl 1 rfl) ?_
  refine lv_iload_n hx hb dX0_boardFirst_40 rfl (lv_at hl 2 rfl) ?_
  refine lv_iconst (v := 0) hx hb dX0_boardFirst_41 (by decide) ?_
  obtain ⟨v11, hv10, hf⟩ := ob_some hf
  refine zc_i (z_VD (As := [.int p1, .int 0]) (rest := [.int (S9.1 5), .ref (a 0)]) (q0 := 0) (ci := 0) ⟨hx, hb, hml, hown, hts⟩ (m_X0_waitedBy l D Z a S9 p1 0 v11 hv10) gX0_boardFirst_X0_waitedBy rfl rfl rfl hdv_X0_waitedBy ⟨Nat.le_of_ble_eq_true rfl, Nat.le_of_ble_eq_true rfl⟩ hK hP hD rfl rfl rfl rfl hl.1 rfl (Nat.le_of_ble_eq_true rfl) dX0_boardFirst_42 ⟨Nat.le_of_ble_eq_true rfl, Nat.le_of_ble_eq_true rfl⟩) hP hS hA (fun H locs hP hS => ?_)
  refine lv_iadd hx hb dX0_boardFirst_45 ?_
  refine va_put (D := D) (ci := 0) (v := .int ((S9.1 5) + v11)) (ty := .int) (C := RX0) (T := TX0) (N := 17) hx hb hts hin tyX0 tyX0_ok nmX0 hown hK hP hD hS 0 rfl rfl 5 (by decide) (hts (.fieldLink RX0 65 "PodGuideway$Ring" "waitedBeforeBoarding" "I") (List.mem_of_getElem? (i := 4) rfl)) (fun _ h9 => h9) rfl (by decide +kernel) rfl rfl (Nat.le_of_ble_eq_true rfl) dX0_boardFirst_46 (fun H locs hP hD hS => ?_)
  obtain ⟨S12, eS12, hf⟩ := lt_ex hf
  have hP : va_P D vwCl (rwl Z a S12) H := by rw [eS12]; exact hP
  have hD : va_D A (rwl Z a S12) := by rw [eS12]; exact hD
  refine lv_aload_n hx hb dX0_boardFirst_49 rfl (lv_at hl 1 rfl) ?_
  refine lv_iload_n hx hb dX0_boardFirst_50 rfl (lv_at hl 2 rfl) ?_
  obtain ⟨v14, hv13, hf⟩ := ob_some hf
  refine zc_i (z_VD (As := [.int p1]) (rest := []) (q0 := 0) (ci := 0) ⟨hx, hb, hml, hown, hts⟩ (m_X0_waitingAt l D Z a S12 p1 v14 hv13) gX0_boardFirst_X0_waitingAt rfl rfl rfl hdv_X0_waitingAt ⟨Nat.le_of_ble_eq_true rfl, Nat.le_of_ble_eq_true rfl⟩ hK hP hD rfl rfl rfl rfl hl.1 rfl (Nat.le_of_ble_eq_true rfl) dX0_boardFirst_51 ⟨Nat.le_of_ble_eq_true rfl, Nat.le_of_ble_eq_true rfl⟩) hP hS hA (fun H locs hP hS => ?_)
  refine lv_iconst (v := 1) hx hb dX0_boardFirst_54 (by decide) ?_
  refine lv_isub hx hb dX0_boardFirst_55 ?_
  refine lv_istore (lv' := [(4, .int (v14 - 1)), (3, .int (p1 * 9)), (0, .ref (a 0)), (1, .int p1), (2, .int p2)]) hx hb dX0_boardFirst_56 hl (by decide) rfl (fun ls hl => ?_)
  refine lv_iload_n hx hb dX0_boardFirst_58 rfl (lv_at hl 1 rfl) ?_
  refine lv_istore (lv' := [(5, .int (p1 * 9)), (4, .int (v14 - 1)), (3, .int (p1 * 9)), (0, .ref (a 0)), (1, .int p1), (2, .int p2)]) hx hb dX0_boardFirst_59 hl (by decide) rfl (fun ls hl => ?_)
  exact L61 FU p1 (p1 * 9) (v14 - 1) (p1 * 9) S12 _ _ hP hD hS ls (lv_sub hl [3, 4, 2, 1, 0] rfl) hf
def f_X0_letBoard_L4   : Nat → Int32 → Int32 → RS → Option (RS)
  | 0, _, _, _ => none
  | n + 1, x1, x2, S =>
    if ((x1 + 1) * 3) ≤ x2 then
      some S
    else
      ob (f_X0_waitingAt S x1) fun v3 =>
      if v3 ≤ 0 then
        f_X0_letBoard_L4 n x1 (x2 + 1) S
      else
        ob (f_X0_berthHolds S x2) fun v6 =>
        if v6 = 1 then
          ob (f_X0_read 18 (S.2 1) x2) fun v9 =>
          ob (f_X0_boardFirst S x1 v9) fun S11 =>
          f_X0_letBoard_L4 n x1 (x2 + 1) S11
        else
          f_X0_letBoard_L4 n x1 (x2 + 1) S
def f_X0_letBoard  (S : RS) (p1 : Int32) : Option (RS) :=
  f_X0_letBoard_L4 FU p1 (p1 * 3) S
abbrev rm_X0_letBoard : Room := { frames := 3, cells := 0, slots := 0, locals := 70 }
theorem hdv_X0_letBoard : yX0_letBoard.cls = RX0 ∧ yX0_letBoard.cls ≠ "java/lang/invoke/MethodHandle" ∧ yX0_letBoard.cls ≠ "java/lang/invoke/VarHandle" ∧ (parseMethodDescriptor yX0_letBoard.desc).map (fun d => d.parameters.length) = some 1 := by decide +kernel
set_option maxHeartbeats 4000000 in
set_option maxRecDepth 100000 in
theorem m_X0_letBoard (l : Launch) (D : va_G) (Z : Nat → ClassId) (a : Nat → Nat) (S : RS) (p1 : Int32) (S' : RS) (hf : f_X0_letBoard S p1 = some S') : RWv l yX0_letBoard wsX0_letBoard rm_X0_letBoard D Z [.ref (a 0), .int p1] (rwl Z a S) (rwl Z a S') 0 0 := by
  refine RWv.of (cc := cX0_letBoard) (nL := 3) (ret := none) (by decide +kernel) rfl (Nat.le_of_ble_eq_true rfl) ?_
  intro p e s m below meth c A hC hA hP hK hD hS ls hl
  obtain ⟨hx, hb, hr, hml, hown, hts, hlk, -⟩ := hC
  have hown : s.vm.findClass RX0 = some m.cls := hown
  have hin : ∀ w ∈ wsX00, w ∈ wsX0_letBoard := fun w h => List.mem_cons_of_mem _ (List.mem_append_right _ h)
  have hl : lv_has ls 3 [(0, .ref (a 0)), (1, .int p1)] := hl
  have L4 : ∀ (n : Nat) (x1 : Int32) (x2 : Int32) (S : RS) (H : Heap) (locs : List Loc), va_P D vwCl (rwl Z a S) H → va_D A (rwl Z a S) → va_S A s.heap H locs → ∀ ls : Array Slot, lv_has ls 3 [(0, .ref (a 0)), (1, .int x1), (2, .int x2)] → f_X0_letBoard_L4 n x1 x2 S = some S' → W p l e rm_X0_letBoard s m ([.ref (a 0), .int p1] : List Value).toArray below meth c H locs 0 0 (MQ below (zMv D A (rwl Z a S')) ([.ref (a 0), .int p1] : List Value).toArray s 0 0 A) (F0 m 4 ls []) := by
    intro n
    induction n with
    | zero =>
      intro x1 x2 S H locs hP hD hS ls hl hf
      exact no_r hf
    | succ n ih =>
      intro x1 x2 S H locs hP hD hS ls hl hf
      rw [f_X0_letBoard_L4] at hf
      refine lv_iload_n hx hb dX0_letBoard_4 rfl (lv_at hl 2 rfl) ?_
      refine lv_iload_n hx hb dX0_letBoard_5 rfl (lv_at hl 1 rfl) ?_
      refine lv_iconst (v := 1) hx hb dX0_letBoard_6 (by decide) ?_
      refine lv_iadd hx hb dX0_letBoard_7 ?_
      refine lv_iconst (v := 3) hx hb dX0_letBoard_8 (by decide) ?_
      refine lv_imul hx hb dX0_letBoard_9 ?_
      refine lv_icmp_ge (tgt := 49) hx hb dX0_letBoard_10 (by decide) (fun c1 => ?_) (fun c1 => ?_)
      · have hf := if_t hf c1
        exact zw_v hx hb hr hlk hP hD hS (congrArg (fun z => ((rwl Z a z) : va_W)) (Option.some.inj hf)) (Nat.le_of_ble_eq_true rfl) (Nat.le_of_ble_eq_true rfl) dX0_letBoard_49
      · have hf := if_f hf c1
        refine lv_aload_n hx hb dX0_letBoard_13 rfl (lv_at hl 0 rfl) ?_
        refine lv_iload_n hx hb dX0_letBoard_14 rfl (lv_at hl 1 rfl) ?_
        obtain ⟨v3, hv2, hf⟩ := ob_some hf
        refine zc_i (z_VD (As := [.int x1]) (rest := []) (q0 := 0) (ci := 0) ⟨hx, hb, hml, hown, hts⟩ (m_X0_waitingAt l D Z a S x1 v3 hv2) gX0_letBoard_X0_waitingAt rfl rfl rfl hdv_X0_waitingAt ⟨Nat.le_of_ble_eq_true rfl, Nat.le_of_ble_eq_true rfl⟩ hK hP hD rfl rfl rfl rfl hl.1 rfl (Nat.le_of_ble_eq_true rfl) dX0_letBoard_15 ⟨Nat.le_of_ble_eq_true rfl, Nat.le_of_ble_eq_true rfl⟩) hP hS hA (fun H locs hP hS => ?_)
        refine lv_if_le (tgt := 43) hx hb dX0_letBoard_18 (by decide) (fun c4 => ?_) (fun c4 => ?_)
        · have hf := if_t hf c4
          refine lv_iinc (v := (x2 + 1)) (lv' := [(2, .int (x2 + 1)), (0, .ref (a 0)), (1, .int x1)]) hx hb dX0_letBoard_43 hl (k := 2) rfl rfl (by decide) rfl (fun ls hl => ?_)
          refine lv_goto (tgt := 4) hx hb dX0_letBoard_46 (by decide) ?_
          exact ih x1 (x2 + 1) S _ _ hP hD hS ls (lv_sub hl [1, 2, 0] rfl) hf
        · have hf := if_f hf c4
          refine lv_aload_n hx hb dX0_letBoard_21 rfl (lv_at hl 0 rfl) ?_
          refine lv_iload_n hx hb dX0_letBoard_22 rfl (lv_at hl 2 rfl) ?_
          obtain ⟨v6, hv5, hf⟩ := ob_some hf
          refine zc_i (z_VD (As := [.int x2]) (rest := []) (q0 := 0) (ci := 0) ⟨hx, hb, hml, hown, hts⟩ (m_X0_berthHolds l D Z a S x2 v6 hv5) gX0_letBoard_X0_berthHolds rfl rfl rfl hdv_X0_berthHolds ⟨Nat.le_of_ble_eq_true rfl, Nat.le_of_ble_eq_true rfl⟩ hK hP hD rfl rfl rfl rfl hl.1 rfl (Nat.le_of_ble_eq_true rfl) dX0_letBoard_23 ⟨Nat.le_of_ble_eq_true rfl, Nat.le_of_ble_eq_true rfl⟩) hP hS hA (fun H locs hP hS => ?_)
          refine lv_iconst (v := 1) hx hb dX0_letBoard_26 (by decide) ?_
          refine lv_icmp_ne (tgt := 43) hx hb dX0_letBoard_27 (by decide) (fun c7 => ?_) (fun c7 => ?_)
          · have hf := if_f hf c7
            refine lv_iinc (v := (x2 + 1)) (lv' := [(2, .int (x2 + 1)), (0, .ref (a 0)), (1, .int x1)]) hx hb dX0_letBoard_43 hl (k := 2) rfl rfl (by decide) rfl (fun ls hl => ?_)
            refine lv_goto (tgt := 4) hx hb dX0_letBoard_46 (by decide) ?_
            exact ih x1 (x2 + 1) S _ _ hP hD hS ls (lv_sub hl [1, 2, 0] rfl) hf
          · have hf := if_t hf c7
            refine lv_aload_n hx hb dX0_letBoard_30 rfl (lv_at hl 0 rfl) ?_
            refine lv_iload_n hx hb dX0_letBoard_31 rfl (lv_at hl 1 rfl) ?_
            refine lv_aload_n hx hb dX0_letBoard_32 rfl (lv_at hl 0 rfl) ?_
            refine va_get (D := D) (ci := 0) (v := .ref (a 2)) (C := RX0) (T := TX0) (N := 17) hx hb hts hin hown hK hP 0 rfl rfl 7 (by decide) (hts (.fieldLink RX0 19 "PodGuideway$Ring" "podInBerth" "[I") (List.mem_of_getElem? (i := 1) rfl)) (fun _ h9 => h9) rfl dX0_letBoard_33 ?_
            refine lv_iload_n hx hb dX0_letBoard_36 rfl (lv_at hl 2 rfl) ?_
            obtain ⟨v9, hv8, hf⟩ := ob_some hf
            refine zc_i (z_SD (As := [.ref (a 2), .int x2]) (rest := [.int x1, .ref (a 0)]) ⟨hx, hb, hml, hown, hts⟩ (m_X0_read l D Z (a 2) 18 (S.2 1) x2 v9 hv8) gX0_letBoard_X0_read rfl rfl rfl hds_X0_read ⟨Nat.le_of_ble_eq_true rfl, Nat.le_of_ble_eq_true rfl⟩ hK (hP.sub (ws' := [((a 2), .inl (Z 0, 18, .inl (S.2 1)))]) [2] rfl) (hD.sub (ws' := [((a 2), .inl (Z 0, 18, .inl (S.2 1)))]) [2] (by decide) rfl) rfl hl.1 rfl (Nat.le_of_ble_eq_true rfl) dX0_letBoard_37 ⟨Nat.le_of_ble_eq_true rfl, Nat.le_of_ble_eq_true rfl⟩) hP hS hA (fun H locs hP hS => ?_)
            obtain ⟨S11, hv10, hf⟩ := ob_some hf
            refine zc_mv0 (z_VD (As := [.int x1, .int v9]) (rest := []) (q0 := 0) (ci := 0) ⟨hx, hb, hml, hown, hts⟩ (m_X0_boardFirst l D Z a S x1 v9 S11 hv10) gX0_letBoard_X0_boardFirst rfl rfl rfl hdv_X0_boardFirst ⟨Nat.le_of_ble_eq_true rfl, Nat.le_of_ble_eq_true rfl⟩ hK hP hD rfl rfl rfl rfl hl.1 rfl (Nat.le_of_ble_eq_true rfl) dX0_letBoard_40 ⟨Nat.le_of_ble_eq_true rfl, Nat.le_of_ble_eq_true rfl⟩) hD hS hA (fun H locs hP hD hS => ?_)
            refine lv_iinc (v := (x2 + 1)) (lv' := [(2, .int (x2 + 1)), (0, .ref (a 0)), (1, .int x1)]) hx hb dX0_letBoard_43 hl (k := 2) rfl rfl (by decide) rfl (fun ls hl => ?_)
            refine lv_goto (tgt := 4) hx hb dX0_letBoard_46 (by decide) ?_
            exact ih x1 (x2 + 1) S11 _ _ hP hD hS ls (lv_sub hl [1, 2, 0] rfl) hf
  unfold f_X0_letBoard at hf
  refine lv_iload_n hx hb dX0_letBoard_0 rfl (lv_at hl 1 rfl) ?_
  refine lv_iconst (v := 3) hx hb dX0_letBoard_1 (by decide) ?_
  refine lv_imul hx hb dX0_letBoard_2 ?_
  refine lv_istore_n (lv' := [(2, .int (p1 * 3)), (0, .ref (a 0)), (1, .int p1)]) hx hb dX0_letBoard_3 rfl hl (by decide) rfl (fun ls hl => ?_)
  exact L4 FU p1 (p1 * 3) S _ _ hP hD hS ls (lv_sub hl [1, 2, 0] rfl) hf
def f_X0_letCall  (S : RS) (p1 : Int32) : Option (RS) :=
  ob (f_X0_waitingAt S p1) fun v2 =>
  ob (f_X0_emptyPodsTo S p1) fun v4 =>
  if v4 < v2 then
    ob (f_X0_stationThatAnswers S p1) fun v7 =>
    if v7 = (-1) then
      some S
    else
      ob (f_X0_firstBerth S v7 1) fun v10 =>
      ob (f_X0_read 18 (S.2 1) v10) fun v12 =>
      ob (f_X0_setGoal S v12 p1) fun S14 =>
      lt (sI S14 4 ((S14.1 4) + 1)) fun (S15 : RS) =>
      some S15
  else
    some S
abbrev rm_X0_letCall : Room := { frames := 4, cells := 0, slots := 0, locals := 91 }
theorem hdv_X0_letCall : yX0_letCall.cls = RX0 ∧ yX0_letCall.cls ≠ "java/lang/invoke/MethodHandle" ∧ yX0_letCall.cls ≠ "java/lang/invoke/VarHandle" ∧ (parseMethodDescriptor yX0_letCall.desc).map (fun d => d.parameters.length) = some 1 := by decide +kernel
set_option maxHeartbeats 4000000 in
set_option maxRecDepth 100000 in
theorem m_X0_letCall (l : Launch) (D : va_G) (Z : Nat → ClassId) (a : Nat → Nat) (S : RS) (p1 : Int32) (S' : RS) (hf : f_X0_letCall S p1 = some S') : RWv l yX0_letCall wsX0_letCall rm_X0_letCall D Z [.ref (a 0), .int p1] (rwl Z a S) (rwl Z a S') 0 0 := by
  refine RWv.of (cc := cX0_letCall) (nL := 4) (ret := none) (by decide +kernel) rfl (Nat.le_of_ble_eq_true rfl) ?_
  intro p e s m below meth c A hC hA hP hK hD hS ls hl
  obtain ⟨hx, hb, hr, hml, hown, hts, hlk, -⟩ := hC
  have hown : s.vm.findClass RX0 = some m.cls := hown
  have hin : ∀ w ∈ wsX00, w ∈ wsX0_letCall := fun w h => List.mem_cons_of_mem _ (List.mem_append_right _ h)
  have hl : lv_has ls 4 [(0, .ref (a 0)), (1, .int p1)] := hl
  unfold f_X0_letCall at hf
  refine lv_aload_n hx hb dX0_letCall_0 rfl (lv_at hl 0 rfl) ?_
  refine lv_iload_n hx hb dX0_letCall_1 rfl (lv_at hl 1 rfl) ?_
  obtain ⟨v2, hv1, hf⟩ := ob_some hf
  refine zc_i (z_VD (As := [.int p1]) (rest := []) (q0 := 0) (ci := 0) ⟨hx, hb, hml, hown, hts⟩ (m_X0_waitingAt l D Z a S p1 v2 hv1) gX0_letCall_X0_waitingAt rfl rfl rfl hdv_X0_waitingAt ⟨Nat.le_of_ble_eq_true rfl, Nat.le_of_ble_eq_true rfl⟩ hK hP hD rfl rfl rfl rfl hl.1 rfl (Nat.le_of_ble_eq_true rfl) dX0_letCall_2 ⟨Nat.le_of_ble_eq_true rfl, Nat.le_of_ble_eq_true rfl⟩) hP hS hA (fun H locs hP hS => ?_)
  refine lv_aload_n hx hb dX0_letCall_5 rfl (lv_at hl 0 rfl) ?_
  refine lv_iload_n hx hb dX0_letCall_6 rfl (lv_at hl 1 rfl) ?_
  obtain ⟨v4, hv3, hf⟩ := ob_some hf
  refine zc_i (z_VD (As := [.int p1]) (rest := [.int v2]) (q0 := 0) (ci := 0) ⟨hx, hb, hml, hown, hts⟩ (m_X0_emptyPodsTo l D Z a S p1 v4 hv3) gX0_letCall_X0_emptyPodsTo rfl rfl rfl hdv_X0_emptyPodsTo ⟨Nat.le_of_ble_eq_true rfl, Nat.le_of_ble_eq_true rfl⟩ hK hP hD rfl rfl rfl rfl hl.1 rfl (Nat.le_of_ble_eq_true rfl) dX0_letCall_7 ⟨Nat.le_of_ble_eq_true rfl, Nat.le_of_ble_eq_true rfl⟩) hP hS hA (fun H locs hP hS => ?_)
  refine lv_icmp_gt (tgt := 14) hx hb dX0_letCall_10 (by decide) (fun c5 => ?_) (fun c5 => ?_)
  · have hf := if_t hf c5
    refine lv_aload_n hx hb dX0_letCall_14 rfl (lv_at hl 0 rfl) ?_
    refine lv_iload_n hx hb dX0_letCall_15 rfl (lv_at hl 1 rfl) ?_
    obtain ⟨v7, hv6, hf⟩ := ob_some hf
    refine zc_i (z_VD (As := [.int p1]) (rest := []) (q0 := 0) (ci := 0) ⟨hx, hb, hml, hown, hts⟩ (m_X0_stationThatAnswers l D Z a S p1 v7 hv6) gX0_letCall_X0_stationThatAnswers rfl rfl rfl hdv_X0_stationThatAnswers ⟨Nat.le_of_ble_eq_true rfl, Nat.le_of_ble_eq_true rfl⟩ hK hP hD rfl rfl rfl rfl hl.1 rfl (Nat.le_of_ble_eq_true rfl) dX0_letCall_16 ⟨Nat.le_of_ble_eq_true rfl, Nat.le_of_ble_eq_true rfl⟩) hP hS hA (fun H locs hP hS => ?_)
    refine lv_istore_n (lv' := [(2, .int v7), (0, .ref (a 0)), (1, .int p1)]) hx hb dX0_letCall_19 rfl hl (by decide) rfl (fun ls hl => ?_)
    refine lv_iload_n hx hb dX0_letCall_20 rfl (lv_at hl 0 rfl) ?_
    refine lv_iconst (v := (-1)) hx hb dX0_letCall_21 (by decide) ?_
    refine lv_icmp_ne (tgt := 26) hx hb dX0_letCall_22 (by decide) (fun c8 => ?_) (fun c8 => ?_)
    · have hf := if_f hf c8
      refine lv_aload_n hx hb dX0_letCall_26 rfl (lv_at hl 1 rfl) ?_
      refine va_get (D := D) (ci := 0) (v := .ref (a 2)) (C := RX0) (T := TX0) (N := 17) hx hb hts hin hown hK hP 0 rfl rfl 7 (by decide) (hts (.fieldLink RX0 19 "PodGuideway$Ring" "podInBerth" "[I") (List.mem_of_getElem? (i := 1) rfl)) (fun _ h9 => h9) rfl dX0_letCall_27 ?_
      refine lv_aload_n hx hb dX0_letCall_30 rfl (lv_at hl 1 rfl) ?_
      refine lv_iload_n hx hb dX0_letCall_31 rfl (lv_at hl 0 rfl) ?_
      refine lv_iconst (v := 1) hx hb dX0_letCall_32 (by decide) ?_
      obtain ⟨v10, hv9, hf⟩ := ob_some hf
      refine zc_i (z_VD (As := [.int v7, .int 1]) (rest := [.ref (a 2)]) (q0 := 0) (ci := 0) ⟨hx, hb, hml, hown, hts⟩ (m_X0_firstBerth l D Z a S v7 1 v10 hv9) gX0_letCall_X0_firstBerth rfl rfl rfl hdv_X0_firstBerth ⟨Nat.le_of_ble_eq_true rfl, Nat.le_of_ble_eq_true rfl⟩ hK hP hD rfl rfl rfl rfl hl.1 rfl (Nat.le_of_ble_eq_true rfl) dX0_letCall_33 ⟨Nat.le_of_ble_eq_true rfl, Nat.le_of_ble_eq_true rfl⟩) hP hS hA (fun H locs hP hS => ?_)
      obtain ⟨v12, hv11, hf⟩ := ob_some hf
      refine zc_i (z_SD (As := [.ref (a 2), .int v10]) (rest := []) ⟨hx, hb, hml, hown, hts⟩ (m_X0_read l D Z (a 2) 18 (S.2 1) v10 v12 hv11) gX0_letCall_X0_read rfl rfl rfl hds_X0_read ⟨Nat.le_of_ble_eq_true rfl, Nat.le_of_ble_eq_true rfl⟩ hK (hP.sub (ws' := [((a 2), .inl (Z 0, 18, .inl (S.2 1)))]) [2] rfl) (hD.sub (ws' := [((a 2), .inl (Z 0, 18, .inl (S.2 1)))]) [2] (by decide) rfl) rfl hl.1 rfl (Nat.le_of_ble_eq_true rfl) dX0_letCall_36 ⟨Nat.le_of_ble_eq_true rfl, Nat.le_of_ble_eq_true rfl⟩) hP hS hA (fun H locs hP hS => ?_)
      refine lv_istore_n (lv' := [(3, .int v12), (2, .int v7), (0, .ref (a 0)), (1, .int p1)]) hx hb dX0_letCall_39 rfl hl (by decide) rfl (fun ls hl => ?_)
      refine lv_aload_n hx hb dX0_letCall_40 rfl (lv_at hl 2 rfl) ?_
      refine lv_iload_n hx hb dX0_letCall_41 rfl (lv_at hl 0 rfl) ?_
      refine lv_iload_n hx hb dX0_letCall_42 rfl (lv_at hl 3 rfl) ?_
      obtain ⟨S14, hv13, hf⟩ := ob_some hf
      refine zc_mv0 (z_VD (As := [.int v12, .int p1]) (rest := []) (q0 := 0) (ci := 0) ⟨hx, hb, hml, hown, hts⟩ (m_X0_setGoal l D Z a S v12 p1 S14 hv13) gX0_letCall_X0_setGoal rfl rfl rfl hdv_X0_setGoal ⟨Nat.le_of_ble_eq_true rfl, Nat.le_of_ble_eq_true rfl⟩ hK hP hD rfl rfl rfl rfl hl.1 rfl (Nat.le_of_ble_eq_true rfl) dX0_letCall_43 ⟨Nat.le_of_ble_eq_true rfl, Nat.le_of_ble_eq_true rfl⟩) hD hS hA (fun H locs hP hD hS => ?_)
      refine lv_aload_n hx hb dX0_letCall_46 rfl (lv_at hl 2 rfl) ?_
      refine lv_dup hx hb dX0_letCall_47 rfl ?_
      refine va_get (D := D) (ci := 0) (v := .int (S14.1 4)) (C := RX0) (T := TX0) (N := 17) hx hb hts hin hown hK hP 0 rfl rfl 4 (by decide) (hts (.fieldLink RX0 62 "PodGuideway$Ring" "callsAnswered" "I") (List.mem_of_getElem? (i := 2) rfl)) (fun _ h9 => h9) rfl dX0_letCall_48 ?_
      refine lv_iconst (v := 1) hx hb dX0_letCall_51 (by decide) ?_
      refine lv_iadd hx hb dX0_letCall_52 ?_
      refine va_put (D := D) (ci := 0) (v := .int ((S14.1 4) + 1)) (ty := .int) (C := RX0) (T := TX0) (N := 17) hx hb hts hin tyX0 tyX0_ok nmX0 hown hK hP hD hS 0 rfl rfl 4 (by decide) (hts (.fieldLink RX0 62 "PodGuideway$Ring" "callsAnswered" "I") (List.mem_of_getElem? (i := 2) rfl)) (fun _ h9 => h9) rfl (by decide +kernel) rfl rfl (Nat.le_of_ble_eq_true rfl) dX0_letCall_53 (fun H locs hP hD hS => ?_)
      obtain ⟨S15, eS15, hf⟩ := lt_ex hf
      have hP : va_P D vwCl (rwl Z a S15) H := by rw [eS15]; exact hP
      have hD : va_D A (rwl Z a S15) := by rw [eS15]; exact hD
      exact zw_v hx hb hr hlk hP hD hS (congrArg (fun z => ((rwl Z a z) : va_W)) (Option.some.inj hf)) (Nat.le_of_ble_eq_true rfl) (Nat.le_of_ble_eq_true rfl) dX0_letCall_56
    · have hf := if_t hf c8
      exact zw_v hx hb hr hlk hP hD hS (congrArg (fun z => ((rwl Z a z) : va_W)) (Option.some.inj hf)) (Nat.le_of_ble_eq_true rfl) (Nat.le_of_ble_eq_true rfl) dX0_letCall_25
  · have hf := if_f hf c5
    exact zw_v hx hb hr hlk hP hD hS (congrArg (fun z => ((rwl Z a z) : va_W)) (Option.some.inj hf)) (Nat.le_of_ble_eq_true rfl) (Nat.le_of_ble_eq_true rfl) dX0_letCall_13
def f_X0_letMerge  (S : RS) (p1 : Int32) : Option (RS) :=
  ob (f_X0_placeOf S p1) fun v2 =>
  ob (f_X0_firstBerth S p1 2) fun v4 =>
  if v4 = (-1) then
    some S
  else
    ob (f_X0_podAtPlace S v2) fun v7 =>
    if v7 = (-1) then
      ob (f_X0_read 18 (S.2 1) v4) fun v10 =>
      ob (f_X0_write 24 (S.2 0) v2 v10) fun f12 =>
      lt (sR S 0 f12) fun (S13 : RS) =>
      ob (f_X0_write 18 (S13.2 1) v4 (-1)) fun f15 =>
      lt (sR S13 1 f15) fun (S16 : RS) =>
      some S16
    else
      some S
abbrev rm_X0_letMerge : Room := { frames := 3, cells := 0, slots := 0, locals := 66 }
theorem hdv_X0_letMerge : yX0_letMerge.cls = RX0 ∧ yX0_letMerge.cls ≠ "java/lang/invoke/MethodHandle" ∧ yX0_letMerge.cls ≠ "java/lang/invoke/VarHandle" ∧ (parseMethodDescriptor yX0_letMerge.desc).map (fun d => d.parameters.length) = some 1 := by decide +kernel
set_option maxHeartbeats 4000000 in
set_option maxRecDepth 100000 in
theorem m_X0_letMerge (l : Launch) (D : va_G) (Z : Nat → ClassId) (a : Nat → Nat) (S : RS) (p1 : Int32) (S' : RS) (hf : f_X0_letMerge S p1 = some S') : RWv l yX0_letMerge wsX0_letMerge rm_X0_letMerge D Z [.ref (a 0), .int p1] (rwl Z a S) (rwl Z a S') 0 0 := by
  refine RWv.of (cc := cX0_letMerge) (nL := 4) (ret := none) (by decide +kernel) rfl (Nat.le_of_ble_eq_true rfl) ?_
  intro p e s m below meth c A hC hA hP hK hD hS ls hl
  obtain ⟨hx, hb, hr, hml, hown, hts, hlk, -⟩ := hC
  have hown : s.vm.findClass RX0 = some m.cls := hown
  have hin : ∀ w ∈ wsX00, w ∈ wsX0_letMerge := fun w h => List.mem_cons_of_mem _ (List.mem_append_right _ h)
  have hl : lv_has ls 4 [(0, .ref (a 0)), (1, .int p1)] := hl
  unfold f_X0_letMerge at hf
  refine lv_aload_n hx hb dX0_letMerge_0 rfl (lv_at hl 0 rfl) ?_
  refine lv_iload_n hx hb dX0_letMerge_1 rfl (lv_at hl 1 rfl) ?_
  obtain ⟨v2, hv1, hf⟩ := ob_some hf
  refine zc_i (z_VD (As := [.int p1]) (rest := []) (q0 := 0) (ci := 0) ⟨hx, hb, hml, hown, hts⟩ (m_X0_placeOf l D Z a S p1 v2 hv1) gX0_letMerge_X0_placeOf rfl rfl rfl hdv_X0_placeOf ⟨Nat.le_of_ble_eq_true rfl, Nat.le_of_ble_eq_true rfl⟩ hK hP hD rfl rfl rfl rfl hl.1 rfl (Nat.le_of_ble_eq_true rfl) dX0_letMerge_2 ⟨Nat.le_of_ble_eq_true rfl, Nat.le_of_ble_eq_true rfl⟩) hP hS hA (fun H locs hP hS => ?_)
  refine lv_istore_n (lv' := [(2, .int v2), (0, .ref (a 0)), (1, .int p1)]) hx hb dX0_letMerge_5 rfl hl (by decide) rfl (fun ls hl => ?_)
  refine lv_aload_n hx hb dX0_letMerge_6 rfl (lv_at hl 1 rfl) ?_
  refine lv_iload_n hx hb dX0_letMerge_7 rfl (lv_at hl 2 rfl) ?_
  refine lv_iconst (v := 2) hx hb dX0_letMerge_8 (by decide) ?_
  obtain ⟨v4, hv3, hf⟩ := ob_some hf
  refine zc_i (z_VD (As := [.int p1, .int 2]) (rest := []) (q0 := 0) (ci := 0) ⟨hx, hb, hml, hown, hts⟩ (m_X0_firstBerth l D Z a S p1 2 v4 hv3) gX0_letMerge_X0_firstBerth rfl rfl rfl hdv_X0_firstBerth ⟨Nat.le_of_ble_eq_true rfl, Nat.le_of_ble_eq_true rfl⟩ hK hP hD rfl rfl rfl rfl hl.1 rfl (Nat.le_of_ble_eq_true rfl) dX0_letMerge_9 ⟨Nat.le_of_ble_eq_true rfl, Nat.le_of_ble_eq_true rfl⟩) hP hS hA (fun H locs hP hS => ?_)
  refine lv_istore_n (lv' := [(3, .int v4), (2, .int v2), (0, .ref (a 0)), (1, .int p1)]) hx hb dX0_letMerge_12 rfl hl (by decide) rfl (fun ls hl => ?_)
  refine lv_iload_n hx hb dX0_letMerge_13 rfl (lv_at hl 0 rfl) ?_
  refine lv_iconst (v := (-1)) hx hb dX0_letMerge_14 (by decide) ?_
  refine lv_icmp_eq (tgt := 27) hx hb dX0_letMerge_15 (by decide) (fun c5 => ?_) (fun c5 => ?_)
  · have hf := if_t hf c5
    exact zw_v hx hb hr hlk hP hD hS (congrArg (fun z => ((rwl Z a z) : va_W)) (Option.some.inj hf)) (Nat.le_of_ble_eq_true rfl) (Nat.le_of_ble_eq_true rfl) dX0_letMerge_27
  · have hf := if_f hf c5
    refine lv_aload_n hx hb dX0_letMerge_18 rfl (lv_at hl 2 rfl) ?_
    refine lv_iload_n hx hb dX0_letMerge_19 rfl (lv_at hl 1 rfl) ?_
    obtain ⟨v7, hv6, hf⟩ := ob_some hf
    refine zc_i (z_VD (As := [.int v2]) (rest := []) (q0 := 0) (ci := 0) ⟨hx, hb, hml, hown, hts⟩ (m_X0_podAtPlace l D Z a S v2 v7 hv6) gX0_letMerge_X0_podAtPlace rfl rfl rfl hdv_X0_podAtPlace ⟨Nat.le_of_ble_eq_true rfl, Nat.le_of_ble_eq_true rfl⟩ hK hP hD rfl rfl rfl rfl hl.1 rfl (Nat.le_of_ble_eq_true rfl) dX0_letMerge_20 ⟨Nat.le_of_ble_eq_true rfl, Nat.le_of_ble_eq_true rfl⟩) hP hS hA (fun H locs hP hS => ?_)
    refine lv_iconst (v := (-1)) hx hb dX0_letMerge_23 (by decide) ?_
    refine lv_icmp_eq (tgt := 28) hx hb dX0_letMerge_24 (by decide) (fun c8 => ?_) (fun c8 => ?_)
    · have hf := if_t hf c8
      refine lv_aload_n hx hb dX0_letMerge_28 rfl (lv_at hl 2 rfl) ?_
      refine va_get (D := D) (ci := 0) (v := .ref (a 1)) (C := RX0) (T := TX0) (N := 17) hx hb hts hin hown hK hP 0 rfl rfl 6 (by decide) (hts (.fieldLink RX0 15 "PodGuideway$Ring" "podInSlot" "[I") (List.mem_of_getElem? (i := 1) rfl)) (fun _ h9 => h9) rfl dX0_letMerge_29 ?_
      refine lv_iload_n hx hb dX0_letMerge_32 rfl (lv_at hl 1 rfl) ?_
      refine lv_aload_n hx hb dX0_letMerge_33 rfl (lv_at hl 2 rfl) ?_
      refine va_get (D := D) (ci := 0) (v := .ref (a 2)) (C := RX0) (T := TX0) (N := 17) hx hb hts hin hown hK hP 0 rfl rfl 7 (by decide) (hts (.fieldLink RX0 19 "PodGuideway$Ring" "podInBerth" "[I") (List.mem_of_getElem? (i := 2) rfl)) (fun _ h9 => h9) rfl dX0_letMerge_34 ?_
      refine lv_iload_n hx hb dX0_letMerge_37 rfl (lv_at hl 0 rfl) ?_
      obtain ⟨v10, hv9, hf⟩ := ob_some hf
      refine zc_i (z_SD (As := [.ref (a 2), .int v4]) (rest := [.int v2, .ref (a 1)]) ⟨hx, hb, hml, hown, hts⟩ (m_X0_read l D Z (a 2) 18 (S.2 1) v4 v10 hv9) gX0_letMerge_X0_read rfl rfl rfl hds_X0_read ⟨Nat.le_of_ble_eq_true rfl, Nat.le_of_ble_eq_true rfl⟩ hK (hP.sub (ws' := [((a 2), .inl (Z 0, 18, .inl (S.2 1)))]) [2] rfl) (hD.sub (ws' := [((a 2), .inl (Z 0, 18, .inl (S.2 1)))]) [2] (by decide) rfl) rfl hl.1 rfl (Nat.le_of_ble_eq_true rfl) dX0_letMerge_38 ⟨Nat.le_of_ble_eq_true rfl, Nat.le_of_ble_eq_true rfl⟩) hP hS hA (fun H locs hP hS => ?_)
      obtain ⟨f12, hv11, hf⟩ := ob_some hf
      refine zc_mv1 (k := 1) (e1 := .inl (Z 0, 24, .inl f12)) rfl (z_SD (As := [.ref (a 1), .int v2, .int v10]) (rest := []) ⟨hx, hb, hml, hown, hts⟩ (m_X0_write l D Z (a 1) 24 (S.2 0) v2 v10 f12 hv11) gX0_letMerge_X0_write rfl rfl rfl hds_X0_write ⟨Nat.le_of_ble_eq_true rfl, Nat.le_of_ble_eq_true rfl⟩ hK (hP.sub (ws' := [((a 1), .inl (Z 0, 24, .inl (S.2 0)))]) [1] rfl) (hD.sub (ws' := [((a 1), .inl (Z 0, 24, .inl (S.2 0)))]) [1] (by decide) rfl) rfl hl.1 rfl (Nat.le_of_ble_eq_true rfl) dX0_letMerge_41 ⟨Nat.le_of_ble_eq_true rfl, Nat.le_of_ble_eq_true rfl⟩) hP hD hS hA (fun H locs hP hD hS => ?_)
      obtain ⟨S13, eS13, hf⟩ := lt_ex hf
      have hP : va_P D vwCl (rwl Z a S13) H := by rw [eS13]; exact hP
      have hD : va_D A (rwl Z a S13) := by rw [eS13]; exact hD
      refine lv_aload_n hx hb dX0_letMerge_44 rfl (lv_at hl 2 rfl) ?_
      refine va_get (D := D) (ci := 0) (v := .ref (a 2)) (C := RX0) (T := TX0) (N := 17) hx hb hts hin hown hK hP 0 rfl rfl 7 (by decide) (hts (.fieldLink RX0 19 "PodGuideway$Ring" "podInBerth" "[I") (List.mem_of_getElem? (i := 2) rfl)) (fun _ h9 => h9) rfl dX0_letMerge_45 ?_
      refine lv_iload_n hx hb dX0_letMerge_48 rfl (lv_at hl 0 rfl) ?_
      refine lv_iconst (v := (-1)) hx hb dX0_letMerge_49 (by decide) ?_
      obtain ⟨f15, hv14, hf⟩ := ob_some hf
      refine zc_mv1 (k := 2) (e1 := .inl (Z 0, 18, .inl f15)) rfl (z_SD (As := [.ref (a 2), .int v4, .int (-1)]) (rest := []) ⟨hx, hb, hml, hown, hts⟩ (m_X0_write l D Z (a 2) 18 (S13.2 1) v4 (-1) f15 hv14) gX0_letMerge_X0_write rfl rfl rfl hds_X0_write ⟨Nat.le_of_ble_eq_true rfl, Nat.le_of_ble_eq_true rfl⟩ hK (hP.sub (ws' := [((a 2), .inl (Z 0, 18, .inl (S13.2 1)))]) [2] rfl) (hD.sub (ws' := [((a 2), .inl (Z 0, 18, .inl (S13.2 1)))]) [2] (by decide) rfl) rfl hl.1 rfl (Nat.le_of_ble_eq_true rfl) dX0_letMerge_50 ⟨Nat.le_of_ble_eq_true rfl, Nat.le_of_ble_eq_true rfl⟩) hP hD hS hA (fun H locs hP hD hS => ?_)
      obtain ⟨S16, eS16, hf⟩ := lt_ex hf
      have hP : va_P D vwCl (rwl Z a S16) H := by rw [eS16]; exact hP
      have hD : va_D A (rwl Z a S16) := by rw [eS16]; exact hD
      exact zw_v hx hb hr hlk hP hD hS (congrArg (fun z => ((rwl Z a z) : va_W)) (Option.some.inj hf)) (Nat.le_of_ble_eq_true rfl) (Nat.le_of_ble_eq_true rfl) dX0_letMerge_53
    · have hf := if_f hf c8
      exact zw_v hx hb hr hlk hP hD hS (congrArg (fun z => ((rwl Z a z) : va_W)) (Option.some.inj hf)) (Nat.le_of_ble_eq_true rfl) (Nat.le_of_ble_eq_true rfl) dX0_letMerge_27
def f_X0_passMinute_L69   : Nat → Int32 → RS → Option (RS)
  | 0, _, _ => none
  | n + 1, x1, S =>
    if (S.1 1) ≤ x1 then
      lt (sI S 0 ((S.1 0) + 1)) fun (S7 : RS) =>
      some S7
    else
      ob (f_X0_letMerge S x1) fun S9 =>
      f_X0_passMinute_L69 n (x1 + 1) S9
def f_X0_passMinute_L48   : Nat → Int32 → RS → Option (RS)
  | 0, _, _ => none
  | n + 1, x1, S =>
    if (S.1 1) ≤ x1 then
      f_X0_passMinute_L69 FU 0 S
    else
      ob (f_X0_letCall S x1) fun S11 =>
      f_X0_passMinute_L48 n (x1 + 1) S11
def f_X0_passMinute_L27   : Nat → Int32 → RS → Option (RS)
  | 0, _, _ => none
  | n + 1, x1, S =>
    if (S.1 1) ≤ x1 then
      f_X0_passMinute_L48 FU 0 S
    else
      ob (f_X0_letBoard S x1) fun S13 =>
      f_X0_passMinute_L27 n (x1 + 1) S13
def f_X0_passMinute_L6   : Nat → Int32 → RS → Option (RS)
  | 0, _, _ => none
  | n + 1, x1, S =>
    if (S.1 1) ≤ x1 then
      f_X0_passMinute_L27 FU 0 S
    else
      ob (f_X0_letGoOff S x1) fun S15 =>
      f_X0_passMinute_L6 n (x1 + 1) S15
def f_X0_passMinute  (S : RS)  : Option (RS) :=
  ob (f_X0_moveSlots S) fun S2 =>
  f_X0_passMinute_L6 FU 0 S2
abbrev rm_X0_passMinute : Room := { frames := 5, cells := 0, slots := 0, locals := 114 }
theorem hdv_X0_passMinute : yX0_passMinute.cls = RX0 ∧ yX0_passMinute.cls ≠ "java/lang/invoke/MethodHandle" ∧ yX0_passMinute.cls ≠ "java/lang/invoke/VarHandle" ∧ (parseMethodDescriptor yX0_passMinute.desc).map (fun d => d.parameters.length) = some 0 := by decide +kernel
set_option maxHeartbeats 4000000 in
set_option maxRecDepth 100000 in
theorem m_X0_passMinute (l : Launch) (D : va_G) (Z : Nat → ClassId) (a : Nat → Nat) (S : RS)  (S' : RS) (hf : f_X0_passMinute S = some S') : RWv l yX0_passMinute wsX0_passMinute rm_X0_passMinute D Z [.ref (a 0)] (rwl Z a S) (rwl Z a S') 0 0 := by
  refine RWv.of (cc := cX0_passMinute) (nL := 2) (ret := none) (by decide +kernel) rfl (Nat.le_of_ble_eq_true rfl) ?_
  intro p e s m below meth c A hC hA hP hK hD hS ls hl
  obtain ⟨hx, hb, hr, hml, hown, hts, hlk, -⟩ := hC
  have hown : s.vm.findClass RX0 = some m.cls := hown
  have hin : ∀ w ∈ wsX00, w ∈ wsX0_passMinute := fun w h => List.mem_cons_of_mem _ (List.mem_append_right _ h)
  have hl : lv_has ls 2 [(0, .ref (a 0))] := hl
  have L69 : ∀ (n : Nat) (x1 : Int32) (S : RS) (H : Heap) (locs : List Loc), va_P D vwCl (rwl Z a S) H → va_D A (rwl Z a S) → va_S A s.heap H locs → ∀ ls : Array Slot, lv_has ls 2 [(0, .ref (a 0)), (1, .int x1)] → f_X0_passMinute_L69 n x1 S = some S' → W p l e rm_X0_passMinute s m ([.ref (a 0)] : List Value).toArray below meth c H locs 0 0 (MQ below (zMv D A (rwl Z a S')) ([.ref (a 0)] : List Value).toArray s 0 0 A) (F0 m 69 ls []) := by
    intro n
    induction n with
    | zero =>
      intro x1 S H locs hP hD hS ls hl hf
      exact no_r hf
    | succ n ih =>
      intro x1 S H locs hP hD hS ls hl hf
      rw [f_X0_passMinute_L69] at hf
      refine lv_iload_n hx hb dX0_passMinute_69 rfl (lv_at hl 1 rfl) ?_
      refine lv_aload_n hx hb dX0_passMinute_70 rfl (lv_at hl 0 rfl) ?_
      refine va_get (D := D) (ci := 0) (v := .int (S.1 1)) (C := RX0) (T := TX0) (N := 17) hx hb hts hin hown hK hP 0 rfl rfl 1 (by decide) (hts (.fieldLink RX0 53 "PodGuideway$Ring" "stations" "I") (List.mem_of_getElem? (i := 1) rfl)) (fun _ h9 => h9) rfl dX0_passMinute_71 ?_
      refine lv_icmp_ge (tgt := 88) hx hb dX0_passMinute_74 (by decide) (fun c6 => ?_) (fun c6 => ?_)
      · have hf := if_t hf c6
        refine lv_aload_n hx hb dX0_passMinute_88 rfl (lv_at hl 0 rfl) ?_
        refine lv_dup hx hb dX0_passMinute_89 rfl ?_
        refine va_get (D := D) (ci := 0) (v := .int (S.1 0)) (C := RX0) (T := TX0) (N := 17) hx hb hts hin hown hK hP 0 rfl rfl 0 (by decide) (hts (.fieldLink RX0 49 "PodGuideway$Ring" "minute" "I") (List.mem_of_getElem? (i := 2) rfl)) (fun _ h9 => h9) rfl dX0_passMinute_90 ?_
        refine lv_iconst (v := 1) hx hb dX0_passMinute_93 (by decide) ?_
        refine lv_iadd hx hb dX0_passMinute_94 ?_
        refine va_put (D := D) (ci := 0) (v := .int ((S.1 0) + 1)) (ty := .int) (C := RX0) (T := TX0) (N := 17) hx hb hts hin tyX0 tyX0_ok nmX0 hown hK hP hD hS 0 rfl rfl 0 (by decide) (hts (.fieldLink RX0 49 "PodGuideway$Ring" "minute" "I") (List.mem_of_getElem? (i := 2) rfl)) (fun _ h9 => h9) rfl (by decide +kernel) rfl rfl (Nat.le_of_ble_eq_true rfl) dX0_passMinute_95 (fun H locs hP hD hS => ?_)
        obtain ⟨S7, eS7, hf⟩ := lt_ex hf
        have hP : va_P D vwCl (rwl Z a S7) H := by rw [eS7]; exact hP
        have hD : va_D A (rwl Z a S7) := by rw [eS7]; exact hD
        exact zw_v hx hb hr hlk hP hD hS (congrArg (fun z => ((rwl Z a z) : va_W)) (Option.some.inj hf)) (Nat.le_of_ble_eq_true rfl) (Nat.le_of_ble_eq_true rfl) dX0_passMinute_98
      · have hf := if_f hf c6
        refine lv_aload_n hx hb dX0_passMinute_77 rfl (lv_at hl 0 rfl) ?_
        refine lv_iload_n hx hb dX0_passMinute_78 rfl (lv_at hl 1 rfl) ?_
        obtain ⟨S9, hv8, hf⟩ := ob_some hf
        refine zc_mv0 (z_VD (As := [.int x1]) (rest := []) (q0 := 0) (ci := 0) ⟨hx, hb, hml, hown, hts⟩ (m_X0_letMerge l D Z a S x1 S9 hv8) gX0_passMinute_X0_letMerge rfl rfl rfl hdv_X0_letMerge ⟨Nat.le_of_ble_eq_true rfl, Nat.le_of_ble_eq_true rfl⟩ hK hP hD rfl rfl rfl rfl hl.1 rfl (Nat.le_of_ble_eq_true rfl) dX0_passMinute_79 ⟨Nat.le_of_ble_eq_true rfl, Nat.le_of_ble_eq_true rfl⟩) hD hS hA (fun H locs hP hD hS => ?_)
        refine lv_iinc (v := (x1 + 1)) (lv' := [(1, .int (x1 + 1)), (0, .ref (a 0))]) hx hb dX0_passMinute_82 hl (k := 1) rfl rfl (by decide) rfl (fun ls hl => ?_)
        refine lv_goto (tgt := 69) hx hb dX0_passMinute_85 (by decide) ?_
        exact ih (x1 + 1) S9 _ _ hP hD hS ls (lv_sub hl [1, 0] rfl) hf
  have L48 : ∀ (n : Nat) (x1 : Int32) (S : RS) (H : Heap) (locs : List Loc), va_P D vwCl (rwl Z a S) H → va_D A (rwl Z a S) → va_S A s.heap H locs → ∀ ls : Array Slot, lv_has ls 2 [(0, .ref (a 0)), (1, .int x1)] → f_X0_passMinute_L48 n x1 S = some S' → W p l e rm_X0_passMinute s m ([.ref (a 0)] : List Value).toArray below meth c H locs 0 0 (MQ below (zMv D A (rwl Z a S')) ([.ref (a 0)] : List Value).toArray s 0 0 A) (F0 m 48 ls []) := by
    intro n
    induction n with
    | zero =>
      intro x1 S H locs hP hD hS ls hl hf
      exact no_r hf
    | succ n ih =>
      intro x1 S H locs hP hD hS ls hl hf
      rw [f_X0_passMinute_L48] at hf
      refine lv_iload_n hx hb dX0_passMinute_48 rfl (lv_at hl 1 rfl) ?_
      refine lv_aload_n hx hb dX0_passMinute_49 rfl (lv_at hl 0 rfl) ?_
      refine va_get (D := D) (ci := 0) (v := .int (S.1 1)) (C := RX0) (T := TX0) (N := 17) hx hb hts hin hown hK hP 0 rfl rfl 1 (by decide) (hts (.fieldLink RX0 53 "PodGuideway$Ring" "stations" "I") (List.mem_of_getElem? (i := 1) rfl)) (fun _ h9 => h9) rfl dX0_passMinute_50 ?_
      refine lv_icmp_ge (tgt := 67) hx hb dX0_passMinute_53 (by decide) (fun c5 => ?_) (fun c5 => ?_)
      · have hf := if_t hf c5
        refine lv_iconst (v := 0) hx hb dX0_passMinute_67 (by decide) ?_
        refine lv_istore_n (lv' := [(1, .int 0), (0, .ref (a 0))]) hx hb dX0_passMinute_68 rfl hl (by decide) rfl (fun ls hl => ?_)
        exact L69 FU 0 S _ _ hP hD hS ls (lv_sub hl [1, 0] rfl) hf
      · have hf := if_f hf c5
        refine lv_aload_n hx hb dX0_passMinute_56 rfl (lv_at hl 0 rfl) ?_
        refine lv_iload_n hx hb dX0_passMinute_57 rfl (lv_at hl 1 rfl) ?_
        obtain ⟨S11, hv10, hf⟩ := ob_some hf
        refine zc_mv0 (z_VD (As := [.int x1]) (rest := []) (q0 := 0) (ci := 0) ⟨hx, hb, hml, hown, hts⟩ (m_X0_letCall l D Z a S x1 S11 hv10) gX0_passMinute_X0_letCall rfl rfl rfl hdv_X0_letCall ⟨Nat.le_of_ble_eq_true rfl, Nat.le_of_ble_eq_true rfl⟩ hK hP hD rfl rfl rfl rfl hl.1 rfl (Nat.le_of_ble_eq_true rfl) dX0_passMinute_58 ⟨Nat.le_of_ble_eq_true rfl, Nat.le_of_ble_eq_true rfl⟩) hD hS hA (fun H locs hP hD hS => ?_)
        refine lv_iinc (v := (x1 + 1)) (lv' := [(1, .int (x1 + 1)), (0, .ref (a 0))]) hx hb dX0_passMinute_61 hl (k := 1) rfl rfl (by decide) rfl (fun ls hl => ?_)
        refine lv_goto (tgt := 48) hx hb dX0_passMinute_64 (by decide) ?_
        exact ih (x1 + 1) S11 _ _ hP hD hS ls (lv_sub hl [1, 0] rfl) hf
  have L27 : ∀ (n : Nat) (x1 : Int32) (S : RS) (H : Heap) (locs : List Loc), va_P D vwCl (rwl Z a S) H → va_D A (rwl Z a S) → va_S A s.heap H locs → ∀ ls : Array Slot, lv_has ls 2 [(0, .ref (a 0)), (1, .int x1)] → f_X0_passMinute_L27 n x1 S = some S' → W p l e rm_X0_passMinute s m ([.ref (a 0)] : List Value).toArray below meth c H locs 0 0 (MQ below (zMv D A (rwl Z a S')) ([.ref (a 0)] : List Value).toArray s 0 0 A) (F0 m 27 ls []) := by
    intro n
    induction n with
    | zero =>
      intro x1 S H locs hP hD hS ls hl hf
      exact no_r hf
    | succ n ih =>
      intro x1 S H locs hP hD hS ls hl hf
      rw [f_X0_passMinute_L27] at hf
      refine lv_iload_n hx hb dX0_passMinute_27 rfl (lv_at hl 1 rfl) ?_
      refine lv_aload_n hx hb dX0_passMinute_28 rfl (lv_at hl 0 rfl) ?_
      refine va_get (D := D) (ci := 0) (v := .int (S.1 1)) (C := RX0) (T := TX0) (N := 17) hx hb hts hin hown hK hP 0 rfl rfl 1 (by decide) (hts (.fieldLink RX0 53 "PodGuideway$Ring" "stations" "I") (List.mem_of_getElem? (i := 1) rfl)) (fun _ h9 => h9) rfl dX0_passMinute_29 ?_
      refine lv_icmp_ge (tgt := 46) hx hb dX0_passMinute_32 (by decide) (fun c4 => ?_) (fun c4 => ?_)
      · have hf := if_t hf c4
        refine lv_iconst (v := 0) hx hb dX0_passMinute_46 (by decide) ?_
        refine lv_istore_n (lv' := [(1, .int 0), (0, .ref (a 0))]) hx hb dX0_passMinute_47 rfl hl (by decide) rfl (fun ls hl => ?_)
        exact L48 FU 0 S _ _ hP hD hS ls (lv_sub hl [1, 0] rfl) hf
      · have hf := if_f hf c4
        refine lv_aload_n hx hb dX0_passMinute_35 rfl (lv_at hl 0 rfl) ?_
        refine lv_iload_n hx hb dX0_passMinute_36 rfl (lv_at hl 1 rfl) ?_
        obtain ⟨S13, hv12, hf⟩ := ob_some hf
        refine zc_mv0 (z_VD (As := [.int x1]) (rest := []) (q0 := 0) (ci := 0) ⟨hx, hb, hml, hown, hts⟩ (m_X0_letBoard l D Z a S x1 S13 hv12) gX0_passMinute_X0_letBoard rfl rfl rfl hdv_X0_letBoard ⟨Nat.le_of_ble_eq_true rfl, Nat.le_of_ble_eq_true rfl⟩ hK hP hD rfl rfl rfl rfl hl.1 rfl (Nat.le_of_ble_eq_true rfl) dX0_passMinute_37 ⟨Nat.le_of_ble_eq_true rfl, Nat.le_of_ble_eq_true rfl⟩) hD hS hA (fun H locs hP hD hS => ?_)
        refine lv_iinc (v := (x1 + 1)) (lv' := [(1, .int (x1 + 1)), (0, .ref (a 0))]) hx hb dX0_passMinute_40 hl (k := 1) rfl rfl (by decide) rfl (fun ls hl => ?_)
        refine lv_goto (tgt := 27) hx hb dX0_passMinute_43 (by decide) ?_
        exact ih (x1 + 1) S13 _ _ hP hD hS ls (lv_sub hl [1, 0] rfl) hf
  have L6 : ∀ (n : Nat) (x1 : Int32) (S : RS) (H : Heap) (locs : List Loc), va_P D vwCl (rwl Z a S) H → va_D A (rwl Z a S) → va_S A s.heap H locs → ∀ ls : Array Slot, lv_has ls 2 [(0, .ref (a 0)), (1, .int x1)] → f_X0_passMinute_L6 n x1 S = some S' → W p l e rm_X0_passMinute s m ([.ref (a 0)] : List Value).toArray below meth c H locs 0 0 (MQ below (zMv D A (rwl Z a S')) ([.ref (a 0)] : List Value).toArray s 0 0 A) (F0 m 6 ls []) := by
    intro n
    induction n with
    | zero =>
      intro x1 S H locs hP hD hS ls hl hf
      exact no_r hf
    | succ n ih =>
      intro x1 S H locs hP hD hS ls hl hf
      rw [f_X0_passMinute_L6] at hf
      refine lv_iload_n hx hb dX0_passMinute_6 rfl (lv_at hl 1 rfl) ?_
      refine lv_aload_n hx hb dX0_passMinute_7 rfl (lv_at hl 0 rfl) ?_
      refine va_get (D := D) (ci := 0) (v := .int (S.1 1)) (C := RX0) (T := TX0) (N := 17) hx hb hts hin hown hK hP 0 rfl rfl 1 (by decide) (hts (.fieldLink RX0 53 "PodGuideway$Ring" "stations" "I") (List.mem_of_getElem? (i := 1) rfl)) (fun _ h9 => h9) rfl dX0_passMinute_8 ?_
      refine lv_icmp_ge (tgt := 25) hx hb dX0_passMinute_11 (by decide) (fun c3 => ?_) (fun c3 => ?_)
      · have hf := if_t hf c3
        refine lv_iconst (v := 0) hx hb dX0_passMinute_25 (by decide) ?_
        refine lv_istore_n (lv' := [(1, .int 0), (0, .ref (a 0))]) hx hb dX0_passMinute_26 rfl hl (by decide) rfl (fun ls hl => ?_)
        exact L27 FU 0 S _ _ hP hD hS ls (lv_sub hl [1, 0] rfl) hf
      · have hf := if_f hf c3
        refine lv_aload_n hx hb dX0_passMinute_14 rfl (lv_at hl 0 rfl) ?_
        refine lv_iload_n hx hb dX0_passMinute_15 rfl (lv_at hl 1 rfl) ?_
        obtain ⟨S15, hv14, hf⟩ := ob_some hf
        refine zc_mv0 (z_VD (As := [.int x1]) (rest := []) (q0 := 0) (ci := 0) ⟨hx, hb, hml, hown, hts⟩ (m_X0_letGoOff l D Z a S x1 S15 hv14) gX0_passMinute_X0_letGoOff rfl rfl rfl hdv_X0_letGoOff ⟨Nat.le_of_ble_eq_true rfl, Nat.le_of_ble_eq_true rfl⟩ hK hP hD rfl rfl rfl rfl hl.1 rfl (Nat.le_of_ble_eq_true rfl) dX0_passMinute_16 ⟨Nat.le_of_ble_eq_true rfl, Nat.le_of_ble_eq_true rfl⟩) hD hS hA (fun H locs hP hD hS => ?_)
        refine lv_iinc (v := (x1 + 1)) (lv' := [(1, .int (x1 + 1)), (0, .ref (a 0))]) hx hb dX0_passMinute_19 hl (k := 1) rfl rfl (by decide) rfl (fun ls hl => ?_)
        refine lv_goto (tgt := 6) hx hb dX0_passMinute_22 (by decide) ?_
        exact ih (x1 + 1) S15 _ _ hP hD hS ls (lv_sub hl [1, 0] rfl) hf
  unfold f_X0_passMinute at hf
  refine lv_aload_n hx hb dX0_passMinute_0 rfl (lv_at hl 0 rfl) ?_
  obtain ⟨S2, hv1, hf⟩ := ob_some hf
  refine zc_mv0 (z_VD (As := []) (rest := []) (q0 := 0) (ci := 0) ⟨hx, hb, hml, hown, hts⟩ (m_X0_moveSlots l D Z a S S2 hv1) gX0_passMinute_X0_moveSlots rfl rfl rfl hdv_X0_moveSlots ⟨Nat.le_of_ble_eq_true rfl, Nat.le_of_ble_eq_true rfl⟩ hK hP hD rfl rfl rfl rfl hl.1 rfl (Nat.le_of_ble_eq_true rfl) dX0_passMinute_1 ⟨Nat.le_of_ble_eq_true rfl, Nat.le_of_ble_eq_true rfl⟩) hD hS hA (fun H locs hP hD hS => ?_)
  refine lv_iconst (v := 0) hx hb dX0_passMinute_4 (by decide) ?_
  refine lv_istore_n (lv' := [(1, .int 0), (0, .ref (a 0))]) hx hb dX0_passMinute_5 rfl hl (by decide) rfl (fun ls hl => ?_)
  exact L6 FU 0 S2 _ _ hP hD hS ls (lv_sub hl [1, 0] rfl) hf
def f_X0_copyFrom  (S : RS) (T : RS)  : Option (RS) :=
  lt (sI S 0 (T.1 0)) fun (S1 : RS) =>
  lt (sI S1 1 (T.1 1)) fun (S2 : RS) =>
  lt (sI S2 2 (T.1 2)) fun (S3 : RS) =>
  lt (sI S3 3 (T.1 3)) fun (S4 : RS) =>
  lt (sI S4 4 (T.1 4)) fun (S5 : RS) =>
  lt (sI S5 5 (T.1 5)) fun (S6 : RS) =>
  ob (f_X0_copyRow 24 24 (T.2 0) (S6.2 0)) fun f8 =>
  lt (sR S6 0 f8) fun (S9 : RS) =>
  ob (f_X0_copyRow 18 18 (T.2 1) (S9.2 1)) fun f11 =>
  lt (sR S9 1 f11) fun (S12 : RS) =>
  ob (f_X0_copyRow 6 6 (T.2 2) (S12.2 2)) fun f14 =>
  lt (sR S12 2 f14) fun (S15 : RS) =>
  ob (f_X0_copyRow 6 6 (T.2 3) (S15.2 3)) fun f17 =>
  lt (sR S15 3 f17) fun (S18 : RS) =>
  ob (f_X0_copyRow 6 6 (T.2 4) (S18.2 4)) fun f20 =>
  lt (sR S18 4 f20) fun (S21 : RS) =>
  ob (f_X0_copyRow 54 54 (T.2 5) (S21.2 5)) fun f23 =>
  lt (sR S21 5 f23) fun (S24 : RS) =>
  ob (f_X0_copyRow 54 54 (T.2 6) (S24.2 6)) fun f26 =>
  lt (sR S24 6 f26) fun (S27 : RS) =>
  ob (f_X0_copyRow 54 54 (T.2 7) (S27.2 7)) fun f29 =>
  lt (sR S27 7 f29) fun (S30 : RS) =>
  ob (f_X0_copyRow 12 12 (T.2 8) (S30.2 8)) fun f32 =>
  lt (sR S30 8 f32) fun (S33 : RS) =>
  ob (f_X0_copyRow 12 12 (T.2 9) (S33.2 9)) fun f35 =>
  lt (sR S33 9 f35) fun (S36 : RS) =>
  ob (f_X0_copyRow 12 12 (T.2 10) (S36.2 10)) fun f38 =>
  lt (sR S36 10 f38) fun (S39 : RS) =>
  some S39
abbrev rm_X0_copyFrom : Room := { frames := 2, cells := 0, slots := 0, locals := 101 }
theorem hdv_X0_copyFrom : yX0_copyFrom.cls = RX0 ∧ yX0_copyFrom.cls ≠ "java/lang/invoke/MethodHandle" ∧ yX0_copyFrom.cls ≠ "java/lang/invoke/VarHandle" ∧ (parseMethodDescriptor yX0_copyFrom.desc).map (fun d => d.parameters.length) = some 1 := by decide +kernel
set_option maxHeartbeats 4000000 in
set_option maxRecDepth 100000 in
theorem m_X0_copyFrom (l : Launch) (D : va_G) (Z : Nat → ClassId) (a b : Nat → Nat) (S : RS) (T : RS)  (S' : RS) (hf : f_X0_copyFrom S T = some S') : RWv l yX0_copyFrom wsX0_copyFrom rm_X0_copyFrom D Z [.ref (a 0), .ref (b 0)] (rwl Z a S ++ rwl Z b T) (rwl Z a S' ++ rwl Z b T) 0 0 := by
  refine RWv.of (cc := cX0_copyFrom) (nL := 2) (ret := none) (by decide +kernel) rfl (Nat.le_of_ble_eq_true rfl) ?_
  intro p e s m below meth c A hC hA hP hK hD hS ls hl
  obtain ⟨hx, hb, hr, hml, hown, hts, hlk, -⟩ := hC
  have hown : s.vm.findClass RX0 = some m.cls := hown
  have hin : ∀ w ∈ wsX00, w ∈ wsX0_copyFrom := fun w h => List.mem_cons_of_mem _ (List.mem_append_right _ h)
  have hl : lv_has ls 2 [(0, .ref (a 0)), (1, .ref (b 0))] := hl
  unfold f_X0_copyFrom at hf
  refine lv_aload_n hx hb dX0_copyFrom_0 rfl (lv_at hl 0 rfl) ?_
  refine lv_aload_n hx hb dX0_copyFrom_1 rfl (lv_at hl 1 rfl) ?_
  refine va_get (D := D) (ci := 0) (v := .int (T.1 0)) (C := RX0) (T := TX0) (N := 17) hx hb hts hin hown hK hP 12 rfl rfl 0 (by decide) (hts (.fieldLink RX0 49 "PodGuideway$Ring" "minute" "I") (List.mem_of_getElem? (i := 1) rfl)) (fun _ h9 => h9) rfl dX0_copyFrom_2 ?_
  refine va_put (D := D) (ci := 0) (v := .int (T.1 0)) (ty := .int) (C := RX0) (T := TX0) (N := 17) hx hb hts hin tyX0 tyX0_ok nmX0 hown hK hP hD hS 0 rfl rfl 0 (by decide) (hts (.fieldLink RX0 49 "PodGuideway$Ring" "minute" "I") (List.mem_of_getElem? (i := 1) rfl)) (fun _ h9 => h9) rfl (by decide +kernel) rfl rfl (Nat.le_of_ble_eq_true rfl) dX0_copyFrom_5 (fun H locs hP hD hS => ?_)
  obtain ⟨S1, eS1, hf⟩ := lt_ex hf
  have hP : va_P D vwCl (rwl Z a S1 ++ rwl Z b T) H := by rw [eS1]; exact hP
  have hD : va_D A (rwl Z a S1 ++ rwl Z b T) := by rw [eS1]; exact hD
  refine lv_aload_n hx hb dX0_copyFrom_8 rfl (lv_at hl 0 rfl) ?_
  refine lv_aload_n hx hb dX0_copyFrom_9 rfl (lv_at hl 1 rfl) ?_
  refine va_get (D := D) (ci := 0) (v := .int (T.1 1)) (C := RX0) (T := TX0) (N := 17) hx hb hts hin hown hK hP 12 rfl rfl 1 (by decide) (hts (.fieldLink RX0 53 "PodGuideway$Ring" "stations" "I") (List.mem_of_getElem? (i := 2) rfl)) (fun _ h9 => h9) rfl dX0_copyFrom_10 ?_
  refine va_put (D := D) (ci := 0) (v := .int (T.1 1)) (ty := .int) (C := RX0) (T := TX0) (N := 17) hx hb hts hin tyX0 tyX0_ok nmX0 hown hK hP hD hS 0 rfl rfl 1 (by decide) (hts (.fieldLink RX0 53 "PodGuideway$Ring" "stations" "I") (List.mem_of_getElem? (i := 2) rfl)) (fun _ h9 => h9) rfl (by decide +kernel) rfl rfl (Nat.le_of_ble_eq_true rfl) dX0_copyFrom_13 (fun H locs hP hD hS => ?_)
  obtain ⟨S2, eS2, hf⟩ := lt_ex hf
  have hP : va_P D vwCl (rwl Z a S2 ++ rwl Z b T) H := by rw [eS2]; exact hP
  have hD : va_D A (rwl Z a S2 ++ rwl Z b T) := by rw [eS2]; exact hD
  refine lv_aload_n hx hb dX0_copyFrom_16 rfl (lv_at hl 0 rfl) ?_
  refine lv_aload_n hx hb dX0_copyFrom_17 rfl (lv_at hl 1 rfl) ?_
  refine va_get (D := D) (ci := 0) (v := .int (T.1 2)) (C := RX0) (T := TX0) (N := 17) hx hb hts hin hown hK hP 12 rfl rfl 2 (by decide) (hts (.fieldLink RX0 56 "PodGuideway$Ring" "pods" "I") (List.mem_of_getElem? (i := 3) rfl)) (fun _ h9 => h9) rfl dX0_copyFrom_18 ?_
  refine va_put (D := D) (ci := 0) (v := .int (T.1 2)) (ty := .int) (C := RX0) (T := TX0) (N := 17) hx hb hts hin tyX0 tyX0_ok nmX0 hown hK hP hD hS 0 rfl rfl 2 (by decide) (hts (.fieldLink RX0 56 "PodGuideway$Ring" "pods" "I") (List.mem_of_getElem? (i := 3) rfl)) (fun _ h9 => h9) rfl (by decide +kernel) rfl rfl (Nat.le_of_ble_eq_true rfl) dX0_copyFrom_21 (fun H locs hP hD hS => ?_)
  obtain ⟨S3, eS3, hf⟩ := lt_ex hf
  have hP : va_P D vwCl (rwl Z a S3 ++ rwl Z b T) H := by rw [eS3]; exact hP
  have hD : va_D A (rwl Z a S3 ++ rwl Z b T) := by rw [eS3]; exact hD
  refine lv_aload_n hx hb dX0_copyFrom_24 rfl (lv_at hl 0 rfl) ?_
  refine lv_aload_n hx hb dX0_copyFrom_25 rfl (lv_at hl 1 rfl) ?_
  refine va_get (D := D) (ci := 0) (v := .int (T.1 3)) (C := RX0) (T := TX0) (N := 17) hx hb hts hin hown hK hP 12 rfl rfl 3 (by decide) (hts (.fieldLink RX0 59 "PodGuideway$Ring" "ridersInAll" "I") (List.mem_of_getElem? (i := 4) rfl)) (fun _ h9 => h9) rfl dX0_copyFrom_26 ?_
  refine va_put (D := D) (ci := 0) (v := .int (T.1 3)) (ty := .int) (C := RX0) (T := TX0) (N := 17) hx hb hts hin tyX0 tyX0_ok nmX0 hown hK hP hD hS 0 rfl rfl 3 (by decide) (hts (.fieldLink RX0 59 "PodGuideway$Ring" "ridersInAll" "I") (List.mem_of_getElem? (i := 4) rfl)) (fun _ h9 => h9) rfl (by decide +kernel) rfl rfl (Nat.le_of_ble_eq_true rfl) dX0_copyFrom_29 (fun H locs hP hD hS => ?_)
  obtain ⟨S4, eS4, hf⟩ := lt_ex hf
  have hP : va_P D vwCl (rwl Z a S4 ++ rwl Z b T) H := by rw [eS4]; exact hP
  have hD : va_D A (rwl Z a S4 ++ rwl Z b T) := by rw [eS4]; exact hD
  refine lv_aload_n hx hb dX0_copyFrom_32 rfl (lv_at hl 0 rfl) ?_
  refine lv_aload_n hx hb dX0_copyFrom_33 rfl (lv_at hl 1 rfl) ?_
  refine va_get (D := D) (ci := 0) (v := .int (T.1 4)) (C := RX0) (T := TX0) (N := 17) hx hb hts hin hown hK hP 12 rfl rfl 4 (by decide) (hts (.fieldLink RX0 62 "PodGuideway$Ring" "callsAnswered" "I") (List.mem_of_getElem? (i := 5) rfl)) (fun _ h9 => h9) rfl dX0_copyFrom_34 ?_
  refine va_put (D := D) (ci := 0) (v := .int (T.1 4)) (ty := .int) (C := RX0) (T := TX0) (N := 17) hx hb hts hin tyX0 tyX0_ok nmX0 hown hK hP hD hS 0 rfl rfl 4 (by decide) (hts (.fieldLink RX0 62 "PodGuideway$Ring" "callsAnswered" "I") (List.mem_of_getElem? (i := 5) rfl)) (fun _ h9 => h9) rfl (by decide +kernel) rfl rfl (Nat.le_of_ble_eq_true rfl) dX0_copyFrom_37 (fun H locs hP hD hS => ?_)
  obtain ⟨S5, eS5, hf⟩ := lt_ex hf
  have hP : va_P D vwCl (rwl Z a S5 ++ rwl Z b T) H := by rw [eS5]; exact hP
  have hD : va_D A (rwl Z a S5 ++ rwl Z b T) := by rw [eS5]; exact hD
  refine lv_aload_n hx hb dX0_copyFrom_40 rfl (lv_at hl 0 rfl) ?_
  refine lv_aload_n hx hb dX0_copyFrom_41 rfl (lv_at hl 1 rfl) ?_
  refine va_get (D := D) (ci := 0) (v := .int (T.1 5)) (C := RX0) (T := TX0) (N := 17) hx hb hts hin hown hK hP 12 rfl rfl 5 (by decide) (hts (.fieldLink RX0 65 "PodGuideway$Ring" "waitedBeforeBoarding" "I") (List.mem_of_getElem? (i := 6) rfl)) (fun _ h9 => h9) rfl dX0_copyFrom_42 ?_
  refine va_put (D := D) (ci := 0) (v := .int (T.1 5)) (ty := .int) (C := RX0) (T := TX0) (N := 17) hx hb hts hin tyX0 tyX0_ok nmX0 hown hK hP hD hS 0 rfl rfl 5 (by decide) (hts (.fieldLink RX0 65 "PodGuideway$Ring" "waitedBeforeBoarding" "I") (List.mem_of_getElem? (i := 6) rfl)) (fun _ h9 => h9) rfl (by decide +kernel) rfl rfl (Nat.le_of_ble_eq_true rfl) dX0_copyFrom_45 (fun H locs hP hD hS => ?_)
  obtain ⟨S6, eS6, hf⟩ := lt_ex hf
  have hP : va_P D vwCl (rwl Z a S6 ++ rwl Z b T) H := by rw [eS6]; exact hP
  have hD : va_D A (rwl Z a S6 ++ rwl Z b T) := by rw [eS6]; exact hD
  refine lv_aload_n hx hb dX0_copyFrom_48 rfl (lv_at hl 1 rfl) ?_
  refine va_get (D := D) (ci := 0) (v := .ref (b 1)) (C := RX0) (T := TX0) (N := 17) hx hb hts hin hown hK hP 12 rfl rfl 6 (by decide) (hts (.fieldLink RX0 15 "PodGuideway$Ring" "podInSlot" "[I") (List.mem_of_getElem? (i := 7) rfl)) (fun _ h9 => h9) rfl dX0_copyFrom_49 ?_
  refine lv_aload_n hx hb dX0_copyFrom_52 rfl (lv_at hl 0 rfl) ?_
  refine va_get (D := D) (ci := 0) (v := .ref (a 1)) (C := RX0) (T := TX0) (N := 17) hx hb hts hin hown hK hP 0 rfl rfl 6 (by decide) (hts (.fieldLink RX0 15 "PodGuideway$Ring" "podInSlot" "[I") (List.mem_of_getElem? (i := 7) rfl)) (fun _ h9 => h9) rfl dX0_copyFrom_53 ?_
  obtain ⟨f8, hv7, hf⟩ := ob_some hf
  refine zc_mv2 (k0 := 13) (k := 1) (e1 := .inl (Z 0, 24, .inl f8)) rfl rfl (z_SD (As := [.ref (b 1), .ref (a 1)]) (rest := []) ⟨hx, hb, hml, hown, hts⟩ (m_X0_copyRow l D Z (b 1) 24 (a 1) 24 (T.2 0) (S6.2 0) f8 hv7) gX0_copyFrom_X0_copyRow rfl rfl rfl hds_X0_copyRow ⟨Nat.le_of_ble_eq_true rfl, Nat.le_of_ble_eq_true rfl⟩ hK (hP.sub (ws' := [((b 1), .inl (Z 0, 24, .inl (T.2 0))), ((a 1), .inl (Z 0, 24, .inl (S6.2 0)))]) [13, 1] rfl) (hD.sub (ws' := [((b 1), .inl (Z 0, 24, .inl (T.2 0))), ((a 1), .inl (Z 0, 24, .inl (S6.2 0)))]) [13, 1] (by decide) rfl) rfl hl.1 rfl (Nat.le_of_ble_eq_true rfl) dX0_copyFrom_56 ⟨Nat.le_of_ble_eq_true rfl, Nat.le_of_ble_eq_true rfl⟩) hP hD hS hA (fun H locs hP hD hS => ?_)
  obtain ⟨S9, eS9, hf⟩ := lt_ex hf
  have hP : va_P D vwCl (rwl Z a S9 ++ rwl Z b T) H := by rw [eS9]; exact hP
  have hD : va_D A (rwl Z a S9 ++ rwl Z b T) := by rw [eS9]; exact hD
  refine lv_aload_n hx hb dX0_copyFrom_59 rfl (lv_at hl 1 rfl) ?_
  refine va_get (D := D) (ci := 0) (v := .ref (b 2)) (C := RX0) (T := TX0) (N := 17) hx hb hts hin hown hK hP 12 rfl rfl 7 (by decide) (hts (.fieldLink RX0 19 "PodGuideway$Ring" "podInBerth" "[I") (List.mem_of_getElem? (i := 8) rfl)) (fun _ h9 => h9) rfl dX0_copyFrom_60 ?_
  refine lv_aload_n hx hb dX0_copyFrom_63 rfl (lv_at hl 0 rfl) ?_
  refine va_get (D := D) (ci := 0) (v := .ref (a 2)) (C := RX0) (T := TX0) (N := 17) hx hb hts hin hown hK hP 0 rfl rfl 7 (by decide) (hts (.fieldLink RX0 19 "PodGuideway$Ring" "podInBerth" "[I") (List.mem_of_getElem? (i := 8) rfl)) (fun _ h9 => h9) rfl dX0_copyFrom_64 ?_
  obtain ⟨f11, hv10, hf⟩ := ob_some hf
  refine zc_mv2 (k0 := 14) (k := 2) (e1 := .inl (Z 0, 18, .inl f11)) rfl rfl (z_SD (As := [.ref (b 2), .ref (a 2)]) (rest := []) ⟨hx, hb, hml, hown, hts⟩ (m_X0_copyRow l D Z (b 2) 18 (a 2) 18 (T.2 1) (S9.2 1) f11 hv10) gX0_copyFrom_X0_copyRow rfl rfl rfl hds_X0_copyRow ⟨Nat.le_of_ble_eq_true rfl, Nat.le_of_ble_eq_true rfl⟩ hK (hP.sub (ws' := [((b 2), .inl (Z 0, 18, .inl (T.2 1))), ((a 2), .inl (Z 0, 18, .inl (S9.2 1)))]) [14, 2] rfl) (hD.sub (ws' := [((b 2), .inl (Z 0, 18, .inl (T.2 1))), ((a 2), .inl (Z 0, 18, .inl (S9.2 1)))]) [14, 2] (by decide) rfl) rfl hl.1 rfl (Nat.le_of_ble_eq_true rfl) dX0_copyFrom_67 ⟨Nat.le_of_ble_eq_true rfl, Nat.le_of_ble_eq_true rfl⟩) hP hD hS hA (fun H locs hP hD hS => ?_)
  obtain ⟨S12, eS12, hf⟩ := lt_ex hf
  have hP : va_P D vwCl (rwl Z a S12 ++ rwl Z b T) H := by rw [eS12]; exact hP
  have hD : va_D A (rwl Z a S12 ++ rwl Z b T) := by rw [eS12]; exact hD
  refine lv_aload_n hx hb dX0_copyFrom_70 rfl (lv_at hl 1 rfl) ?_
  refine va_get (D := D) (ci := 0) (v := .ref (b 3)) (C := RX0) (T := TX0) (N := 17) hx hb hts hin hown hK hP 12 rfl rfl 8 (by decide) (hts (.fieldLink RX0 22 "PodGuideway$Ring" "stationPlace" "[I") (List.mem_of_getElem? (i := 9) rfl)) (fun _ h9 => h9) rfl dX0_copyFrom_71 ?_
  refine lv_aload_n hx hb dX0_copyFrom_74 rfl (lv_at hl 0 rfl) ?_
  refine va_get (D := D) (ci := 0) (v := .ref (a 3)) (C := RX0) (T := TX0) (N := 17) hx hb hts hin hown hK hP 0 rfl rfl 8 (by decide) (hts (.fieldLink RX0 22 "PodGuideway$Ring" "stationPlace" "[I") (List.mem_of_getElem? (i := 9) rfl)) (fun _ h9 => h9) rfl dX0_copyFrom_75 ?_
  obtain ⟨f14, hv13, hf⟩ := ob_some hf
  refine zc_mv2 (k0 := 15) (k := 3) (e1 := .inl (Z 0, 6, .inl f14)) rfl rfl (z_SD (As := [.ref (b 3), .ref (a 3)]) (rest := []) ⟨hx, hb, hml, hown, hts⟩ (m_X0_copyRow l D Z (b 3) 6 (a 3) 6 (T.2 2) (S12.2 2) f14 hv13) gX0_copyFrom_X0_copyRow rfl rfl rfl hds_X0_copyRow ⟨Nat.le_of_ble_eq_true rfl, Nat.le_of_ble_eq_true rfl⟩ hK (hP.sub (ws' := [((b 3), .inl (Z 0, 6, .inl (T.2 2))), ((a 3), .inl (Z 0, 6, .inl (S12.2 2)))]) [15, 3] rfl) (hD.sub (ws' := [((b 3), .inl (Z 0, 6, .inl (T.2 2))), ((a 3), .inl (Z 0, 6, .inl (S12.2 2)))]) [15, 3] (by decide) rfl) rfl hl.1 rfl (Nat.le_of_ble_eq_true rfl) dX0_copyFrom_78 ⟨Nat.le_of_ble_eq_true rfl, Nat.le_of_ble_eq_true rfl⟩) hP hD hS hA (fun H locs hP hD hS => ?_)
  obtain ⟨S15, eS15, hf⟩ := lt_ex hf
  have hP : va_P D vwCl (rwl Z a S15 ++ rwl Z b T) H := by rw [eS15]; exact hP
  have hD : va_D A (rwl Z a S15 ++ rwl Z b T) := by rw [eS15]; exact hD
  refine lv_aload_n hx hb dX0_copyFrom_81 rfl (lv_at hl 1 rfl) ?_
  refine va_get (D := D) (ci := 0) (v := .ref (b 4)) (C := RX0) (T := TX0) (N := 17) hx hb hts hin hown hK hP 12 rfl rfl 9 (by decide) (hts (.fieldLink RX0 25 "PodGuideway$Ring" "stationArrived" "[I") (List.mem_of_getElem? (i := 10) rfl)) (fun _ h9 => h9) rfl dX0_copyFrom_82 ?_
  refine lv_aload_n hx hb dX0_copyFrom_85 rfl (lv_at hl 0 rfl) ?_
  refine va_get (D := D) (ci := 0) (v := .ref (a 4)) (C := RX0) (T := TX0) (N := 17) hx hb hts hin hown hK hP 0 rfl rfl 9 (by decide) (hts (.fieldLink RX0 25 "PodGuideway$Ring" "stationArrived" "[I") (List.mem_of_getElem? (i := 10) rfl)) (fun _ h9 => h9) rfl dX0_copyFrom_86 ?_
  obtain ⟨f17, hv16, hf⟩ := ob_some hf
  refine zc_mv2 (k0 := 16) (k := 4) (e1 := .inl (Z 0, 6, .inl f17)) rfl rfl (z_SD (As := [.ref (b 4), .ref (a 4)]) (rest := []) ⟨hx, hb, hml, hown, hts⟩ (m_X0_copyRow l D Z (b 4) 6 (a 4) 6 (T.2 3) (S15.2 3) f17 hv16) gX0_copyFrom_X0_copyRow rfl rfl rfl hds_X0_copyRow ⟨Nat.le_of_ble_eq_true rfl, Nat.le_of_ble_eq_true rfl⟩ hK (hP.sub (ws' := [((b 4), .inl (Z 0, 6, .inl (T.2 3))), ((a 4), .inl (Z 0, 6, .inl (S15.2 3)))]) [16, 4] rfl) (hD.sub (ws' := [((b 4), .inl (Z 0, 6, .inl (T.2 3))), ((a 4), .inl (Z 0, 6, .inl (S15.2 3)))]) [16, 4] (by decide) rfl) rfl hl.1 rfl (Nat.le_of_ble_eq_true rfl) dX0_copyFrom_89 ⟨Nat.le_of_ble_eq_true rfl, Nat.le_of_ble_eq_true rfl⟩) hP hD hS hA (fun H locs hP hD hS => ?_)
  obtain ⟨S18, eS18, hf⟩ := lt_ex hf
  have hP : va_P D vwCl (rwl Z a S18 ++ rwl Z b T) H := by rw [eS18]; exact hP
  have hD : va_D A (rwl Z a S18 ++ rwl Z b T) := by rw [eS18]; exact hD
  refine lv_aload_n hx hb dX0_copyFrom_92 rfl (lv_at hl 1 rfl) ?_
  refine va_get (D := D) (ci := 0) (v := .ref (b 5)) (C := RX0) (T := TX0) (N := 17) hx hb hts hin hown hK hP 12 rfl rfl 10 (by decide) (hts (.fieldLink RX0 28 "PodGuideway$Ring" "stationWaiting" "[I") (List.mem_of_getElem? (i := 11) rfl)) (fun _ h9 => h9) rfl dX0_copyFrom_93 ?_
  refine lv_aload_n hx hb dX0_copyFrom_96 rfl (lv_at hl 0 rfl) ?_
  refine va_get (D := D) (ci := 0) (v := .ref (a 5)) (C := RX0) (T := TX0) (N := 17) hx hb hts hin hown hK hP 0 rfl rfl 10 (by decide) (hts (.fieldLink RX0 28 "PodGuideway$Ring" "stationWaiting" "[I") (List.mem_of_getElem? (i := 11) rfl)) (fun _ h9 => h9) rfl dX0_copyFrom_97 ?_
  obtain ⟨f20, hv19, hf⟩ := ob_some hf
  refine zc_mv2 (k0 := 17) (k := 5) (e1 := .inl (Z 0, 6, .inl f20)) rfl rfl (z_SD (As := [.ref (b 5), .ref (a 5)]) (rest := []) ⟨hx, hb, hml, hown, hts⟩ (m_X0_copyRow l D Z (b 5) 6 (a 5) 6 (T.2 4) (S18.2 4) f20 hv19) gX0_copyFrom_X0_copyRow rfl rfl rfl hds_X0_copyRow ⟨Nat.le_of_ble_eq_true rfl, Nat.le_of_ble_eq_true rfl⟩ hK (hP.sub (ws' := [((b 5), .inl (Z 0, 6, .inl (T.2 4))), ((a 5), .inl (Z 0, 6, .inl (S18.2 4)))]) [17, 5] rfl) (hD.sub (ws' := [((b 5), .inl (Z 0, 6, .inl (T.2 4))), ((a 5), .inl (Z 0, 6, .inl (S18.2 4)))]) [17, 5] (by decide) rfl) rfl hl.1 rfl (Nat.le_of_ble_eq_true rfl) dX0_copyFrom_100 ⟨Nat.le_of_ble_eq_true rfl, Nat.le_of_ble_eq_true rfl⟩) hP hD hS hA (fun H locs hP hD hS => ?_)
  obtain ⟨S21, eS21, hf⟩ := lt_ex hf
  have hP : va_P D vwCl (rwl Z a S21 ++ rwl Z b T) H := by rw [eS21]; exact hP
  have hD : va_D A (rwl Z a S21 ++ rwl Z b T) := by rw [eS21]; exact hD
  refine lv_aload_n hx hb dX0_copyFrom_103 rfl (lv_at hl 1 rfl) ?_
  refine va_get (D := D) (ci := 0) (v := .ref (b 6)) (C := RX0) (T := TX0) (N := 17) hx hb hts hin hown hK hP 12 rfl rfl 11 (by decide) (hts (.fieldLink RX0 31 "PodGuideway$Ring" "riderNumber" "[I") (List.mem_of_getElem? (i := 12) rfl)) (fun _ h9 => h9) rfl dX0_copyFrom_104 ?_
  refine lv_aload_n hx hb dX0_copyFrom_107 rfl (lv_at hl 0 rfl) ?_
  refine va_get (D := D) (ci := 0) (v := .ref (a 6)) (C := RX0) (T := TX0) (N := 17) hx hb hts hin hown hK hP 0 rfl rfl 11 (by decide) (hts (.fieldLink RX0 31 "PodGuideway$Ring" "riderNumber" "[I") (List.mem_of_getElem? (i := 12) rfl)) (fun _ h9 => h9) rfl dX0_copyFrom_108 ?_
  obtain ⟨f23, hv22, hf⟩ := ob_some hf
  refine zc_mv2 (k0 := 18) (k := 6) (e1 := .inl (Z 0, 54, .inl f23)) rfl rfl (z_SD (As := [.ref (b 6), .ref (a 6)]) (rest := []) ⟨hx, hb, hml, hown, hts⟩ (m_X0_copyRow l D Z (b 6) 54 (a 6) 54 (T.2 5) (S21.2 5) f23 hv22) gX0_copyFrom_X0_copyRow rfl rfl rfl hds_X0_copyRow ⟨Nat.le_of_ble_eq_true rfl, Nat.le_of_ble_eq_true rfl⟩ hK (hP.sub (ws' := [((b 6), .inl (Z 0, 54, .inl (T.2 5))), ((a 6), .inl (Z 0, 54, .inl (S21.2 5)))]) [18, 6] rfl) (hD.sub (ws' := [((b 6), .inl (Z 0, 54, .inl (T.2 5))), ((a 6), .inl (Z 0, 54, .inl (S21.2 5)))]) [18, 6] (by decide) rfl) rfl hl.1 rfl (Nat.le_of_ble_eq_true rfl) dX0_copyFrom_111 ⟨Nat.le_of_ble_eq_true rfl, Nat.le_of_ble_eq_true rfl⟩) hP hD hS hA (fun H locs hP hD hS => ?_)
  obtain ⟨S24, eS24, hf⟩ := lt_ex hf
  have hP : va_P D vwCl (rwl Z a S24 ++ rwl Z b T) H := by rw [eS24]; exact hP
  have hD : va_D A (rwl Z a S24 ++ rwl Z b T) := by rw [eS24]; exact hD
  refine lv_aload_n hx hb dX0_copyFrom_114 rfl (lv_at hl 1 rfl) ?_
  refine va_get (D := D) (ci := 0) (v := .ref (b 7)) (C := RX0) (T := TX0) (N := 17) hx hb hts hin hown hK hP 12 rfl rfl 12 (by decide) (hts (.fieldLink RX0 34 "PodGuideway$Ring" "riderGoal" "[I") (List.mem_of_getElem? (i := 13) rfl)) (fun _ h9 => h9) rfl dX0_copyFrom_115 ?_
  refine lv_aload_n hx hb dX0_copyFrom_118 rfl (lv_at hl 0 rfl) ?_
  refine va_get (D := D) (ci := 0) (v := .ref (a 7)) (C := RX0) (T := TX0) (N := 17) hx hb hts hin hown hK hP 0 rfl rfl 12 (by decide) (hts (.fieldLink RX0 34 "PodGuideway$Ring" "riderGoal" "[I") (List.mem_of_getElem? (i := 13) rfl)) (fun _ h9 => h9) rfl dX0_copyFrom_119 ?_
  obtain ⟨f26, hv25, hf⟩ := ob_some hf
  refine zc_mv2 (k0 := 19) (k := 7) (e1 := .inl (Z 0, 54, .inl f26)) rfl rfl (z_SD (As := [.ref (b 7), .ref (a 7)]) (rest := []) ⟨hx, hb, hml, hown, hts⟩ (m_X0_copyRow l D Z (b 7) 54 (a 7) 54 (T.2 6) (S24.2 6) f26 hv25) gX0_copyFrom_X0_copyRow rfl rfl rfl hds_X0_copyRow ⟨Nat.le_of_ble_eq_true rfl, Nat.le_of_ble_eq_true rfl⟩ hK (hP.sub (ws' := [((b 7), .inl (Z 0, 54, .inl (T.2 6))), ((a 7), .inl (Z 0, 54, .inl (S24.2 6)))]) [19, 7] rfl) (hD.sub (ws' := [((b 7), .inl (Z 0, 54, .inl (T.2 6))), ((a 7), .inl (Z 0, 54, .inl (S24.2 6)))]) [19, 7] (by decide) rfl) rfl hl.1 rfl (Nat.le_of_ble_eq_true rfl) dX0_copyFrom_122 ⟨Nat.le_of_ble_eq_true rfl, Nat.le_of_ble_eq_true rfl⟩) hP hD hS hA (fun H locs hP hD hS => ?_)
  obtain ⟨S27, eS27, hf⟩ := lt_ex hf
  have hP : va_P D vwCl (rwl Z a S27 ++ rwl Z b T) H := by rw [eS27]; exact hP
  have hD : va_D A (rwl Z a S27 ++ rwl Z b T) := by rw [eS27]; exact hD
  refine lv_aload_n hx hb dX0_copyFrom_125 rfl (lv_at hl 1 rfl) ?_
  refine va_get (D := D) (ci := 0) (v := .ref (b 8)) (C := RX0) (T := TX0) (N := 17) hx hb hts hin hown hK hP 12 rfl rfl 13 (by decide) (hts (.fieldLink RX0 37 "PodGuideway$Ring" "riderCame" "[I") (List.mem_of_getElem? (i := 14) rfl)) (fun _ h9 => h9) rfl dX0_copyFrom_126 ?_
  refine lv_aload_n hx hb dX0_copyFrom_129 rfl (lv_at hl 0 rfl) ?_
  refine va_get (D := D) (ci := 0) (v := .ref (a 8)) (C := RX0) (T := TX0) (N := 17) hx hb hts hin hown hK hP 0 rfl rfl 13 (by decide) (hts (.fieldLink RX0 37 "PodGuideway$Ring" "riderCame" "[I") (List.mem_of_getElem? (i := 14) rfl)) (fun _ h9 => h9) rfl dX0_copyFrom_130 ?_
  obtain ⟨f29, hv28, hf⟩ := ob_some hf
  refine zc_mv2 (k0 := 20) (k := 8) (e1 := .inl (Z 0, 54, .inl f29)) rfl rfl (z_SD (As := [.ref (b 8), .ref (a 8)]) (rest := []) ⟨hx, hb, hml, hown, hts⟩ (m_X0_copyRow l D Z (b 8) 54 (a 8) 54 (T.2 7) (S27.2 7) f29 hv28) gX0_copyFrom_X0_copyRow rfl rfl rfl hds_X0_copyRow ⟨Nat.le_of_ble_eq_true rfl, Nat.le_of_ble_eq_true rfl⟩ hK (hP.sub (ws' := [((b 8), .inl (Z 0, 54, .inl (T.2 7))), ((a 8), .inl (Z 0, 54, .inl (S27.2 7)))]) [20, 8] rfl) (hD.sub (ws' := [((b 8), .inl (Z 0, 54, .inl (T.2 7))), ((a 8), .inl (Z 0, 54, .inl (S27.2 7)))]) [20, 8] (by decide) rfl) rfl hl.1 rfl (Nat.le_of_ble_eq_true rfl) dX0_copyFrom_133 ⟨Nat.le_of_ble_eq_true rfl, Nat.le_of_ble_eq_true rfl⟩) hP hD hS hA (fun H locs hP hD hS => ?_)
  obtain ⟨S30, eS30, hf⟩ := lt_ex hf
  have hP : va_P D vwCl (rwl Z a S30 ++ rwl Z b T) H := by rw [eS30]; exact hP
  have hD : va_D A (rwl Z a S30 ++ rwl Z b T) := by rw [eS30]; exact hD
  refine lv_aload_n hx hb dX0_copyFrom_136 rfl (lv_at hl 1 rfl) ?_
  refine va_get (D := D) (ci := 0) (v := .ref (b 9)) (C := RX0) (T := TX0) (N := 17) hx hb hts hin hown hK hP 12 rfl rfl 14 (by decide) (hts (.fieldLink RX0 40 "PodGuideway$Ring" "podGoal" "[I") (List.mem_of_getElem? (i := 15) rfl)) (fun _ h9 => h9) rfl dX0_copyFrom_137 ?_
  refine lv_aload_n hx hb dX0_copyFrom_140 rfl (lv_at hl 0 rfl) ?_
  refine va_get (D := D) (ci := 0) (v := .ref (a 9)) (C := RX0) (T := TX0) (N := 17) hx hb hts hin hown hK hP 0 rfl rfl 14 (by decide) (hts (.fieldLink RX0 40 "PodGuideway$Ring" "podGoal" "[I") (List.mem_of_getElem? (i := 15) rfl)) (fun _ h9 => h9) rfl dX0_copyFrom_141 ?_
  obtain ⟨f32, hv31, hf⟩ := ob_some hf
  refine zc_mv2 (k0 := 21) (k := 9) (e1 := .inl (Z 0, 12, .inl f32)) rfl rfl (z_SD (As := [.ref (b 9), .ref (a 9)]) (rest := []) ⟨hx, hb, hml, hown, hts⟩ (m_X0_copyRow l D Z (b 9) 12 (a 9) 12 (T.2 8) (S30.2 8) f32 hv31) gX0_copyFrom_X0_copyRow rfl rfl rfl hds_X0_copyRow ⟨Nat.le_of_ble_eq_true rfl, Nat.le_of_ble_eq_true rfl⟩ hK (hP.sub (ws' := [((b 9), .inl (Z 0, 12, .inl (T.2 8))), ((a 9), .inl (Z 0, 12, .inl (S30.2 8)))]) [21, 9] rfl) (hD.sub (ws' := [((b 9), .inl (Z 0, 12, .inl (T.2 8))), ((a 9), .inl (Z 0, 12, .inl (S30.2 8)))]) [21, 9] (by decide) rfl) rfl hl.1 rfl (Nat.le_of_ble_eq_true rfl) dX0_copyFrom_144 ⟨Nat.le_of_ble_eq_true rfl, Nat.le_of_ble_eq_true rfl⟩) hP hD hS hA (fun H locs hP hD hS => ?_)
  obtain ⟨S33, eS33, hf⟩ := lt_ex hf
  have hP : va_P D vwCl (rwl Z a S33 ++ rwl Z b T) H := by rw [eS33]; exact hP
  have hD : va_D A (rwl Z a S33 ++ rwl Z b T) := by rw [eS33]; exact hD
  refine lv_aload_n hx hb dX0_copyFrom_147 rfl (lv_at hl 1 rfl) ?_
  refine va_get (D := D) (ci := 0) (v := .ref (b 10)) (C := RX0) (T := TX0) (N := 17) hx hb hts hin hown hK hP 12 rfl rfl 15 (by decide) (hts (.fieldLink RX0 43 "PodGuideway$Ring" "podRider" "[I") (List.mem_of_getElem? (i := 16) rfl)) (fun _ h9 => h9) rfl dX0_copyFrom_148 ?_
  refine lv_aload_n hx hb dX0_copyFrom_151 rfl (lv_at hl 0 rfl) ?_
  refine va_get (D := D) (ci := 0) (v := .ref (a 10)) (C := RX0) (T := TX0) (N := 17) hx hb hts hin hown hK hP 0 rfl rfl 15 (by decide) (hts (.fieldLink RX0 43 "PodGuideway$Ring" "podRider" "[I") (List.mem_of_getElem? (i := 16) rfl)) (fun _ h9 => h9) rfl dX0_copyFrom_152 ?_
  obtain ⟨f35, hv34, hf⟩ := ob_some hf
  refine zc_mv2 (k0 := 22) (k := 10) (e1 := .inl (Z 0, 12, .inl f35)) rfl rfl (z_SD (As := [.ref (b 10), .ref (a 10)]) (rest := []) ⟨hx, hb, hml, hown, hts⟩ (m_X0_copyRow l D Z (b 10) 12 (a 10) 12 (T.2 9) (S33.2 9) f35 hv34) gX0_copyFrom_X0_copyRow rfl rfl rfl hds_X0_copyRow ⟨Nat.le_of_ble_eq_true rfl, Nat.le_of_ble_eq_true rfl⟩ hK (hP.sub (ws' := [((b 10), .inl (Z 0, 12, .inl (T.2 9))), ((a 10), .inl (Z 0, 12, .inl (S33.2 9)))]) [22, 10] rfl) (hD.sub (ws' := [((b 10), .inl (Z 0, 12, .inl (T.2 9))), ((a 10), .inl (Z 0, 12, .inl (S33.2 9)))]) [22, 10] (by decide) rfl) rfl hl.1 rfl (Nat.le_of_ble_eq_true rfl) dX0_copyFrom_155 ⟨Nat.le_of_ble_eq_true rfl, Nat.le_of_ble_eq_true rfl⟩) hP hD hS hA (fun H locs hP hD hS => ?_)
  obtain ⟨S36, eS36, hf⟩ := lt_ex hf
  have hP : va_P D vwCl (rwl Z a S36 ++ rwl Z b T) H := by rw [eS36]; exact hP
  have hD : va_D A (rwl Z a S36 ++ rwl Z b T) := by rw [eS36]; exact hD
  refine lv_aload_n hx hb dX0_copyFrom_158 rfl (lv_at hl 1 rfl) ?_
  refine va_get (D := D) (ci := 0) (v := .ref (b 11)) (C := RX0) (T := TX0) (N := 17) hx hb hts hin hown hK hP 12 rfl rfl 16 (by decide) (hts (.fieldLink RX0 46 "PodGuideway$Ring" "podBarred" "[I") (List.mem_of_getElem? (i := 17) rfl)) (fun _ h9 => h9) rfl dX0_copyFrom_159 ?_
  refine lv_aload_n hx hb dX0_copyFrom_162 rfl (lv_at hl 0 rfl) ?_
  refine va_get (D := D) (ci := 0) (v := .ref (a 11)) (C := RX0) (T := TX0) (N := 17) hx hb hts hin hown hK hP 0 rfl rfl 16 (by decide) (hts (.fieldLink RX0 46 "PodGuideway$Ring" "podBarred" "[I") (List.mem_of_getElem? (i := 17) rfl)) (fun _ h9 => h9) rfl dX0_copyFrom_163 ?_
  obtain ⟨f38, hv37, hf⟩ := ob_some hf
  refine zc_mv2 (k0 := 23) (k := 11) (e1 := .inl (Z 0, 12, .inl f38)) rfl rfl (z_SD (As := [.ref (b 11), .ref (a 11)]) (rest := []) ⟨hx, hb, hml, hown, hts⟩ (m_X0_copyRow l D Z (b 11) 12 (a 11) 12 (T.2 10) (S36.2 10) f38 hv37) gX0_copyFrom_X0_copyRow rfl rfl rfl hds_X0_copyRow ⟨Nat.le_of_ble_eq_true rfl, Nat.le_of_ble_eq_true rfl⟩ hK (hP.sub (ws' := [((b 11), .inl (Z 0, 12, .inl (T.2 10))), ((a 11), .inl (Z 0, 12, .inl (S36.2 10)))]) [23, 11] rfl) (hD.sub (ws' := [((b 11), .inl (Z 0, 12, .inl (T.2 10))), ((a 11), .inl (Z 0, 12, .inl (S36.2 10)))]) [23, 11] (by decide) rfl) rfl hl.1 rfl (Nat.le_of_ble_eq_true rfl) dX0_copyFrom_166 ⟨Nat.le_of_ble_eq_true rfl, Nat.le_of_ble_eq_true rfl⟩) hP hD hS hA (fun H locs hP hD hS => ?_)
  obtain ⟨S39, eS39, hf⟩ := lt_ex hf
  have hP : va_P D vwCl (rwl Z a S39 ++ rwl Z b T) H := by rw [eS39]; exact hP
  have hD : va_D A (rwl Z a S39 ++ rwl Z b T) := by rw [eS39]; exact hD
  exact zw_v hx hb hr hlk hP hD hS (congrArg (fun z => ((rwl Z a z ++ rwl Z b T) : va_W)) (Option.some.inj hf)) (Nat.le_of_ble_eq_true rfl) (Nat.le_of_ble_eq_true rfl) dX0_copyFrom_169

