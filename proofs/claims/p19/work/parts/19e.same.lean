theorem isN64_iff {b : UInt64} : isNaN64 b = true ↔ 0x7ff0000000000000 < b.toNat &&& 0x7fffffffffffffff := by
  simp only [isNaN64, decide_eq_true_eq, gt_iff_lt, UInt64.lt_iff_toNat_lt, UInt64.toNat_and]
  exact Iff.rfl
theorem ord_self {x : FP.Core.Datum} (h : x ≠ .nan) : FP.Core.order x x = some .eq := by
  cases x with
  | nan => exact absurd rfl h
  | inf => exact congrArg some (by simp [compare, compareOfLessAndEq])
  | fin s c q => exact congrArg some (by simp [compare, compareOfLessAndEq])
theorem dcmp_nan {a b : UInt64} (h : isNaN64 a = true) : FP.dcmp a b = none := by
  rw [isN64_iff] at h
  have h1 : (0x7fffffffffffffff : Nat) = 2 ^ 63 - 1 := by decide
  rw [h1, Nat.and_two_pow_sub_one_eq_mod] at h
  have hd : FP.Core.decode FP.Core.b64 a.toNat = .nan := by
    unfold FP.Core.decode
    have e1 : FP.Core.fieldE FP.Core.b64 a.toNat = a.toNat / 2 ^ 52 % 2 ^ 11 := rfl
    have e2 : FP.Core.fieldT FP.Core.b64 a.toNat = a.toNat % 2 ^ 52 := rfl
    have e3 : FP.Core.b64.exps - 1 = 2047 := rfl
    rw [e1, e2, e3, if_pos (by omega), if_neg (by omega)]
  show FP.Core.order (FP.Core.decode FP.Core.b64 a.toNat) (FP.Core.decode FP.Core.b64 b.toNat) = none
  rw [hd]
  rfl
theorem dcmp_same {a : UInt64} (h : isNaN64 a = false) : FP.dcmp a a = some .eq := by
  refine ord_self (x := FP.Core.decode FP.Core.b64 a.toNat) (fun hd => ?_)
  have hd : FP.Core.decode FP.Core.b64 a.toNat = .nan := hd
  have h2 : ¬ isNaN64 a = true := by rw [h]; decide
  rw [isN64_iff] at h2
  have h1 : (0x7fffffffffffffff : Nat) = 2 ^ 63 - 1 := by decide
  rw [h1, Nat.and_two_pow_sub_one_eq_mod] at h2
  unfold FP.Core.decode at hd
  have e1 : FP.Core.fieldE FP.Core.b64 a.toNat = a.toNat / 2 ^ 52 % 2 ^ 11 := rfl
  have e2 : FP.Core.fieldT FP.Core.b64 a.toNat = a.toNat % 2 ^ 52 := rfl
  have e3 : FP.Core.b64.exps - 1 = 2047 := rfl
  rw [e1, e2, e3] at hd
  by_cases c1 : a.toNat / 2 ^ 52 % 2 ^ 11 = 2047
  · rw [if_pos c1] at hd
    by_cases c2 : a.toNat % 2 ^ 52 = 0
    · rw [if_pos c2] at hd; cases hd
    · exact h2 (by omega)
  · rw [if_neg c1] at hd
    split at hd <;> cases hd
def w_X3_isSame_L610 (Z : Nat → ClassId) (t : Nat)  (K : Int32 → WX → Prop) : Nat → Int32 → Nat → Int32 → RS → RS → PH → Prop
  | 0, _, _, _, _, _, _ => False
  | n + 1, x2, x3, x4, S, T, h =>
    if 9 ≤ x4 then
      K x2 (S, T, h)
    else
      okP (f_X1_count S T x4) fun v36 =>
      ldI Z h x3 x4 fun v37 =>
      if v36 = v37 then
        w_X3_isSame_L610 Z t K n x2 x3 (x4 + 1) S T h
      else
        False
def w_X3_isSame_L477 (Z : Nat → ClassId) (t : Nat) (κ465 : Int32 → Int32 → RS → RS → PH → Prop) (K : Int32 → WX → Prop) : Nat → Int32 → Int32 → Int32 → Int32 → RS → RS → PH → Prop
  | 0, _, _, _, _, _, _, _ => False
  | n + 1, x2, x3, x4, x5, S, T, h =>
    gR h 3 3 t fun b39 =>
    lQ Z h 1 b39 fun v40 =>
    if v40 ≤ x5 then
      okP (f_X1_slot S T x3) fun v43 =>
      if v43 = x4 then
        κ465 x2 (x3 + 1) S T h
      else
        False
    else
      gR h 3 3 t fun b45 =>
      ldQ Z h 1 b45 x5 fun b46 =>
      gI h 2 0 b46 fun v47 =>
      if v47 = x3 then
        w_X3_isSame_L477 Z t κ465 K n x2 x3 x5 (x5 + 1) S T h
      else
        w_X3_isSame_L477 Z t κ465 K n x2 x3 x4 (x5 + 1) S T h
def w_X3_isSame_L465 (Z : Nat → ClassId) (t : Nat)  (K : Int32 → WX → Prop) : Nat → Int32 → Int32 → RS → RS → PH → Prop
  | 0, _, _, _, _, _ => False
  | n + 1, x2, x3, S, T, h =>
    if 24 ≤ x3 then
      nA Z h 9 9 fun b8 h9 =>
      gI h9 3 4 t fun v10 =>
      sA Z h9 b8 0 v10 fun h11 =>
      gR h11 3 0 t fun b12 =>
      lI Z h11 b12 fun v13 =>
      sA Z h11 b8 1 v13 fun h14 =>
      gR h14 3 3 t fun b15 =>
      lQ Z h14 1 b15 fun v16 =>
      sA Z h14 b8 2 v16 fun h17 =>
      rc3 h17 t ∧ w_X3_told Z t 3 (fun v19 h18 =>
        sA Z h18 b8 3 v19 fun h20 =>
        rc3 h20 t ∧ w_X3_told Z t 4 (fun v22 h21 =>
          sA Z h21 b8 4 v22 fun h23 =>
          rc3 h23 t ∧ w_X3_told Z t 5 (fun v25 h24 =>
            sA Z h24 b8 5 v25 fun h26 =>
            rc3 h26 t ∧ w_X3_told Z t 6 (fun v28 h27 =>
              sA Z h27 b8 6 v28 fun h29 =>
              gI h29 3 5 t fun v30 =>
              sA Z h29 b8 7 v30 fun h31 =>
              gI h31 3 6 t fun v32 =>
              sA Z h31 b8 8 v32 fun h33 =>
              w_X3_isSame_L610 Z t K FU x2 b8 0 S T h33) h26) h23) h20) h17
    else
      w_X3_isSame_L477 Z t (fun x2 x3 S T h => w_X3_isSame_L465 Z t K n x2 x3 S T h) K FU x2 x3 (-1) 0 S T h
def w_X3_isSame_L427 (Z : Nat → ClassId) (t : Nat) (κ312 : Int32 → Int32 → RS → RS → PH → Prop) (K : Int32 → WX → Prop) : Nat → Int32 → Int32 → Nat → Int32 → RS → RS → PH → Prop
  | 0, _, _, _, _, _, _, _ => False
  | n + 1, x2, x3, x6, x7, S, T, h =>
    if 6 ≤ x7 then
      κ312 x2 (x3 + 1) S T h
    else
      okP (f_X1_told S T x3 x7) fun v72 =>
      ldI Z h x6 x7 fun v73 =>
      if v72 = v73 then
        w_X3_isSame_L427 Z t κ312 K n x2 x3 x6 (x7 + 1) S T h
      else
        False
def w_X3_isSame_L413 (Z : Nat → ClassId) (t : Nat) (κ312 : Int32 → Int32 → RS → RS → PH → Prop) (K : Int32 → WX → Prop) (y0 : Int32) (y1 : Int32) (y2 : Nat) (y3 : Nat) (x2 : Int32) (x3 : Int32) (x4 : Nat) (S : RS) (T : RS) (h : PH) : Prop :=
  sA Z h y2 y1 y0 fun h67 =>
  gI h67 2 5 x4 fun v68 =>
  sA Z h67 y3 5 v68 fun h69 =>
  w_X3_isSame_L427 Z t κ312 K FU x2 x3 y3 0 S T h69
def w_X3_isSame_L389 (Z : Nat → ClassId) (t : Nat) (κ312 : Int32 → Int32 → RS → RS → PH → Prop) (K : Int32 → WX → Prop) (y0 : Int32) (y1 : Int32) (y2 : Nat) (y3 : Nat) (x2 : Int32) (x3 : Int32) (x4 : Nat) (S : RS) (T : RS) (h : PH) : Prop :=
  sA Z h y2 y1 y0 fun h62 =>
  gI h62 2 3 x4 fun v63 =>
  sA Z h62 y3 3 v63 fun h64 =>
  gI h64 2 4 x4 fun v65 =>
  if v65 ≤ 0 then
    w_X3_isSame_L413 Z t κ312 K 0 4 y3 y3 x2 x3 x4 S T h64
  else
    w_X3_isSame_L413 Z t κ312 K 1 4 y3 y3 x2 x3 x4 S T h64
def w_X3_isSame_L372 (Z : Nat → ClassId) (t : Nat) (κ312 : Int32 → Int32 → RS → RS → PH → Prop) (K : Int32 → WX → Prop) (y0 : Int32) (y1 : Int32) (y2 : Nat) (y3 : Nat) (x2 : Int32) (x3 : Int32) (x4 : Nat) (x5 : Int32) (S : RS) (T : RS) (h : PH) : Prop :=
  sA Z h y2 y1 y0 fun h59 =>
  if x5 = 0 then
    gI h59 2 2 x4 fun v61 =>
    w_X3_isSame_L389 Z t κ312 K v61 2 y3 y3 x2 x3 x4 S T h59
  else
    w_X3_isSame_L389 Z t κ312 K (-1) 2 y3 y3 x2 x3 x4 S T h59
def w_X3_isSame_L342 (Z : Nat → ClassId) (t : Nat) (κ312 : Int32 → Int32 → RS → RS → PH → Prop) (K : Int32 → WX → Prop) (y0 : Int32) (x2 : Int32) (x3 : Int32) (x4 : Nat) (S : RS) (T : RS) (h : PH) : Prop :=
  nA Z h 6 6 fun b53 h54 =>
  gI h54 2 0 x4 fun v55 =>
  sA Z h54 b53 0 v55 fun h56 =>
  if y0 = 0 then
    gI h56 2 1 x4 fun v58 =>
    w_X3_isSame_L372 Z t κ312 K v58 1 b53 b53 x2 x3 x4 y0 S T h56
  else
    w_X3_isSame_L372 Z t κ312 K (-1) 1 b53 b53 x2 x3 x4 y0 S T h56
def w_X3_isSame_L312 (Z : Nat → ClassId) (t : Nat)  (K : Int32 → WX → Prop) : Nat → Int32 → Int32 → RS → RS → PH → Prop
  | 0, _, _, _, _, _ => False
  | n + 1, x2, x3, S, T, h =>
    gR h 3 3 t fun b4 =>
    lQ Z h 1 b4 fun v5 =>
    if v5 ≤ x3 then
      w_X3_isSame_L465 Z t K FU x2 0 S T h
    else
      gR h 3 3 t fun b49 =>
      ldQ Z h 1 b49 x3 fun b50 =>
      gI h 2 0 b50 fun v51 =>
      if v51 < 0 then
        w_X3_isSame_L342 Z t (fun x2 x3 S T h => w_X3_isSame_L312 Z t K n x2 x3 S T h) K 0 x2 x3 b50 S T h
      else
        w_X3_isSame_L342 Z t (fun x2 x3 S T h => w_X3_isSame_L312 Z t K n x2 x3 S T h) K 1 x2 x3 b50 S T h
def w_X3_isSame_L254 (Z : Nat → ClassId) (t : Nat) (κ4 : Int32 → Int32 → RS → RS → PH → Prop) (K : Int32 → WX → Prop) : Nat → Int32 → Int32 → Int32 → Nat → Int32 → RS → RS → PH → Prop
  | 0, _, _, _, _, _, _, _, _ => False
  | n + 1, x2, x3, x6, x7, x8, S, T, h =>
    if 7 ≤ x8 then
      okP (f_X1_answers S T x3) fun v102 =>
      rc3 h t ∧ w_X3_answer Z t x3 (fun v104 h103 =>
        if v102 = v104 then
          κ4 (x2 + x6) (x3 + 1) S T h103
        else
          False) h
    else
      okP (f_X1_station S T x3 x8) fun v107 =>
      ldI Z h x7 x8 fun v108 =>
      if v107 = v108 then
        w_X3_isSame_L254 Z t κ4 K n x2 x3 x6 x7 (x8 + 1) S T h
      else
        False
def w_X3_isSame_L121 (Z : Nat → ClassId) (t : Nat) (κ4 : Int32 → Int32 → RS → RS → PH → Prop) (K : Int32 → WX → Prop) : Nat → Int32 → Int32 → Int32 → Int32 → Int32 → Int32 → RS → RS → PH → Prop
  | 0, _, _, _, _, _, _, _, _, _ => False
  | n + 1, x2, x3, x4, x5, x6, x7, S, T, h =>
    gR h 3 1 t fun b78 =>
    ldQ Z h 3 b78 x3 fun b79 =>
    lQ Z h 2 b79 fun v80 =>
    if v80 ≤ x7 then
      nA Z h 7 7 fun b82 h83 =>
      gR h83 3 0 t fun b84 =>
      ldI Z h83 b84 x3 fun v85 =>
      sA Z h83 b82 0 v85 fun h86 =>
      sA Z h86 b82 1 x4 fun h87 =>
      sA Z h87 b82 2 x5 fun h88 =>
      gR h88 3 1 t fun b89 =>
      ldQ Z h88 3 b89 x3 fun b90 =>
      lQ Z h88 2 b90 fun v91 =>
      sA Z h88 b82 3 v91 fun h92 =>
      rc3 h92 t ∧ w_X3_coming Z t x3 (fun v94 h93 =>
        sA Z h93 b82 4 v94 fun h95 =>
        sA Z h95 b82 5 x6 fun h96 =>
        gR h96 3 2 t fun b97 =>
        ldI Z h96 b97 x3 fun v98 =>
        sA Z h96 b82 6 v98 fun h99 =>
        w_X3_isSame_L254 Z t κ4 K FU x2 x3 x6 b82 0 S T h99) h92
    else
      gR h 3 1 t fun b110 =>
      ldQ Z h 3 b110 x3 fun b111 =>
      ldQ Z h 2 b111 x7 fun b112 =>
      ldI Z h b112 1 fun v113 =>
      okP (f_X1_waits S T x3 x7) fun v115 =>
      gR h 3 1 t fun b116 =>
      ldQ Z h 3 b116 x3 fun b117 =>
      ldQ Z h 2 b117 x7 fun b118 =>
      ldI Z h b118 1 fun v119 =>
      gR h 3 1 t fun b120 =>
      ldQ Z h 3 b120 x3 fun b121 =>
      ldQ Z h 2 b121 x7 fun b122 =>
      ldI Z h b122 0 fun v123 =>
      if v115 = ((10 * v119) + v123) then
        w_X3_isSame_L121 Z t κ4 K n x2 x3 x4 x5 (x6 + v113) (x7 + 1) S T h
      else
        False
def w_X3_isSame_L74 (Z : Nat → ClassId) (t : Nat) (κ36 : Int32 → Int32 → Int32 → Int32 → Int32 → Nat → Int32 → Int32 → RS → RS → PH → Prop) (K : Int32 → WX → Prop) (y0 : Int32) (y1 : Int32) (x2 : Int32) (x3 : Int32) (x5 : Int32) (x6 : Int32) (x7 : Nat) (x8 : Int32) (x9 : Int32) (x10 : Nat) (S : RS) (T : RS) (h : PH) : Prop :=
  gI h 2 0 x10 fun v128 =>
  if 0 ≤ v128 then
    κ36 x2 x3 (y1 + y0) (x5 + 0) x6 x7 x8 (x9 + 1) S T h
  else
    gI h 2 1 x10 fun v130 =>
    if v130 = x3 then
      gI h 2 3 x10 fun v132 =>
      if 0 ≤ v132 then
        κ36 x2 x3 (y1 + y0) (x5 + 0) x6 x7 x8 (x9 + 1) S T h
      else
        κ36 x2 x3 (y1 + y0) (x5 + 1) x6 x7 x8 (x9 + 1) S T h
    else
      κ36 x2 x3 (y1 + y0) (x5 + 0) x6 x7 x8 (x9 + 1) S T h
def w_X3_isSame_L73 (Z : Nat → ClassId) (t : Nat) (κ36 : Int32 → Int32 → Int32 → Int32 → Int32 → Nat → Int32 → Int32 → RS → RS → PH → Prop) (K : Int32 → WX → Prop) (y0 : Int32) (x2 : Int32) (x3 : Int32) (x5 : Int32) (x6 : Int32) (x7 : Nat) (x8 : Int32) (x9 : Int32) (x10 : Nat) (S : RS) (T : RS) (h : PH) : Prop :=
  w_X3_isSame_L74 Z t κ36 K 0 y0 x2 x3 x5 x6 x7 x8 x9 x10 S T h
def w_X3_isSame_L36 (Z : Nat → ClassId) (t : Nat) (κ4 : Int32 → Int32 → RS → RS → PH → Prop) (K : Int32 → WX → Prop) : Nat → Int32 → Int32 → Int32 → Int32 → Int32 → Nat → Int32 → Int32 → RS → RS → PH → Prop
  | 0, _, _, _, _, _, _, _, _, _, _, _ => False
  | n + 1, x2, x3, x4, x5, x6, x7, x8, x9, S, T, h =>
    if x8 ≤ x9 then
      w_X3_isSame_L121 Z t κ4 K FU x2 x3 x4 x5 x6 0 S T h
    else
      ldQ Z h 1 x7 x9 fun b125 =>
      gI h 2 0 b125 fun v126 =>
      if 0 ≤ v126 then
        w_X3_isSame_L73 Z t (fun x2 x3 x4 x5 x6 x7 x8 x9 S T h => w_X3_isSame_L36 Z t κ4 K n x2 x3 x4 x5 x6 x7 x8 x9 S T h) K x4 x2 x3 x5 x6 x7 x8 x9 b125 S T h
      else
        gI h 2 1 b125 fun v134 =>
        if v134 = x3 then
          w_X3_isSame_L74 Z t (fun x2 x3 x4 x5 x6 x7 x8 x9 S T h => w_X3_isSame_L36 Z t κ4 K n x2 x3 x4 x5 x6 x7 x8 x9 S T h) K 1 x4 x2 x3 x5 x6 x7 x8 x9 b125 S T h
        else
          w_X3_isSame_L73 Z t (fun x2 x3 x4 x5 x6 x7 x8 x9 S T h => w_X3_isSame_L36 Z t κ4 K n x2 x3 x4 x5 x6 x7 x8 x9 S T h) K x4 x2 x3 x5 x6 x7 x8 x9 b125 S T h
def w_X3_isSame_L4 (Z : Nat → ClassId) (t : Nat)  (K : Int32 → WX → Prop) : Nat → Int32 → Int32 → RS → RS → PH → Prop
  | 0, _, _, _, _, _ => False
  | n + 1, x2, x3, S, T, h =>
    gR h 3 0 t fun b1 =>
    lI Z h b1 fun v2 =>
    if v2 ≤ x3 then
      w_X3_isSame_L312 Z t K 14 x2 0 S T h
    else
      gR h 3 3 t fun b75 =>
      lQ Z h 1 b75 fun v76 =>
      w_X3_isSame_L36 Z t (fun x2 x3 S T h => w_X3_isSame_L4 Z t K n x2 x3 S T h) K FU x2 x3 0 0 0 b75 v76 0 S T h
def wf_X3_isSame (Z : Nat → ClassId) (t : Nat) (K : Int32 → WX → Prop) (S T : RS) (h : PH) : Prop :=
  w_X3_isSame_L4 Z t K 8 0 0 S T h
abbrev rm_X3_isSame : Room := { frames := 8, cells := 23, slots := 149, locals := 152 }
set_option maxHeartbeats 8000000 in
set_option maxRecDepth 100000 in
theorem x_X3_isSame {p : Program} {l : Launch} {e : Env} {s : State} {m : MethodId} {below : List Frame} {meth : Method} {c : Code} {A : Nat → Prop} {Q : State → Prop} (D : va_G) (Z : Nat → ClassId) (o : Nat) (a b : Nat → Nat) (t : Nat) (K : Int32 → WX → Prop) (S T : RS) (h : PH) (hf : wf_X3_isSame Z t K S T h) (hC : Cx p s m ([.ref t, .ref o] : List Value).toArray meth c cX3_isSame yX3_isSame.cls yX3_isSame.name 11 (some .boolean) wsX3_isSame) (hE : pE A s) (hA : ∀ q : Nat, s.heap.size ≤ q → A q) (hP : va_P D vwCl (hw (owl Z o a b S T) h) s.heap) (hK : zK D Z s) (hD : va_D A (hw (owl Z o a b S T) h)) (hS : va_S A s.heap s.heap [])
    (hEnd : ∀ (x2 : Int32) (u : WX) (cc sc : Nat) (H : Heap) (locs : List Loc) (ls : Array Slot), K x2 u → cc ≤ 23 → sc ≤ 149 → va_P D vwCl (owx Z o a b u) H → va_D A (owx Z o a b u) → va_S A s.heap H locs → lv_has ls 11 [(0, .ref t), (1, .ref o), (2, .int x2)] → W p l e rm_X3_isSame s m ([.ref t, .ref o] : List Value).toArray below meth c H locs cc sc Q (F0 m 638 ls [])) :
    ∀ ls : Array Slot, lv_has ls 11 [(0, .ref t), (1, .ref o)] → W p l e rm_X3_isSame s m ([.ref t, .ref o] : List Value).toArray below meth c s.heap [] 0 0 Q (F0 m 0 ls []) := by
  intro ls hl
  obtain ⟨hx, hb, hr, hml, hown, hts, hlk, -⟩ := hC
  have hown : s.vm.findClass RX3 = some m.cls := hown
  have hO := hE.2
  have hin2 : ∀ w ∈ wsX20, w ∈ wsX3_isSame := fun w h => List.mem_cons_of_mem _ (List.mem_append_left _ (List.mem_append_left _ (List.mem_append_left _ (List.mem_append_right _ h))))
  have hin3 : ∀ w ∈ wsX30, w ∈ wsX3_isSame := fun w h => List.mem_cons_of_mem _ (List.mem_append_left _ (List.mem_append_left _ (List.mem_append_left _ (List.mem_append_left _ (List.mem_append_right _ h)))))
  have L610 : ∀ (n : Nat) (x2 : Int32) (x3 : Nat) (x4 : Int32) (S : RS) (T : RS) (h : PH) (cc sc : Nat) (H : Heap) (locs : List Loc), cc + (0) ≤ 23 → sc + (0) ≤ 149 → va_P D vwCl (hw (owl Z o a b S T) h) H → va_D A (hw (owl Z o a b S T) h) → va_S A s.heap H locs → ∀ ls : Array Slot, lv_has ls 11 [(0, .ref t), (1, .ref o), (2, .int x2), (3, .ref x3), (4, .int x4)] → w_X3_isSame_L610 Z t K n x2 x3 x4 S T h → W p l e rm_X3_isSame s m ([.ref t, .ref o] : List Value).toArray below meth c H locs cc sc Q (F0 m 610 ls []) := by
    intro n
    induction n with
    | zero =>
      intro x2 x3 x4 S T h cc sc  H locs hcc hsc hP hD hS ls hl hf
      exact hf.elim
    | succ n ih =>
      intro x2 x3 x4 S T h cc sc  H locs hcc hsc hP hD hS ls hl hf
      rw [w_X3_isSame_L610] at hf
      refine lv_iload hx hb dX3_isSame_610 (lv_at hl 4 rfl) ?_
      refine lv_bipush (v := 9) hx hb dX3_isSame_612 (by decide) ?_
      refine lv_icmp_ge (tgt := 638) hx hb dX3_isSame_614 (by decide) (fun c34 => ?_) (fun c34 => ?_)
      · have hf := itP hf c34
        exact hEnd x2 (S, T, h) cc sc _ _ _ hf (by omega) (by omega) hP hD hS (lv_sub hl [0, 1, 2] rfl)
      · have hf := ifP hf c34
        refine lv_aload_n hx hb dX3_isSame_617 rfl (lv_at hl 1 rfl) ?_
        refine lv_iload hx hb dX3_isSame_618 (lv_at hl 4 rfl) ?_
        obtain ⟨v36, hv35, hf⟩ := hf
        refine zc_i (z_VG (As := [.int x4]) (rest := []) (q0 := 0) (ci := 1) xE_ok hE.1 hS hA ⟨hx, hb, hml, hown, hts⟩ (ok_X1_count l D Z o a b S T x4 v36 hv35) gX3_isSame_X1_count rfl rfl rfl hdv_X1_count ⟨Nat.le_of_ble_eq_true rfl, Nat.le_of_ble_eq_true rfl⟩ hK (hw_X hP) (hw_XD hD) rfl rfl rfl rfl hl.1 rfl (Nat.le_of_ble_eq_true rfl) dX3_isSame_620 ⟨(show cc + 0 ≤ 23 from by omega), (show sc + 0 ≤ 149 from by omega)⟩) hP hS hA (fun H locs hP hS => ?_)
        refine lv_aload_n hx hb dX3_isSame_623 rfl (lv_at hl 3 rfl) ?_
        refine lv_iload hx hb dX3_isSame_624 (lv_at hl 4 rfl) ?_
        refine z_aI hf hx hb hK hP dX3_isSame_626 (fun v37 hf => ?_)
        refine lv_icmp_eq (tgt := 632) hx hb dX3_isSame_627 (by decide) (fun c38 => ?_) (fun c38 => ?_)
        · have hf := itP hf c38
          refine lv_iinc (v := (x4 + 1)) (lv' := [(4, .int (x4 + 1)), (0, .ref t), (1, .ref o), (2, .int x2), (3, .ref x3)]) hx hb dX3_isSame_632 hl (k := 4) rfl rfl (by decide) rfl (fun ls hl => ?_)
          refine lv_goto (tgt := 610) hx hb dX3_isSame_635 (by decide) ?_
          exact ih x2 x3 (x4 + 1) S T h cc sc _ _ (by omega) (by omega) hP hD hS ls (lv_sub hl [1, 2, 3, 4, 0] rfl) hf
        · have hf := ifP hf c38
          refine lv_iconst (v := 0) hx hb dX3_isSame_630 (by decide) ?_
          exact hf.elim
  have L477 : ∀ (rc rs : Nat), ∀ (κ465 : Int32 → Int32 → RS → RS → PH → Prop), (∀ (x2 : Int32) (x3 : Int32) (S : RS) (T : RS) (h : PH) (cc sc : Nat) (H : Heap) (locs : List Loc), cc + (rc) ≤ 23 → sc + (rs) ≤ 149 → va_P D vwCl (hw (owl Z o a b S T) h) H → va_D A (hw (owl Z o a b S T) h) → va_S A s.heap H locs → ∀ ls : Array Slot, lv_has ls 11 [(0, .ref t), (1, .ref o), (2, .int x2), (3, .int x3)] → κ465 x2 x3 S T h → W p l e rm_X3_isSame s m ([.ref t, .ref o] : List Value).toArray below meth c H locs cc sc Q (F0 m 465 ls [])) → ∀ (n : Nat) (x2 : Int32) (x3 : Int32) (x4 : Int32) (x5 : Int32) (S : RS) (T : RS) (h : PH) (cc sc : Nat) (H : Heap) (locs : List Loc), cc + (0 + rc) ≤ 23 → sc + (0 + rs) ≤ 149 → va_P D vwCl (hw (owl Z o a b S T) h) H → va_D A (hw (owl Z o a b S T) h) → va_S A s.heap H locs → ∀ ls : Array Slot, lv_has ls 11 [(0, .ref t), (1, .ref o), (2, .int x2), (3, .int x3), (4, .int x4), (5, .int x5)] → w_X3_isSame_L477 Z t κ465 K n x2 x3 x4 x5 S T h → W p l e rm_X3_isSame s m ([.ref t, .ref o] : List Value).toArray below meth c H locs cc sc Q (F0 m 477 ls []) := by
    intro rc rs κ465 hκ465 n
    induction n with
    | zero =>
      intro x2 x3 x4 x5 S T h cc sc  H locs hcc hsc hP hD hS ls hl hf
      exact hf.elim
    | succ n ih =>
      intro x2 x3 x4 x5 S T h cc sc  H locs hcc hsc hP hD hS ls hl hf
      rw [w_X3_isSame_L477] at hf
      refine lv_iload hx hb dX3_isSame_477 (lv_at hl 5 rfl) ?_
      refine lv_aload_n hx hb dX3_isSame_479 rfl (lv_at hl 0 rfl) ?_
      refine z_gR (C := RX3) (T := TX3) (N := 8) hf hx hb hts hin3 hown hK hP rfl (by decide) (hts (.fieldLink RX3 24 "PodGuidewayLaw$Sim" "pods" "[LPodGuidewayLaw$Pod;") (List.mem_of_getElem? (i := 2) rfl)) dX3_isSame_480 (fun b39 hf => ?_)
      refine z_lQ (tz := 1) hf hx hb hK rfl hP dX3_isSame_483 (fun v40 hf => ?_)
      refine lv_icmp_ge (tgt := 511) hx hb dX3_isSame_484 (by decide) (fun c41 => ?_) (fun c41 => ?_)
      · have hf := itP hf c41
        refine lv_aload_n hx hb dX3_isSame_511 rfl (lv_at hl 1 rfl) ?_
        refine lv_iload_n hx hb dX3_isSame_512 rfl (lv_at hl 3 rfl) ?_
        obtain ⟨v43, hv42, hf⟩ := hf
        refine zc_i (z_VG (As := [.int x3]) (rest := []) (q0 := 0) (ci := 1) xE_ok hE.1 hS hA ⟨hx, hb, hml, hown, hts⟩ (ok_X1_slot l D Z o a b S T x3 v43 hv42) gX3_isSame_X1_slot rfl rfl rfl hdv_X1_slot ⟨Nat.le_of_ble_eq_true rfl, Nat.le_of_ble_eq_true rfl⟩ hK (hw_X hP) (hw_XD hD) rfl rfl rfl rfl hl.1 rfl (Nat.le_of_ble_eq_true rfl) dX3_isSame_513 ⟨(show cc + 0 ≤ 23 from by omega), (show sc + 0 ≤ 149 from by omega)⟩) hP hS hA (fun H locs hP hS => ?_)
        refine lv_iload hx hb dX3_isSame_516 (lv_at hl 4 rfl) ?_
        refine lv_icmp_eq (tgt := 523) hx hb dX3_isSame_518 (by decide) (fun c44 => ?_) (fun c44 => ?_)
        · have hf := itP hf c44
          refine lv_iinc (v := (x3 + 1)) (lv' := [(3, .int (x3 + 1)), (0, .ref t), (1, .ref o), (2, .int x2), (4, .int x4), (5, .int x5)]) hx hb dX3_isSame_523 hl (k := 3) rfl rfl (by decide) rfl (fun ls hl => ?_)
          refine lv_goto (tgt := 465) hx hb dX3_isSame_526 (by decide) ?_
          exact hκ465 x2 (x3 + 1) S T h cc sc _ _ (by omega) (by omega) hP hD hS ls (lv_sub hl [1, 2, 3, 0] rfl) hf
        · have hf := ifP hf c44
          refine lv_iconst (v := 0) hx hb dX3_isSame_521 (by decide) ?_
          exact hf.elim
      · have hf := ifP hf c41
        refine lv_aload_n hx hb dX3_isSame_487 rfl (lv_at hl 0 rfl) ?_
        refine z_gR (C := RX3) (T := TX3) (N := 8) hf hx hb hts hin3 hown hK hP rfl (by decide) (hts (.fieldLink RX3 24 "PodGuidewayLaw$Sim" "pods" "[LPodGuidewayLaw$Pod;") (List.mem_of_getElem? (i := 2) rfl)) dX3_isSame_488 (fun b45 hf => ?_)
        refine lv_iload hx hb dX3_isSame_491 (lv_at hl 5 rfl) ?_
        refine z_aQ (tz := 1) hf hx hb hK rfl rfl hP dX3_isSame_493 (fun b46 hf => ?_)
        refine z_gI (C := RX2) (T := TX2) (N := 7) hf hx hb hts hin2 hown hK hP rfl (by decide) (hts (.fieldLink RX3 51 "PodGuidewayLaw$Pod" "slot" "I") (List.mem_of_getElem? (i := 3) rfl)) dX3_isSame_494 (fun v47 hf => ?_)
        refine lv_iload_n hx hb dX3_isSame_497 rfl (lv_at hl 3 rfl) ?_
        refine lv_icmp_ne (tgt := 505) hx hb dX3_isSame_498 (by decide) (fun c48 => ?_) (fun c48 => ?_)
        · have hf := ifP hf c48
          refine lv_iinc (v := (x5 + 1)) (lv' := [(5, .int (x5 + 1)), (0, .ref t), (1, .ref o), (2, .int x2), (3, .int x3), (4, .int x4)]) hx hb dX3_isSame_505 hl (k := 5) rfl rfl (by decide) rfl (fun ls hl => ?_)
          refine lv_goto (tgt := 477) hx hb dX3_isSame_508 (by decide) ?_
          exact ih x2 x3 x4 (x5 + 1) S T h cc sc _ _ (by omega) (by omega) hP hD hS ls (lv_sub hl [1, 2, 3, 4, 5, 0] rfl) hf
        · have hf := itP hf c48
          refine lv_iload hx hb dX3_isSame_501 (lv_at hl 5 rfl) ?_
          refine lv_istore (lv' := [(4, .int x5), (0, .ref t), (1, .ref o), (2, .int x2), (3, .int x3), (5, .int x5)]) hx hb dX3_isSame_503 hl (by decide) rfl (fun ls hl => ?_)
          refine lv_iinc (v := (x5 + 1)) (lv' := [(5, .int (x5 + 1)), (4, .int x5), (0, .ref t), (1, .ref o), (2, .int x2), (3, .int x3)]) hx hb dX3_isSame_505 hl (k := 5) rfl rfl (by decide) rfl (fun ls hl => ?_)
          refine lv_goto (tgt := 477) hx hb dX3_isSame_508 (by decide) ?_
          exact ih x2 x3 x5 (x5 + 1) S T h cc sc _ _ (by omega) (by omega) hP hD hS ls (lv_sub hl [2, 3, 4, 5, 1, 0] rfl) hf
  have L465 : ∀ (n : Nat) (x2 : Int32) (x3 : Int32) (S : RS) (T : RS) (h : PH) (cc sc : Nat) (H : Heap) (locs : List Loc), cc + (1) ≤ 23 → sc + (9) ≤ 149 → va_P D vwCl (hw (owl Z o a b S T) h) H → va_D A (hw (owl Z o a b S T) h) → va_S A s.heap H locs → ∀ ls : Array Slot, lv_has ls 11 [(0, .ref t), (1, .ref o), (2, .int x2), (3, .int x3)] → w_X3_isSame_L465 Z t K n x2 x3 S T h → W p l e rm_X3_isSame s m ([.ref t, .ref o] : List Value).toArray below meth c H locs cc sc Q (F0 m 465 ls []) := by
    intro n
    induction n with
    | zero =>
      intro x2 x3 S T h cc sc  H locs hcc hsc hP hD hS ls hl hf
      exact hf.elim
    | succ n ih =>
      intro x2 x3 S T h cc sc  H locs hcc hsc hP hD hS ls hl hf
      rw [w_X3_isSame_L465] at hf
      refine lv_iload_n hx hb dX3_isSame_465 rfl (lv_at hl 3 rfl) ?_
      refine lv_bipush (v := 24) hx hb dX3_isSame_466 (by decide) ?_
      refine lv_icmp_ge (tgt := 529) hx hb dX3_isSame_468 (by decide) (fun c7 => ?_) (fun c7 => ?_)
      · have hf := itP hf c7
        refine lv_bipush (v := 9) hx hb dX3_isSame_529 (by decide) ?_
        refine z_nA hf (by decide) hx hb (hts (.arrayClass .int) (List.mem_of_getElem? (i := 7) rfl)) hK hP hD hS hA (show cc + 1 ≤ 23 from by omega) (show sc + 9 ≤ 149 from by omega) dX3_isSame_531 (fun b8 h9 H hf hP hD hS => ?_)
        refine lv_dup hx hb dX3_isSame_533 rfl ?_
        refine lv_iconst (v := 0) hx hb dX3_isSame_534 (by decide) ?_
        refine lv_aload_n hx hb dX3_isSame_535 rfl (lv_at hl 0 rfl) ?_
        refine z_gI (C := RX3) (T := TX3) (N := 8) hf hx hb hts hin3 hown hK hP rfl (by decide) (hts (.fieldLink RX3 42 "PodGuidewayLaw$Sim" "minute" "I") (List.mem_of_getElem? (i := 12) rfl)) dX3_isSame_536 (fun v10 hf => ?_)
        refine z_sA hf hx hb hK hP hD hS dX3_isSame_539 (fun h11 H locs hf hP hD hS => ?_)
        refine lv_dup hx hb dX3_isSame_540 rfl ?_
        refine lv_iconst (v := 1) hx hb dX3_isSame_541 (by decide) ?_
        refine lv_aload_n hx hb dX3_isSame_542 rfl (lv_at hl 0 rfl) ?_
        refine z_gR (C := RX3) (T := TX3) (N := 8) hf hx hb hts hin3 hown hK hP rfl (by decide) (hts (.fieldLink RX3 7 "PodGuidewayLaw$Sim" "place" "[I") (List.mem_of_getElem? (i := 1) rfl)) dX3_isSame_543 (fun b12 hf => ?_)
        refine z_lI hf hx hb hK hP dX3_isSame_546 (fun v13 hf => ?_)
        refine z_sA hf hx hb hK hP hD hS dX3_isSame_547 (fun h14 H locs hf hP hD hS => ?_)
        refine lv_dup hx hb dX3_isSame_548 rfl ?_
        refine lv_iconst (v := 2) hx hb dX3_isSame_549 (by decide) ?_
        refine lv_aload_n hx hb dX3_isSame_550 rfl (lv_at hl 0 rfl) ?_
        refine z_gR (C := RX3) (T := TX3) (N := 8) hf hx hb hts hin3 hown hK hP rfl (by decide) (hts (.fieldLink RX3 24 "PodGuidewayLaw$Sim" "pods" "[LPodGuidewayLaw$Pod;") (List.mem_of_getElem? (i := 2) rfl)) dX3_isSame_551 (fun b15 hf => ?_)
        refine z_lQ (tz := 1) hf hx hb hK rfl hP dX3_isSame_554 (fun v16 hf => ?_)
        refine z_sA hf hx hb hK hP hD hS dX3_isSame_555 (fun h17 H locs hf hP hD hS => ?_)
        refine lv_dup hx hb dX3_isSame_556 rfl ?_
        refine lv_iconst (v := 3) hx hb dX3_isSame_557 (by decide) ?_
        refine lv_aload_n hx hb dX3_isSame_558 rfl (lv_at hl 0 rfl) ?_
        refine lv_iconst (v := 3) hx hb dX3_isSame_559 (by decide) ?_
        obtain ⟨hrc3, hf⟩ := hf
        refine zk_i hwX_owl (z_VP (As := [.int 3]) (rest := [.int 3, .ref b8, .ref b8]) hrc3 pE_ok hE hS hA ⟨hx, hb, hml, hown, hts⟩ (m_X3_told l D Z t 3 _ h17 hf) gX3_isSame_X3_told rfl rfl rfl hdv_X3_told ⟨Nat.le_of_ble_eq_true rfl, Nat.le_of_ble_eq_true rfl⟩ hK hP hD rfl hl.1 rfl (Nat.le_of_ble_eq_true rfl) dX3_isSame_560 ⟨(show (cc + 1) + 0 ≤ 23 from by omega), (show (sc + 9) + 0 ≤ 149 from by omega)⟩) hP hD hS hA (fun v19 h18 H locs hf hP hD hS => ?_)
        refine z_sA hf hx hb hK hP hD hS dX3_isSame_563 (fun h20 H locs hf hP hD hS => ?_)
        refine lv_dup hx hb dX3_isSame_564 rfl ?_
        refine lv_iconst (v := 4) hx hb dX3_isSame_565 (by decide) ?_
        refine lv_aload_n hx hb dX3_isSame_566 rfl (lv_at hl 0 rfl) ?_
        refine lv_iconst (v := 4) hx hb dX3_isSame_567 (by decide) ?_
        obtain ⟨hrc3, hf⟩ := hf
        refine zk_i hwX_owl (z_VP (As := [.int 4]) (rest := [.int 4, .ref b8, .ref b8]) hrc3 pE_ok hE hS hA ⟨hx, hb, hml, hown, hts⟩ (m_X3_told l D Z t 4 _ h20 hf) gX3_isSame_X3_told rfl rfl rfl hdv_X3_told ⟨Nat.le_of_ble_eq_true rfl, Nat.le_of_ble_eq_true rfl⟩ hK hP hD rfl hl.1 rfl (Nat.le_of_ble_eq_true rfl) dX3_isSame_568 ⟨(show (cc + 1) + 0 ≤ 23 from by omega), (show (sc + 9) + 0 ≤ 149 from by omega)⟩) hP hD hS hA (fun v22 h21 H locs hf hP hD hS => ?_)
        refine z_sA hf hx hb hK hP hD hS dX3_isSame_571 (fun h23 H locs hf hP hD hS => ?_)
        refine lv_dup hx hb dX3_isSame_572 rfl ?_
        refine lv_iconst (v := 5) hx hb dX3_isSame_573 (by decide) ?_
        refine lv_aload_n hx hb dX3_isSame_574 rfl (lv_at hl 0 rfl) ?_
        refine lv_iconst (v := 5) hx hb dX3_isSame_575 (by decide) ?_
        obtain ⟨hrc3, hf⟩ := hf
        refine zk_i hwX_owl (z_VP (As := [.int 5]) (rest := [.int 5, .ref b8, .ref b8]) hrc3 pE_ok hE hS hA ⟨hx, hb, hml, hown, hts⟩ (m_X3_told l D Z t 5 _ h23 hf) gX3_isSame_X3_told rfl rfl rfl hdv_X3_told ⟨Nat.le_of_ble_eq_true rfl, Nat.le_of_ble_eq_true rfl⟩ hK hP hD rfl hl.1 rfl (Nat.le_of_ble_eq_true rfl) dX3_isSame_576 ⟨(show (cc + 1) + 0 ≤ 23 from by omega), (show (sc + 9) + 0 ≤ 149 from by omega)⟩) hP hD hS hA (fun v25 h24 H locs hf hP hD hS => ?_)
        refine z_sA hf hx hb hK hP hD hS dX3_isSame_579 (fun h26 H locs hf hP hD hS => ?_)
        refine lv_dup hx hb dX3_isSame_580 rfl ?_
        refine lv_bipush (v := 6) hx hb dX3_isSame_581 (by decide) ?_
        refine lv_aload_n hx hb dX3_isSame_583 rfl (lv_at hl 0 rfl) ?_
        refine lv_bipush (v := 6) hx hb dX3_isSame_584 (by decide) ?_
        obtain ⟨hrc3, hf⟩ := hf
        refine zk_i hwX_owl (z_VP (As := [.int 6]) (rest := [.int 6, .ref b8, .ref b8]) hrc3 pE_ok hE hS hA ⟨hx, hb, hml, hown, hts⟩ (m_X3_told l D Z t 6 _ h26 hf) gX3_isSame_X3_told rfl rfl rfl hdv_X3_told ⟨Nat.le_of_ble_eq_true rfl, Nat.le_of_ble_eq_true rfl⟩ hK hP hD rfl hl.1 rfl (Nat.le_of_ble_eq_true rfl) dX3_isSame_586 ⟨(show (cc + 1) + 0 ≤ 23 from by omega), (show (sc + 9) + 0 ≤ 149 from by omega)⟩) hP hD hS hA (fun v28 h27 H locs hf hP hD hS => ?_)
        refine z_sA hf hx hb hK hP hD hS dX3_isSame_589 (fun h29 H locs hf hP hD hS => ?_)
        refine lv_dup hx hb dX3_isSame_590 rfl ?_
        refine lv_bipush (v := 7) hx hb dX3_isSame_591 (by decide) ?_
        refine lv_aload_n hx hb dX3_isSame_593 rfl (lv_at hl 0 rfl) ?_
        refine z_gI (C := RX3) (T := TX3) (N := 8) hf hx hb hts hin3 hown hK hP rfl (by decide) (hts (.fieldLink RX3 45 "PodGuidewayLaw$Sim" "answered" "I") (List.mem_of_getElem? (i := 13) rfl)) dX3_isSame_594 (fun v30 hf => ?_)
        refine z_sA hf hx hb hK hP hD hS dX3_isSame_597 (fun h31 H locs hf hP hD hS => ?_)
        refine lv_dup hx hb dX3_isSame_598 rfl ?_
        refine lv_bipush (v := 8) hx hb dX3_isSame_599 (by decide) ?_
        refine lv_aload_n hx hb dX3_isSame_601 rfl (lv_at hl 0 rfl) ?_
        refine z_gI (C := RX3) (T := TX3) (N := 8) hf hx hb hts hin3 hown hK hP rfl (by decide) (hts (.fieldLink RX3 48 "PodGuidewayLaw$Sim" "boarded" "I") (List.mem_of_getElem? (i := 14) rfl)) dX3_isSame_602 (fun v32 hf => ?_)
        refine z_sA hf hx hb hK hP hD hS dX3_isSame_605 (fun h33 H locs hf hP hD hS => ?_)
        refine lv_astore_n (lv' := [(3, .ref b8), (0, .ref t), (1, .ref o), (2, .int x2)]) hx hb dX3_isSame_606 rfl hl (by decide) rfl (fun ls hl => ?_)
        refine lv_iconst (v := 0) hx hb dX3_isSame_607 (by decide) ?_
        refine lv_istore (lv' := [(4, .int 0), (3, .ref b8), (0, .ref t), (1, .ref o), (2, .int x2)]) hx hb dX3_isSame_608 hl (by decide) rfl (fun ls hl => ?_)
        exact L610 FU x2 b8 0 S T h33 (cc + 1) (sc + 9) _ _ (by omega) (by omega) hP hD hS ls (lv_sub hl [2, 3, 4, 1, 0] rfl) hf
      · have hf := ifP hf c7
        refine lv_iconst (v := (-1)) hx hb dX3_isSame_471 (by decide) ?_
        refine lv_istore (lv' := [(4, .int (-1)), (0, .ref t), (1, .ref o), (2, .int x2), (3, .int x3)]) hx hb dX3_isSame_472 hl (by decide) rfl (fun ls hl => ?_)
        refine lv_iconst (v := 0) hx hb dX3_isSame_474 (by decide) ?_
        refine lv_istore (lv' := [(5, .int 0), (4, .int (-1)), (0, .ref t), (1, .ref o), (2, .int x2), (3, .int x3)]) hx hb dX3_isSame_475 hl (by decide) rfl (fun ls hl => ?_)
        exact L477 (1) (9) _ ih FU x2 x3 (-1) 0 S T h cc sc _ _ (by omega) (by omega) hP hD hS ls (lv_sub hl [2, 3, 4, 5, 1, 0] rfl) hf
  have L427 : ∀ (rc rs : Nat), ∀ (κ312 : Int32 → Int32 → RS → RS → PH → Prop), (∀ (x2 : Int32) (x3 : Int32) (S : RS) (T : RS) (h : PH) (cc sc : Nat) (H : Heap) (locs : List Loc), cc + (rc) ≤ 23 → sc + (rs) ≤ 149 → va_P D vwCl (hw (owl Z o a b S T) h) H → va_D A (hw (owl Z o a b S T) h) → va_S A s.heap H locs → ∀ ls : Array Slot, lv_has ls 11 [(0, .ref t), (1, .ref o), (2, .int x2), (3, .int x3)] → κ312 x2 x3 S T h → W p l e rm_X3_isSame s m ([.ref t, .ref o] : List Value).toArray below meth c H locs cc sc Q (F0 m 312 ls [])) → ∀ (n : Nat) (x2 : Int32) (x3 : Int32) (x6 : Nat) (x7 : Int32) (S : RS) (T : RS) (h : PH) (cc sc : Nat) (H : Heap) (locs : List Loc), cc + (0 + rc) ≤ 23 → sc + (0 + rs) ≤ 149 → va_P D vwCl (hw (owl Z o a b S T) h) H → va_D A (hw (owl Z o a b S T) h) → va_S A s.heap H locs → ∀ ls : Array Slot, lv_has ls 11 [(0, .ref t), (1, .ref o), (2, .int x2), (3, .int x3), (6, .ref x6), (7, .int x7)] → w_X3_isSame_L427 Z t κ312 K n x2 x3 x6 x7 S T h → W p l e rm_X3_isSame s m ([.ref t, .ref o] : List Value).toArray below meth c H locs cc sc Q (F0 m 427 ls []) := by
    intro rc rs κ312 hκ312 n
    induction n with
    | zero =>
      intro x2 x3 x6 x7 S T h cc sc  H locs hcc hsc hP hD hS ls hl hf
      exact hf.elim
    | succ n ih =>
      intro x2 x3 x6 x7 S T h cc sc  H locs hcc hsc hP hD hS ls hl hf
      rw [w_X3_isSame_L427] at hf
      refine lv_iload hx hb dX3_isSame_427 (lv_at hl 5 rfl) ?_
      refine lv_bipush (v := 6) hx hb dX3_isSame_429 (by decide) ?_
      refine lv_icmp_ge (tgt := 457) hx hb dX3_isSame_431 (by decide) (fun c70 => ?_) (fun c70 => ?_)
      · have hf := itP hf c70
        refine lv_iinc (v := (x3 + 1)) (lv' := [(3, .int (x3 + 1)), (0, .ref t), (1, .ref o), (2, .int x2), (6, .ref x6), (7, .int x7)]) hx hb dX3_isSame_457 hl (k := 3) rfl rfl (by decide) rfl (fun ls hl => ?_)
        refine lv_goto (tgt := 312) hx hb dX3_isSame_460 (by decide) ?_
        exact hκ312 x2 (x3 + 1) S T h cc sc _ _ (by omega) (by omega) hP hD hS ls (lv_sub hl [1, 2, 3, 0] rfl) hf
      · have hf := ifP hf c70
        refine lv_aload_n hx hb dX3_isSame_434 rfl (lv_at hl 1 rfl) ?_
        refine lv_iload_n hx hb dX3_isSame_435 rfl (lv_at hl 3 rfl) ?_
        refine lv_iload hx hb dX3_isSame_436 (lv_at hl 5 rfl) ?_
        obtain ⟨v72, hv71, hf⟩ := hf
        refine zc_i (z_VG (As := [.int x3, .int x7]) (rest := []) (q0 := 0) (ci := 1) xE_ok hE.1 hS hA ⟨hx, hb, hml, hown, hts⟩ (ok_X1_told l D Z o a b S T x3 x7 v72 hv71) gX3_isSame_X1_told rfl rfl rfl hdv_X1_told ⟨Nat.le_of_ble_eq_true rfl, Nat.le_of_ble_eq_true rfl⟩ hK (hw_X hP) (hw_XD hD) rfl rfl rfl rfl hl.1 rfl (Nat.le_of_ble_eq_true rfl) dX3_isSame_438 ⟨(show cc + 0 ≤ 23 from by omega), (show sc + 0 ≤ 149 from by omega)⟩) hP hS hA (fun H locs hP hS => ?_)
        refine lv_aload hx hb dX3_isSame_441 (lv_at hl 4 rfl) ?_
        refine lv_iload hx hb dX3_isSame_443 (lv_at hl 5 rfl) ?_
        refine z_aI hf hx hb hK hP dX3_isSame_445 (fun v73 hf => ?_)
        refine lv_icmp_eq (tgt := 451) hx hb dX3_isSame_446 (by decide) (fun c74 => ?_) (fun c74 => ?_)
        · have hf := itP hf c74
          refine lv_iinc (v := (x7 + 1)) (lv' := [(7, .int (x7 + 1)), (0, .ref t), (1, .ref o), (2, .int x2), (3, .int x3), (6, .ref x6)]) hx hb dX3_isSame_451 hl (k := 5) rfl rfl (by decide) rfl (fun ls hl => ?_)
          refine lv_goto (tgt := 427) hx hb dX3_isSame_454 (by decide) ?_
          exact ih x2 x3 x6 (x7 + 1) S T h cc sc _ _ (by omega) (by omega) hP hD hS ls (lv_sub hl [1, 2, 3, 4, 5, 0] rfl) hf
        · have hf := ifP hf c74
          refine lv_iconst (v := 0) hx hb dX3_isSame_449 (by decide) ?_
          exact hf.elim
  have L413 : ∀ (rc rs : Nat), ∀ (κ312 : Int32 → Int32 → RS → RS → PH → Prop), (∀ (x2 : Int32) (x3 : Int32) (S : RS) (T : RS) (h : PH) (cc sc : Nat) (H : Heap) (locs : List Loc), cc + (rc) ≤ 23 → sc + (rs) ≤ 149 → va_P D vwCl (hw (owl Z o a b S T) h) H → va_D A (hw (owl Z o a b S T) h) → va_S A s.heap H locs → ∀ ls : Array Slot, lv_has ls 11 [(0, .ref t), (1, .ref o), (2, .int x2), (3, .int x3)] → κ312 x2 x3 S T h → W p l e rm_X3_isSame s m ([.ref t, .ref o] : List Value).toArray below meth c H locs cc sc Q (F0 m 312 ls [])) → ∀ (y0 : Int32) (y1 : Int32) (y2 : Nat) (y3 : Nat) (x2 : Int32) (x3 : Int32) (x4 : Nat) (S : RS) (T : RS) (h : PH) (cc sc : Nat) (H : Heap) (locs : List Loc), cc + (0 + rc) ≤ 23 → sc + (0 + rs) ≤ 149 → va_P D vwCl (hw (owl Z o a b S T) h) H → va_D A (hw (owl Z o a b S T) h) → va_S A s.heap H locs → ∀ ls : Array Slot, lv_has ls 11 [(0, .ref t), (1, .ref o), (2, .int x2), (3, .int x3), (4, .ref x4)] → w_X3_isSame_L413 Z t κ312 K y0 y1 y2 y3 x2 x3 x4 S T h → W p l e rm_X3_isSame s m ([.ref t, .ref o] : List Value).toArray below meth c H locs cc sc Q (F0 m 413 ls [.int y0, .int y1, .ref y2, .ref y3]) := by
    intro rc rs κ312 hκ312 y0 y1 y2 y3 x2 x3 x4 S T h cc sc H locs hcc hsc hP hD hS ls hl hf
    unfold w_X3_isSame_L413 at hf
    refine z_sA hf hx hb hK hP hD hS dX3_isSame_413 (fun h67 H locs hf hP hD hS => ?_)
    refine lv_dup hx hb dX3_isSame_414 rfl ?_
    refine lv_iconst (v := 5) hx hb dX3_isSame_415 (by decide) ?_
    refine lv_aload hx hb dX3_isSame_416 (lv_at hl 4 rfl) ?_
    refine z_gI (C := RX2) (T := TX2) (N := 7) hf hx hb hts hin2 hown hK hP rfl (by decide) (hts (.fieldLink RX3 80 "PodGuidewayLaw$Pod" "missed" "I") (List.mem_of_getElem? (i := 11) rfl)) dX3_isSame_418 (fun v68 hf => ?_)
    refine z_sA hf hx hb hK hP hD hS dX3_isSame_421 (fun h69 H locs hf hP hD hS => ?_)
    refine lv_astore (lv' := [(6, .ref y3), (0, .ref t), (1, .ref o), (2, .int x2), (3, .int x3), (4, .ref x4)]) hx hb dX3_isSame_422 hl (by decide) rfl (fun ls hl => ?_)
    refine lv_iconst (v := 0) hx hb dX3_isSame_424 (by decide) ?_
    refine lv_istore (lv' := [(7, .int 0), (6, .ref y3), (0, .ref t), (1, .ref o), (2, .int x2), (3, .int x3), (4, .ref x4)]) hx hb dX3_isSame_425 hl (by decide) rfl (fun ls hl => ?_)
    exact L427 rc rs κ312 hκ312 FU x2 x3 y3 0 S T h69 cc sc _ _ (by omega) (by omega) hP hD hS ls (lv_sub hl [2, 3, 4, 5, 1, 0] rfl) hf
  have L389 : ∀ (rc rs : Nat), ∀ (κ312 : Int32 → Int32 → RS → RS → PH → Prop), (∀ (x2 : Int32) (x3 : Int32) (S : RS) (T : RS) (h : PH) (cc sc : Nat) (H : Heap) (locs : List Loc), cc + (rc) ≤ 23 → sc + (rs) ≤ 149 → va_P D vwCl (hw (owl Z o a b S T) h) H → va_D A (hw (owl Z o a b S T) h) → va_S A s.heap H locs → ∀ ls : Array Slot, lv_has ls 11 [(0, .ref t), (1, .ref o), (2, .int x2), (3, .int x3)] → κ312 x2 x3 S T h → W p l e rm_X3_isSame s m ([.ref t, .ref o] : List Value).toArray below meth c H locs cc sc Q (F0 m 312 ls [])) → ∀ (y0 : Int32) (y1 : Int32) (y2 : Nat) (y3 : Nat) (x2 : Int32) (x3 : Int32) (x4 : Nat) (S : RS) (T : RS) (h : PH) (cc sc : Nat) (H : Heap) (locs : List Loc), cc + (0 + rc) ≤ 23 → sc + (0 + rs) ≤ 149 → va_P D vwCl (hw (owl Z o a b S T) h) H → va_D A (hw (owl Z o a b S T) h) → va_S A s.heap H locs → ∀ ls : Array Slot, lv_has ls 11 [(0, .ref t), (1, .ref o), (2, .int x2), (3, .int x3), (4, .ref x4)] → w_X3_isSame_L389 Z t κ312 K y0 y1 y2 y3 x2 x3 x4 S T h → W p l e rm_X3_isSame s m ([.ref t, .ref o] : List Value).toArray below meth c H locs cc sc Q (F0 m 389 ls [.int y0, .int y1, .ref y2, .ref y3]) := by
    intro rc rs κ312 hκ312 y0 y1 y2 y3 x2 x3 x4 S T h cc sc H locs hcc hsc hP hD hS ls hl hf
    unfold w_X3_isSame_L389 at hf
    refine z_sA hf hx hb hK hP hD hS dX3_isSame_389 (fun h62 H locs hf hP hD hS => ?_)
    refine lv_dup hx hb dX3_isSame_390 rfl ?_
    refine lv_iconst (v := 3) hx hb dX3_isSame_391 (by decide) ?_
    refine lv_aload hx hb dX3_isSame_392 (lv_at hl 4 rfl) ?_
    refine z_gI (C := RX2) (T := TX2) (N := 7) hf hx hb hts hin2 hown hK hP rfl (by decide) (hts (.fieldLink RX3 64 "PodGuidewayLaw$Pod" "goal" "I") (List.mem_of_getElem? (i := 5) rfl)) dX3_isSame_394 (fun v63 hf => ?_)
    refine z_sA hf hx hb hK hP hD hS dX3_isSame_397 (fun h64 H locs hf hP hD hS => ?_)
    refine lv_dup hx hb dX3_isSame_398 rfl ?_
    refine lv_iconst (v := 4) hx hb dX3_isSame_399 (by decide) ?_
    refine lv_aload hx hb dX3_isSame_400 (lv_at hl 4 rfl) ?_
    refine z_gI (C := RX2) (T := TX2) (N := 7) hf hx hb hts hin2 hown hK hP rfl (by decide) (hts (.fieldLink RX3 67 "PodGuidewayLaw$Pod" "rider" "I") (List.mem_of_getElem? (i := 10) rfl)) dX3_isSame_402 (fun v65 hf => ?_)
    refine lv_if_le (tgt := 412) hx hb dX3_isSame_405 (by decide) (fun c66 => ?_) (fun c66 => ?_)
    · have hf := itP hf c66
      refine lv_iconst (v := 0) hx hb dX3_isSame_412 (by decide) ?_
      exact L413 rc rs κ312 hκ312 0 4 y3 y3 x2 x3 x4 S T h64 cc sc _ _ (by omega) (by omega) hP hD hS ls (lv_sub hl [0, 1, 2, 3, 4] rfl) hf
    · have hf := ifP hf c66
      refine lv_iconst (v := 1) hx hb dX3_isSame_408 (by decide) ?_
      refine lv_goto (tgt := 413) hx hb dX3_isSame_409 (by decide) ?_
      exact L413 rc rs κ312 hκ312 1 4 y3 y3 x2 x3 x4 S T h64 cc sc _ _ (by omega) (by omega) hP hD hS ls (lv_sub hl [0, 1, 2, 3, 4] rfl) hf
  have L372 : ∀ (rc rs : Nat), ∀ (κ312 : Int32 → Int32 → RS → RS → PH → Prop), (∀ (x2 : Int32) (x3 : Int32) (S : RS) (T : RS) (h : PH) (cc sc : Nat) (H : Heap) (locs : List Loc), cc + (rc) ≤ 23 → sc + (rs) ≤ 149 → va_P D vwCl (hw (owl Z o a b S T) h) H → va_D A (hw (owl Z o a b S T) h) → va_S A s.heap H locs → ∀ ls : Array Slot, lv_has ls 11 [(0, .ref t), (1, .ref o), (2, .int x2), (3, .int x3)] → κ312 x2 x3 S T h → W p l e rm_X3_isSame s m ([.ref t, .ref o] : List Value).toArray below meth c H locs cc sc Q (F0 m 312 ls [])) → ∀ (y0 : Int32) (y1 : Int32) (y2 : Nat) (y3 : Nat) (x2 : Int32) (x3 : Int32) (x4 : Nat) (x5 : Int32) (S : RS) (T : RS) (h : PH) (cc sc : Nat) (H : Heap) (locs : List Loc), cc + (0 + rc) ≤ 23 → sc + (0 + rs) ≤ 149 → va_P D vwCl (hw (owl Z o a b S T) h) H → va_D A (hw (owl Z o a b S T) h) → va_S A s.heap H locs → ∀ ls : Array Slot, lv_has ls 11 [(0, .ref t), (1, .ref o), (2, .int x2), (3, .int x3), (4, .ref x4), (5, .int x5)] → w_X3_isSame_L372 Z t κ312 K y0 y1 y2 y3 x2 x3 x4 x5 S T h → W p l e rm_X3_isSame s m ([.ref t, .ref o] : List Value).toArray below meth c H locs cc sc Q (F0 m 372 ls [.int y0, .int y1, .ref y2, .ref y3]) := by
    intro rc rs κ312 hκ312 y0 y1 y2 y3 x2 x3 x4 x5 S T h cc sc H locs hcc hsc hP hD hS ls hl hf
    unfold w_X3_isSame_L372 at hf
    refine z_sA hf hx hb hK hP hD hS dX3_isSame_372 (fun h59 H locs hf hP hD hS => ?_)
    refine lv_dup hx hb dX3_isSame_373 rfl ?_
    refine lv_iconst (v := 2) hx hb dX3_isSame_374 (by decide) ?_
    refine lv_iload hx hb dX3_isSame_375 (lv_at hl 5 rfl) ?_
    refine lv_if_eq (tgt := 384) hx hb dX3_isSame_377 (by decide) (fun c60 => ?_) (fun c60 => ?_)
    · have hf := itP hf c60
      refine lv_aload hx hb dX3_isSame_384 (lv_at hl 4 rfl) ?_
      refine z_gI (C := RX2) (T := TX2) (N := 7) hf hx hb hts hin2 hown hK hP rfl (by decide) (hts (.fieldLink RX3 57 "PodGuidewayLaw$Pod" "berth" "I") (List.mem_of_getElem? (i := 9) rfl)) dX3_isSame_386 (fun v61 hf => ?_)
      exact L389 rc rs κ312 hκ312 v61 2 y3 y3 x2 x3 x4 S T h59 cc sc _ _ (by omega) (by omega) hP hD hS ls (lv_sub hl [0, 1, 2, 3, 4] rfl) hf
    · have hf := ifP hf c60
      refine lv_iconst (v := (-1)) hx hb dX3_isSame_380 (by decide) ?_
      refine lv_goto (tgt := 389) hx hb dX3_isSame_381 (by decide) ?_
      exact L389 rc rs κ312 hκ312 (-1) 2 y3 y3 x2 x3 x4 S T h59 cc sc _ _ (by omega) (by omega) hP hD hS ls (lv_sub hl [0, 1, 2, 3, 4] rfl) hf
  have L342 : ∀ (rc rs : Nat), ∀ (κ312 : Int32 → Int32 → RS → RS → PH → Prop), (∀ (x2 : Int32) (x3 : Int32) (S : RS) (T : RS) (h : PH) (cc sc : Nat) (H : Heap) (locs : List Loc), cc + (rc) ≤ 23 → sc + (rs) ≤ 149 → va_P D vwCl (hw (owl Z o a b S T) h) H → va_D A (hw (owl Z o a b S T) h) → va_S A s.heap H locs → ∀ ls : Array Slot, lv_has ls 11 [(0, .ref t), (1, .ref o), (2, .int x2), (3, .int x3)] → κ312 x2 x3 S T h → W p l e rm_X3_isSame s m ([.ref t, .ref o] : List Value).toArray below meth c H locs cc sc Q (F0 m 312 ls [])) → ∀ (y0 : Int32) (x2 : Int32) (x3 : Int32) (x4 : Nat) (S : RS) (T : RS) (h : PH) (cc sc : Nat) (H : Heap) (locs : List Loc), cc + (1 + rc) ≤ 23 → sc + (6 + rs) ≤ 149 → va_P D vwCl (hw (owl Z o a b S T) h) H → va_D A (hw (owl Z o a b S T) h) → va_S A s.heap H locs → ∀ ls : Array Slot, lv_has ls 11 [(0, .ref t), (1, .ref o), (2, .int x2), (3, .int x3), (4, .ref x4)] → w_X3_isSame_L342 Z t κ312 K y0 x2 x3 x4 S T h → W p l e rm_X3_isSame s m ([.ref t, .ref o] : List Value).toArray below meth c H locs cc sc Q (F0 m 342 ls [.int y0]) := by
    intro rc rs κ312 hκ312 y0 x2 x3 x4 S T h cc sc H locs hcc hsc hP hD hS ls hl hf
    unfold w_X3_isSame_L342 at hf
    refine lv_istore (lv' := [(5, .int y0), (0, .ref t), (1, .ref o), (2, .int x2), (3, .int x3), (4, .ref x4)]) hx hb dX3_isSame_342 hl (by decide) rfl (fun ls hl => ?_)
    refine lv_bipush (v := 6) hx hb dX3_isSame_344 (by decide) ?_
    refine z_nA hf (by decide) hx hb (hts (.arrayClass .int) (List.mem_of_getElem? (i := 7) rfl)) hK hP hD hS hA (show cc + 1 ≤ 23 from by omega) (show sc + 6 ≤ 149 from by omega) dX3_isSame_346 (fun b53 h54 H hf hP hD hS => ?_)
    refine lv_dup hx hb dX3_isSame_348 rfl ?_
    refine lv_iconst (v := 0) hx hb dX3_isSame_349 (by decide) ?_
    refine lv_aload hx hb dX3_isSame_350 (lv_at hl 5 rfl) ?_
    refine z_gI (C := RX2) (T := TX2) (N := 7) hf hx hb hts hin2 hown hK hP rfl (by decide) (hts (.fieldLink RX3 51 "PodGuidewayLaw$Pod" "slot" "I") (List.mem_of_getElem? (i := 3) rfl)) dX3_isSame_352 (fun v55 hf => ?_)
    refine z_sA hf hx hb hK hP hD hS dX3_isSame_355 (fun h56 H locs hf hP hD hS => ?_)
    refine lv_dup hx hb dX3_isSame_356 rfl ?_
    refine lv_iconst (v := 1) hx hb dX3_isSame_357 (by decide) ?_
    refine lv_iload hx hb dX3_isSame_358 (lv_at hl 0 rfl) ?_
    refine lv_if_eq (tgt := 367) hx hb dX3_isSame_360 (by decide) (fun c57 => ?_) (fun c57 => ?_)
    · have hf := itP hf c57
      refine lv_aload hx hb dX3_isSame_367 (lv_at hl 5 rfl) ?_
      refine z_gI (C := RX2) (T := TX2) (N := 7) hf hx hb hts hin2 hown hK hP rfl (by decide) (hts (.fieldLink RX3 54 "PodGuidewayLaw$Pod" "at" "I") (List.mem_of_getElem? (i := 4) rfl)) dX3_isSame_369 (fun v58 hf => ?_)
      exact L372 rc rs κ312 hκ312 v58 1 b53 b53 x2 x3 x4 y0 S T h56 (cc + 1) (sc + 6) _ _ (by omega) (by omega) hP hD hS ls (lv_sub hl [1, 2, 3, 4, 5, 0] rfl) hf
    · have hf := ifP hf c57
      refine lv_iconst (v := (-1)) hx hb dX3_isSame_363 (by decide) ?_
      refine lv_goto (tgt := 372) hx hb dX3_isSame_364 (by decide) ?_
      exact L372 rc rs κ312 hκ312 (-1) 1 b53 b53 x2 x3 x4 y0 S T h56 (cc + 1) (sc + 6) _ _ (by omega) (by omega) hP hD hS ls (lv_sub hl [1, 2, 3, 4, 5, 0] rfl) hf
  have L312 : ∀ (n : Nat) (x2 : Int32) (x3 : Int32) (S : RS) (T : RS) (h : PH) (cc sc : Nat) (H : Heap) (locs : List Loc), cc + (1 * n + 1) ≤ 23 → sc + (6 * n + 9) ≤ 149 → va_P D vwCl (hw (owl Z o a b S T) h) H → va_D A (hw (owl Z o a b S T) h) → va_S A s.heap H locs → ∀ ls : Array Slot, lv_has ls 11 [(0, .ref t), (1, .ref o), (2, .int x2), (3, .int x3)] → w_X3_isSame_L312 Z t K n x2 x3 S T h → W p l e rm_X3_isSame s m ([.ref t, .ref o] : List Value).toArray below meth c H locs cc sc Q (F0 m 312 ls []) := by
    intro n
    induction n with
    | zero =>
      intro x2 x3 S T h cc sc  H locs hcc hsc hP hD hS ls hl hf
      exact hf.elim
    | succ n ih =>
      intro x2 x3 S T h cc sc  H locs hcc hsc hP hD hS ls hl hf
      rw [w_X3_isSame_L312] at hf
      refine lv_iload_n hx hb dX3_isSame_312 rfl (lv_at hl 3 rfl) ?_
      refine lv_aload_n hx hb dX3_isSame_313 rfl (lv_at hl 0 rfl) ?_
      refine z_gR (C := RX3) (T := TX3) (N := 8) hf hx hb hts hin3 hown hK hP rfl (by decide) (hts (.fieldLink RX3 24 "PodGuidewayLaw$Sim" "pods" "[LPodGuidewayLaw$Pod;") (List.mem_of_getElem? (i := 2) rfl)) dX3_isSame_314 (fun b4 hf => ?_)
      refine z_lQ (tz := 1) hf hx hb hK rfl hP dX3_isSame_317 (fun v5 hf => ?_)
      refine lv_icmp_ge (tgt := 463) hx hb dX3_isSame_318 (by decide) (fun c6 => ?_) (fun c6 => ?_)
      · have hf := itP hf c6
        refine lv_iconst (v := 0) hx hb dX3_isSame_463 (by decide) ?_
        refine lv_istore_n (lv' := [(3, .int 0), (0, .ref t), (1, .ref o), (2, .int x2)]) hx hb dX3_isSame_464 rfl hl (by decide) rfl (fun ls hl => ?_)
        exact L465 FU x2 0 S T h cc sc _ _ (by omega) (by omega) hP hD hS ls (lv_sub hl [1, 2, 3, 0] rfl) hf
      · have hf := ifP hf c6
        refine lv_aload_n hx hb dX3_isSame_321 rfl (lv_at hl 0 rfl) ?_
        refine z_gR (C := RX3) (T := TX3) (N := 8) hf hx hb hts hin3 hown hK hP rfl (by decide) (hts (.fieldLink RX3 24 "PodGuidewayLaw$Sim" "pods" "[LPodGuidewayLaw$Pod;") (List.mem_of_getElem? (i := 2) rfl)) dX3_isSame_322 (fun b49 hf => ?_)
        refine lv_iload_n hx hb dX3_isSame_325 rfl (lv_at hl 3 rfl) ?_
        refine z_aQ (tz := 1) hf hx hb hK rfl rfl hP dX3_isSame_326 (fun b50 hf => ?_)
        refine lv_astore (lv' := [(4, .ref b50), (0, .ref t), (1, .ref o), (2, .int x2), (3, .int x3)]) hx hb dX3_isSame_327 hl (by decide) rfl (fun ls hl => ?_)
        refine lv_aload hx hb dX3_isSame_329 (lv_at hl 0 rfl) ?_
        refine z_gI (C := RX2) (T := TX2) (N := 7) hf hx hb hts hin2 hown hK hP rfl (by decide) (hts (.fieldLink RX3 51 "PodGuidewayLaw$Pod" "slot" "I") (List.mem_of_getElem? (i := 3) rfl)) dX3_isSame_331 (fun v51 hf => ?_)
        refine lv_if_lt (tgt := 341) hx hb dX3_isSame_334 (by decide) (fun c52 => ?_) (fun c52 => ?_)
        · have hf := itP hf c52
          refine lv_iconst (v := 0) hx hb dX3_isSame_341 (by decide) ?_
          exact L342 (1 * n + 1) (6 * n + 9) _ ih 0 x2 x3 b50 S T h cc sc _ _ (by omega) (by omega) hP hD hS ls (lv_sub hl [1, 2, 3, 4, 0] rfl) hf
        · have hf := ifP hf c52
          refine lv_iconst (v := 1) hx hb dX3_isSame_337 (by decide) ?_
          refine lv_goto (tgt := 342) hx hb dX3_isSame_338 (by decide) ?_
          exact L342 (1 * n + 1) (6 * n + 9) _ ih 1 x2 x3 b50 S T h cc sc _ _ (by omega) (by omega) hP hD hS ls (lv_sub hl [1, 2, 3, 4, 0] rfl) hf
  have L254 : ∀ (rc rs : Nat), ∀ (κ4 : Int32 → Int32 → RS → RS → PH → Prop), (∀ (x2 : Int32) (x3 : Int32) (S : RS) (T : RS) (h : PH) (cc sc : Nat) (H : Heap) (locs : List Loc), cc + (rc) ≤ 23 → sc + (rs) ≤ 149 → va_P D vwCl (hw (owl Z o a b S T) h) H → va_D A (hw (owl Z o a b S T) h) → va_S A s.heap H locs → ∀ ls : Array Slot, lv_has ls 11 [(0, .ref t), (1, .ref o), (2, .int x2), (3, .int x3)] → κ4 x2 x3 S T h → W p l e rm_X3_isSame s m ([.ref t, .ref o] : List Value).toArray below meth c H locs cc sc Q (F0 m 4 ls [])) → ∀ (n : Nat) (x2 : Int32) (x3 : Int32) (x6 : Int32) (x7 : Nat) (x8 : Int32) (S : RS) (T : RS) (h : PH) (cc sc : Nat) (H : Heap) (locs : List Loc), cc + (0 + rc) ≤ 23 → sc + (0 + rs) ≤ 149 → va_P D vwCl (hw (owl Z o a b S T) h) H → va_D A (hw (owl Z o a b S T) h) → va_S A s.heap H locs → ∀ ls : Array Slot, lv_has ls 11 [(0, .ref t), (1, .ref o), (2, .int x2), (3, .int x3), (6, .int x6), (7, .ref x7), (8, .int x8)] → w_X3_isSame_L254 Z t κ4 K n x2 x3 x6 x7 x8 S T h → W p l e rm_X3_isSame s m ([.ref t, .ref o] : List Value).toArray below meth c H locs cc sc Q (F0 m 254 ls []) := by
    intro rc rs κ4 hκ4 n
    induction n with
    | zero =>
      intro x2 x3 x6 x7 x8 S T h cc sc  H locs hcc hsc hP hD hS ls hl hf
      exact hf.elim
    | succ n ih =>
      intro x2 x3 x6 x7 x8 S T h cc sc  H locs hcc hsc hP hD hS ls hl hf
      rw [w_X3_isSame_L254] at hf
      refine lv_iload hx hb dX3_isSame_254 (lv_at hl 6 rfl) ?_
      refine lv_bipush (v := 7) hx hb dX3_isSame_256 (by decide) ?_
      refine lv_icmp_ge (tgt := 284) hx hb dX3_isSame_258 (by decide) (fun c100 => ?_) (fun c100 => ?_)
      · have hf := itP hf c100
        refine lv_aload_n hx hb dX3_isSame_284 rfl (lv_at hl 1 rfl) ?_
        refine lv_iload_n hx hb dX3_isSame_285 rfl (lv_at hl 3 rfl) ?_
        obtain ⟨v102, hv101, hf⟩ := hf
        refine zc_i (z_VG (As := [.int x3]) (rest := []) (q0 := 0) (ci := 1) xE_ok hE.1 hS hA ⟨hx, hb, hml, hown, hts⟩ (ok_X1_answers l D Z o a b S T x3 v102 hv101) gX3_isSame_X1_answers rfl rfl rfl hdv_X1_answers ⟨Nat.le_of_ble_eq_true rfl, Nat.le_of_ble_eq_true rfl⟩ hK (hw_X hP) (hw_XD hD) rfl rfl rfl rfl hl.1 rfl (Nat.le_of_ble_eq_true rfl) dX3_isSame_286 ⟨(show cc + 0 ≤ 23 from by omega), (show sc + 0 ≤ 149 from by omega)⟩) hP hS hA (fun H locs hP hS => ?_)
        refine lv_aload_n hx hb dX3_isSame_289 rfl (lv_at hl 0 rfl) ?_
        refine lv_iload_n hx hb dX3_isSame_290 rfl (lv_at hl 3 rfl) ?_
        obtain ⟨hrc3, hf⟩ := hf
        refine zk_i hwX_owl (z_VP (As := [.int x3]) (rest := [.int v102]) hrc3 pE_ok hE hS hA ⟨hx, hb, hml, hown, hts⟩ (m_X3_answer l D Z t x3 _ h hf) gX3_isSame_X3_answer rfl rfl rfl hdv_X3_answer ⟨Nat.le_of_ble_eq_true rfl, Nat.le_of_ble_eq_true rfl⟩ hK hP hD rfl hl.1 rfl (Nat.le_of_ble_eq_true rfl) dX3_isSame_291 ⟨(show cc + 0 ≤ 23 from by omega), (show sc + 0 ≤ 149 from by omega)⟩) hP hD hS hA (fun v104 h103 H locs hf hP hD hS => ?_)
        refine lv_icmp_eq (tgt := 299) hx hb dX3_isSame_294 (by decide) (fun c105 => ?_) (fun c105 => ?_)
        · have hf := itP hf c105
          refine lv_iload_n hx hb dX3_isSame_299 rfl (lv_at hl 2 rfl) ?_
          refine lv_iload hx hb dX3_isSame_300 (lv_at hl 4 rfl) ?_
          refine lv_iadd hx hb dX3_isSame_302 ?_
          refine lv_istore_n (lv' := [(2, .int (x2 + x6)), (0, .ref t), (1, .ref o), (3, .int x3), (6, .int x6), (7, .ref x7), (8, .int x8)]) hx hb dX3_isSame_303 rfl hl (by decide) rfl (fun ls hl => ?_)
          refine lv_iinc (v := (x3 + 1)) (lv' := [(3, .int (x3 + 1)), (2, .int (x2 + x6)), (0, .ref t), (1, .ref o), (6, .int x6), (7, .ref x7), (8, .int x8)]) hx hb dX3_isSame_304 hl (k := 3) rfl rfl (by decide) rfl (fun ls hl => ?_)
          refine lv_goto (tgt := 4) hx hb dX3_isSame_307 (by decide) ?_
          exact hκ4 (x2 + x6) (x3 + 1) S T h103 cc sc _ _ (by omega) (by omega) hP hD hS ls (lv_sub hl [2, 3, 1, 0] rfl) hf
        · have hf := ifP hf c105
          refine lv_iconst (v := 0) hx hb dX3_isSame_297 (by decide) ?_
          exact hf.elim
      · have hf := ifP hf c100
        refine lv_aload_n hx hb dX3_isSame_261 rfl (lv_at hl 1 rfl) ?_
        refine lv_iload_n hx hb dX3_isSame_262 rfl (lv_at hl 3 rfl) ?_
        refine lv_iload hx hb dX3_isSame_263 (lv_at hl 6 rfl) ?_
        obtain ⟨v107, hv106, hf⟩ := hf
        refine zc_i (z_VG (As := [.int x3, .int x8]) (rest := []) (q0 := 0) (ci := 1) xE_ok hE.1 hS hA ⟨hx, hb, hml, hown, hts⟩ (ok_X1_station l D Z o a b S T x3 x8 v107 hv106) gX3_isSame_X1_station rfl rfl rfl hdv_X1_station ⟨Nat.le_of_ble_eq_true rfl, Nat.le_of_ble_eq_true rfl⟩ hK (hw_X hP) (hw_XD hD) rfl rfl rfl rfl hl.1 rfl (Nat.le_of_ble_eq_true rfl) dX3_isSame_265 ⟨(show cc + 0 ≤ 23 from by omega), (show sc + 0 ≤ 149 from by omega)⟩) hP hS hA (fun H locs hP hS => ?_)
        refine lv_aload hx hb dX3_isSame_268 (lv_at hl 5 rfl) ?_
        refine lv_iload hx hb dX3_isSame_270 (lv_at hl 6 rfl) ?_
        refine z_aI hf hx hb hK hP dX3_isSame_272 (fun v108 hf => ?_)
        refine lv_icmp_eq (tgt := 278) hx hb dX3_isSame_273 (by decide) (fun c109 => ?_) (fun c109 => ?_)
        · have hf := itP hf c109
          refine lv_iinc (v := (x8 + 1)) (lv' := [(8, .int (x8 + 1)), (0, .ref t), (1, .ref o), (2, .int x2), (3, .int x3), (6, .int x6), (7, .ref x7)]) hx hb dX3_isSame_278 hl (k := 6) rfl rfl (by decide) rfl (fun ls hl => ?_)
          refine lv_goto (tgt := 254) hx hb dX3_isSame_281 (by decide) ?_
          exact ih x2 x3 x6 x7 (x8 + 1) S T h cc sc _ _ (by omega) (by omega) hP hD hS ls (lv_sub hl [1, 2, 3, 4, 5, 6, 0] rfl) hf
        · have hf := ifP hf c109
          refine lv_iconst (v := 0) hx hb dX3_isSame_276 (by decide) ?_
          exact hf.elim
  have L121 : ∀ (rc rs : Nat), ∀ (κ4 : Int32 → Int32 → RS → RS → PH → Prop), (∀ (x2 : Int32) (x3 : Int32) (S : RS) (T : RS) (h : PH) (cc sc : Nat) (H : Heap) (locs : List Loc), cc + (rc) ≤ 23 → sc + (rs) ≤ 149 → va_P D vwCl (hw (owl Z o a b S T) h) H → va_D A (hw (owl Z o a b S T) h) → va_S A s.heap H locs → ∀ ls : Array Slot, lv_has ls 11 [(0, .ref t), (1, .ref o), (2, .int x2), (3, .int x3)] → κ4 x2 x3 S T h → W p l e rm_X3_isSame s m ([.ref t, .ref o] : List Value).toArray below meth c H locs cc sc Q (F0 m 4 ls [])) → ∀ (n : Nat) (x2 : Int32) (x3 : Int32) (x4 : Int32) (x5 : Int32) (x6 : Int32) (x7 : Int32) (S : RS) (T : RS) (h : PH) (cc sc : Nat) (H : Heap) (locs : List Loc), cc + (1 + rc) ≤ 23 → sc + (7 + rs) ≤ 149 → va_P D vwCl (hw (owl Z o a b S T) h) H → va_D A (hw (owl Z o a b S T) h) → va_S A s.heap H locs → ∀ ls : Array Slot, lv_has ls 11 [(0, .ref t), (1, .ref o), (2, .int x2), (3, .int x3), (4, .int x4), (5, .int x5), (6, .int x6), (7, .int x7)] → w_X3_isSame_L121 Z t κ4 K n x2 x3 x4 x5 x6 x7 S T h → W p l e rm_X3_isSame s m ([.ref t, .ref o] : List Value).toArray below meth c H locs cc sc Q (F0 m 121 ls []) := by
    intro rc rs κ4 hκ4 n
    induction n with
    | zero =>
      intro x2 x3 x4 x5 x6 x7 S T h cc sc  H locs hcc hsc hP hD hS ls hl hf
      exact hf.elim
    | succ n ih =>
      intro x2 x3 x4 x5 x6 x7 S T h cc sc  H locs hcc hsc hP hD hS ls hl hf
      rw [w_X3_isSame_L121] at hf
      refine lv_iload hx hb dX3_isSame_121 (lv_at hl 7 rfl) ?_
      refine lv_aload_n hx hb dX3_isSame_123 rfl (lv_at hl 0 rfl) ?_
      refine z_gR (C := RX3) (T := TX3) (N := 8) hf hx hb hts hin3 hown hK hP rfl (by decide) (hts (.fieldLink RX3 15 "PodGuidewayLaw$Sim" "waits" "[[[I") (List.mem_of_getElem? (i := 6) rfl)) dX3_isSame_124 (fun b78 hf => ?_)
      refine lv_iload_n hx hb dX3_isSame_127 rfl (lv_at hl 3 rfl) ?_
      refine z_aQ (tz := 3) hf hx hb hK rfl rfl hP dX3_isSame_128 (fun b79 hf => ?_)
      refine z_lQ (tz := 2) hf hx hb hK rfl hP dX3_isSame_129 (fun v80 hf => ?_)
      refine lv_icmp_ge (tgt := 193) hx hb dX3_isSame_130 (by decide) (fun c81 => ?_) (fun c81 => ?_)
      · have hf := itP hf c81
        refine lv_bipush (v := 7) hx hb dX3_isSame_193 (by decide) ?_
        refine z_nA hf (by decide) hx hb (hts (.arrayClass .int) (List.mem_of_getElem? (i := 7) rfl)) hK hP hD hS hA (show cc + 1 ≤ 23 from by omega) (show sc + 7 ≤ 149 from by omega) dX3_isSame_195 (fun b82 h83 H hf hP hD hS => ?_)
        refine lv_dup hx hb dX3_isSame_197 rfl ?_
        refine lv_iconst (v := 0) hx hb dX3_isSame_198 (by decide) ?_
        refine lv_aload_n hx hb dX3_isSame_199 rfl (lv_at hl 0 rfl) ?_
        refine z_gR (C := RX3) (T := TX3) (N := 8) hf hx hb hts hin3 hown hK hP rfl (by decide) (hts (.fieldLink RX3 7 "PodGuidewayLaw$Sim" "place" "[I") (List.mem_of_getElem? (i := 1) rfl)) dX3_isSame_200 (fun b84 hf => ?_)
        refine lv_iload_n hx hb dX3_isSame_203 rfl (lv_at hl 3 rfl) ?_
        refine z_aI hf hx hb hK hP dX3_isSame_204 (fun v85 hf => ?_)
        refine z_sA hf hx hb hK hP hD hS dX3_isSame_205 (fun h86 H locs hf hP hD hS => ?_)
        refine lv_dup hx hb dX3_isSame_206 rfl ?_
        refine lv_iconst (v := 1) hx hb dX3_isSame_207 (by decide) ?_
        refine lv_iload hx hb dX3_isSame_208 (lv_at hl 4 rfl) ?_
        refine z_sA hf hx hb hK hP hD hS dX3_isSame_210 (fun h87 H locs hf hP hD hS => ?_)
        refine lv_dup hx hb dX3_isSame_211 rfl ?_
        refine lv_iconst (v := 2) hx hb dX3_isSame_212 (by decide) ?_
        refine lv_iload hx hb dX3_isSame_213 (lv_at hl 5 rfl) ?_
        refine z_sA hf hx hb hK hP hD hS dX3_isSame_215 (fun h88 H locs hf hP hD hS => ?_)
        refine lv_dup hx hb dX3_isSame_216 rfl ?_
        refine lv_iconst (v := 3) hx hb dX3_isSame_217 (by decide) ?_
        refine lv_aload_n hx hb dX3_isSame_218 rfl (lv_at hl 0 rfl) ?_
        refine z_gR (C := RX3) (T := TX3) (N := 8) hf hx hb hts hin3 hown hK hP rfl (by decide) (hts (.fieldLink RX3 15 "PodGuidewayLaw$Sim" "waits" "[[[I") (List.mem_of_getElem? (i := 6) rfl)) dX3_isSame_219 (fun b89 hf => ?_)
        refine lv_iload_n hx hb dX3_isSame_222 rfl (lv_at hl 3 rfl) ?_
        refine z_aQ (tz := 3) hf hx hb hK rfl rfl hP dX3_isSame_223 (fun b90 hf => ?_)
        refine z_lQ (tz := 2) hf hx hb hK rfl hP dX3_isSame_224 (fun v91 hf => ?_)
        refine z_sA hf hx hb hK hP hD hS dX3_isSame_225 (fun h92 H locs hf hP hD hS => ?_)
        refine lv_dup hx hb dX3_isSame_226 rfl ?_
        refine lv_iconst (v := 4) hx hb dX3_isSame_227 (by decide) ?_
        refine lv_aload_n hx hb dX3_isSame_228 rfl (lv_at hl 0 rfl) ?_
        refine lv_iload_n hx hb dX3_isSame_229 rfl (lv_at hl 3 rfl) ?_
        obtain ⟨hrc3, hf⟩ := hf
        refine zk_i hwX_owl (z_VP (As := [.int x3]) (rest := [.int 4, .ref b82, .ref b82]) hrc3 pE_ok hE hS hA ⟨hx, hb, hml, hown, hts⟩ (m_X3_coming l D Z t x3 _ h92 hf) gX3_isSame_X3_coming rfl rfl rfl hdv_X3_coming ⟨Nat.le_of_ble_eq_true rfl, Nat.le_of_ble_eq_true rfl⟩ hK hP hD rfl hl.1 rfl (Nat.le_of_ble_eq_true rfl) dX3_isSame_230 ⟨(show (cc + 1) + 0 ≤ 23 from by omega), (show (sc + 7) + 0 ≤ 149 from by omega)⟩) hP hD hS hA (fun v94 h93 H locs hf hP hD hS => ?_)
        refine z_sA hf hx hb hK hP hD hS dX3_isSame_233 (fun h95 H locs hf hP hD hS => ?_)
        refine lv_dup hx hb dX3_isSame_234 rfl ?_
        refine lv_iconst (v := 5) hx hb dX3_isSame_235 (by decide) ?_
        refine lv_iload hx hb dX3_isSame_236 (lv_at hl 6 rfl) ?_
        refine z_sA hf hx hb hK hP hD hS dX3_isSame_238 (fun h96 H locs hf hP hD hS => ?_)
        refine lv_dup hx hb dX3_isSame_239 rfl ?_
        refine lv_bipush (v := 6) hx hb dX3_isSame_240 (by decide) ?_
        refine lv_aload_n hx hb dX3_isSame_242 rfl (lv_at hl 0 rfl) ?_
        refine z_gR (C := RX3) (T := TX3) (N := 8) hf hx hb hts hin3 hown hK hP rfl (by decide) (hts (.fieldLink RX3 19 "PodGuidewayLaw$Sim" "arrived" "[I") (List.mem_of_getElem? (i := 8) rfl)) dX3_isSame_243 (fun b97 hf => ?_)
        refine lv_iload_n hx hb dX3_isSame_246 rfl (lv_at hl 3 rfl) ?_
        refine z_aI hf hx hb hK hP dX3_isSame_247 (fun v98 hf => ?_)
        refine z_sA hf hx hb hK hP hD hS dX3_isSame_248 (fun h99 H locs hf hP hD hS => ?_)
        refine lv_astore (lv' := [(7, .ref b82), (0, .ref t), (1, .ref o), (2, .int x2), (3, .int x3), (4, .int x4), (5, .int x5), (6, .int x6)]) hx hb dX3_isSame_249 hl (by decide) rfl (fun ls hl => ?_)
        refine lv_iconst (v := 0) hx hb dX3_isSame_251 (by decide) ?_
        refine lv_istore (lv' := [(8, .int 0), (7, .ref b82), (0, .ref t), (1, .ref o), (2, .int x2), (3, .int x3), (4, .int x4), (5, .int x5), (6, .int x6)]) hx hb dX3_isSame_252 hl (by decide) rfl (fun ls hl => ?_)
        exact L254 rc rs κ4 hκ4 FU x2 x3 x6 b82 0 S T h99 (cc + 1) (sc + 7) _ _ (by omega) (by omega) hP hD hS ls (lv_sub hl [2, 3, 4, 5, 8, 1, 0] rfl) hf
      · have hf := ifP hf c81
        refine lv_iload hx hb dX3_isSame_133 (lv_at hl 6 rfl) ?_
        refine lv_aload_n hx hb dX3_isSame_135 rfl (lv_at hl 0 rfl) ?_
        refine z_gR (C := RX3) (T := TX3) (N := 8) hf hx hb hts hin3 hown hK hP rfl (by decide) (hts (.fieldLink RX3 15 "PodGuidewayLaw$Sim" "waits" "[[[I") (List.mem_of_getElem? (i := 6) rfl)) dX3_isSame_136 (fun b110 hf => ?_)
        refine lv_iload_n hx hb dX3_isSame_139 rfl (lv_at hl 3 rfl) ?_
        refine z_aQ (tz := 3) hf hx hb hK rfl rfl hP dX3_isSame_140 (fun b111 hf => ?_)
        refine lv_iload hx hb dX3_isSame_141 (lv_at hl 7 rfl) ?_
        refine z_aQ (tz := 2) hf hx hb hK rfl rfl hP dX3_isSame_143 (fun b112 hf => ?_)
        refine lv_iconst (v := 1) hx hb dX3_isSame_144 (by decide) ?_
        refine z_aI hf hx hb hK hP dX3_isSame_145 (fun v113 hf => ?_)
        refine lv_iadd hx hb dX3_isSame_146 ?_
        refine lv_istore (lv' := [(6, .int (x6 + v113)), (0, .ref t), (1, .ref o), (2, .int x2), (3, .int x3), (4, .int x4), (5, .int x5), (7, .int x7)]) hx hb dX3_isSame_147 hl (by decide) rfl (fun ls hl => ?_)
        refine lv_aload_n hx hb dX3_isSame_149 rfl (lv_at hl 2 rfl) ?_
        refine lv_iload_n hx hb dX3_isSame_150 rfl (lv_at hl 4 rfl) ?_
        refine lv_iload hx hb dX3_isSame_151 (lv_at hl 7 rfl) ?_
        obtain ⟨v115, hv114, hf⟩ := hf
        refine zc_i (z_VG (As := [.int x3, .int x7]) (rest := []) (q0 := 0) (ci := 1) xE_ok hE.1 hS hA ⟨hx, hb, hml, hown, hts⟩ (ok_X1_waits l D Z o a b S T x3 x7 v115 hv114) gX3_isSame_X1_waits rfl rfl rfl hdv_X1_waits ⟨Nat.le_of_ble_eq_true rfl, Nat.le_of_ble_eq_true rfl⟩ hK (hw_X hP) (hw_XD hD) rfl rfl rfl rfl hl.1 rfl (Nat.le_of_ble_eq_true rfl) dX3_isSame_153 ⟨(show cc + 0 ≤ 23 from by omega), (show sc + 0 ≤ 149 from by omega)⟩) hP hS hA (fun H locs hP hS => ?_)
        refine lv_bipush (v := 10) hx hb dX3_isSame_156 (by decide) ?_
        refine lv_aload_n hx hb dX3_isSame_158 rfl (lv_at hl 1 rfl) ?_
        refine z_gR (C := RX3) (T := TX3) (N := 8) hf hx hb hts hin3 hown hK hP rfl (by decide) (hts (.fieldLink RX3 15 "PodGuidewayLaw$Sim" "waits" "[[[I") (List.mem_of_getElem? (i := 6) rfl)) dX3_isSame_159 (fun b116 hf => ?_)
        refine lv_iload_n hx hb dX3_isSame_162 rfl (lv_at hl 4 rfl) ?_
        refine z_aQ (tz := 3) hf hx hb hK rfl rfl hP dX3_isSame_163 (fun b117 hf => ?_)
        refine lv_iload hx hb dX3_isSame_164 (lv_at hl 7 rfl) ?_
        refine z_aQ (tz := 2) hf hx hb hK rfl rfl hP dX3_isSame_166 (fun b118 hf => ?_)
        refine lv_iconst (v := 1) hx hb dX3_isSame_167 (by decide) ?_
        refine z_aI hf hx hb hK hP dX3_isSame_168 (fun v119 hf => ?_)
        refine lv_imul hx hb dX3_isSame_169 ?_
        refine lv_aload_n hx hb dX3_isSame_170 rfl (lv_at hl 1 rfl) ?_
        refine z_gR (C := RX3) (T := TX3) (N := 8) hf hx hb hts hin3 hown hK hP rfl (by decide) (hts (.fieldLink RX3 15 "PodGuidewayLaw$Sim" "waits" "[[[I") (List.mem_of_getElem? (i := 6) rfl)) dX3_isSame_171 (fun b120 hf => ?_)
        refine lv_iload_n hx hb dX3_isSame_174 rfl (lv_at hl 4 rfl) ?_
        refine z_aQ (tz := 3) hf hx hb hK rfl rfl hP dX3_isSame_175 (fun b121 hf => ?_)
        refine lv_iload hx hb dX3_isSame_176 (lv_at hl 7 rfl) ?_
        refine z_aQ (tz := 2) hf hx hb hK rfl rfl hP dX3_isSame_178 (fun b122 hf => ?_)
        refine lv_iconst (v := 0) hx hb dX3_isSame_179 (by decide) ?_
        refine z_aI hf hx hb hK hP dX3_isSame_180 (fun v123 hf => ?_)
        refine lv_iadd hx hb dX3_isSame_181 ?_
        refine lv_icmp_eq (tgt := 187) hx hb dX3_isSame_182 (by decide) (fun c124 => ?_) (fun c124 => ?_)
        · have hf := itP hf c124
          refine lv_iinc (v := (x7 + 1)) (lv' := [(7, .int (x7 + 1)), (6, .int (x6 + v113)), (0, .ref t), (1, .ref o), (2, .int x2), (3, .int x3), (4, .int x4), (5, .int x5)]) hx hb dX3_isSame_187 hl (k := 7) rfl rfl (by decide) rfl (fun ls hl => ?_)
          refine lv_goto (tgt := 121) hx hb dX3_isSame_190 (by decide) ?_
          exact ih x2 x3 x4 x5 (x6 + v113) (x7 + 1) S T h cc sc _ _ (by omega) (by omega) hP hD hS ls (lv_sub hl [2, 3, 4, 5, 6, 7, 1, 0] rfl) hf
        · have hf := ifP hf c124
          refine lv_iconst (v := 0) hx hb dX3_isSame_185 (by decide) ?_
          exact hf.elim
  have L74 : ∀ (rc rs : Nat), ∀ (κ36 : Int32 → Int32 → Int32 → Int32 → Int32 → Nat → Int32 → Int32 → RS → RS → PH → Prop), (∀ (x2 : Int32) (x3 : Int32) (x4 : Int32) (x5 : Int32) (x6 : Int32) (x7 : Nat) (x8 : Int32) (x9 : Int32) (S : RS) (T : RS) (h : PH) (cc sc : Nat) (H : Heap) (locs : List Loc), cc + (rc) ≤ 23 → sc + (rs) ≤ 149 → va_P D vwCl (hw (owl Z o a b S T) h) H → va_D A (hw (owl Z o a b S T) h) → va_S A s.heap H locs → ∀ ls : Array Slot, lv_has ls 11 [(0, .ref t), (1, .ref o), (2, .int x2), (3, .int x3), (4, .int x4), (5, .int x5), (6, .int x6), (7, .ref x7), (8, .int x8), (9, .int x9)] → κ36 x2 x3 x4 x5 x6 x7 x8 x9 S T h → W p l e rm_X3_isSame s m ([.ref t, .ref o] : List Value).toArray below meth c H locs cc sc Q (F0 m 36 ls [])) → ∀ (y0 : Int32) (y1 : Int32) (x2 : Int32) (x3 : Int32) (x5 : Int32) (x6 : Int32) (x7 : Nat) (x8 : Int32) (x9 : Int32) (x10 : Nat) (S : RS) (T : RS) (h : PH) (cc sc : Nat) (H : Heap) (locs : List Loc), cc + (0 + rc) ≤ 23 → sc + (0 + rs) ≤ 149 → va_P D vwCl (hw (owl Z o a b S T) h) H → va_D A (hw (owl Z o a b S T) h) → va_S A s.heap H locs → ∀ ls : Array Slot, lv_has ls 11 [(0, .ref t), (1, .ref o), (2, .int x2), (3, .int x3), (5, .int x5), (6, .int x6), (7, .ref x7), (8, .int x8), (9, .int x9), (10, .ref x10)] → w_X3_isSame_L74 Z t κ36 K y0 y1 x2 x3 x5 x6 x7 x8 x9 x10 S T h → W p l e rm_X3_isSame s m ([.ref t, .ref o] : List Value).toArray below meth c H locs cc sc Q (F0 m 74 ls [.int y0, .int y1]) := by
    intro rc rs κ36 hκ36 y0 y1 x2 x3 x5 x6 x7 x8 x9 x10 S T h cc sc H locs hcc hsc hP hD hS ls hl hf
    unfold w_X3_isSame_L74 at hf
    refine lv_iadd hx hb dX3_isSame_74 ?_
    refine lv_istore (lv' := [(4, .int (y1 + y0)), (0, .ref t), (1, .ref o), (2, .int x2), (3, .int x3), (5, .int x5), (6, .int x6), (7, .ref x7), (8, .int x8), (9, .int x9), (10, .ref x10)]) hx hb dX3_isSame_75 hl (by decide) rfl (fun ls hl => ?_)
    refine lv_iload hx hb dX3_isSame_77 (lv_at hl 5 rfl) ?_
    refine lv_aload hx hb dX3_isSame_79 (lv_at hl 10 rfl) ?_
    refine z_gI (C := RX2) (T := TX2) (N := 7) hf hx hb hts hin2 hown hK hP rfl (by decide) (hts (.fieldLink RX3 51 "PodGuidewayLaw$Pod" "slot" "I") (List.mem_of_getElem? (i := 3) rfl)) dX3_isSame_81 (fun v128 hf => ?_)
    refine lv_if_ge (tgt := 108) hx hb dX3_isSame_84 (by decide) (fun c129 => ?_) (fun c129 => ?_)
    · have hf := itP hf c129
      refine lv_iconst (v := 0) hx hb dX3_isSame_108 (by decide) ?_
      refine lv_iadd hx hb dX3_isSame_109 ?_
      refine lv_istore (lv' := [(5, .int (x5 + 0)), (4, .int (y1 + y0)), (0, .ref t), (1, .ref o), (2, .int x2), (3, .int x3), (6, .int x6), (7, .ref x7), (8, .int x8), (9, .int x9), (10, .ref x10)]) hx hb dX3_isSame_110 hl (by decide) rfl (fun ls hl => ?_)
      refine lv_iinc (v := (x9 + 1)) (lv' := [(9, .int (x9 + 1)), (5, .int (x5 + 0)), (4, .int (y1 + y0)), (0, .ref t), (1, .ref o), (2, .int x2), (3, .int x3), (6, .int x6), (7, .ref x7), (8, .int x8), (10, .ref x10)]) hx hb dX3_isSame_112 hl (k := 9) rfl rfl (by decide) rfl (fun ls hl => ?_)
      refine lv_goto (tgt := 36) hx hb dX3_isSame_115 (by decide) ?_
      exact hκ36 x2 x3 (y1 + y0) (x5 + 0) x6 x7 x8 (x9 + 1) S T h cc sc _ _ (by omega) (by omega) hP hD hS ls (lv_sub hl [3, 4, 5, 6, 2, 1, 7, 8, 9, 0] rfl) hf
    · have hf := ifP hf c129
      refine lv_aload hx hb dX3_isSame_87 (lv_at hl 10 rfl) ?_
      refine z_gI (C := RX2) (T := TX2) (N := 7) hf hx hb hts hin2 hown hK hP rfl (by decide) (hts (.fieldLink RX3 54 "PodGuidewayLaw$Pod" "at" "I") (List.mem_of_getElem? (i := 4) rfl)) dX3_isSame_89 (fun v130 hf => ?_)
      refine lv_iload_n hx hb dX3_isSame_92 rfl (lv_at hl 4 rfl) ?_
      refine lv_icmp_ne (tgt := 108) hx hb dX3_isSame_93 (by decide) (fun c131 => ?_) (fun c131 => ?_)
      · have hf := ifP hf c131
        refine lv_iconst (v := 0) hx hb dX3_isSame_108 (by decide) ?_
        refine lv_iadd hx hb dX3_isSame_109 ?_
        refine lv_istore (lv' := [(5, .int (x5 + 0)), (4, .int (y1 + y0)), (0, .ref t), (1, .ref o), (2, .int x2), (3, .int x3), (6, .int x6), (7, .ref x7), (8, .int x8), (9, .int x9), (10, .ref x10)]) hx hb dX3_isSame_110 hl (by decide) rfl (fun ls hl => ?_)
        refine lv_iinc (v := (x9 + 1)) (lv' := [(9, .int (x9 + 1)), (5, .int (x5 + 0)), (4, .int (y1 + y0)), (0, .ref t), (1, .ref o), (2, .int x2), (3, .int x3), (6, .int x6), (7, .ref x7), (8, .int x8), (10, .ref x10)]) hx hb dX3_isSame_112 hl (k := 9) rfl rfl (by decide) rfl (fun ls hl => ?_)
        refine lv_goto (tgt := 36) hx hb dX3_isSame_115 (by decide) ?_
        exact hκ36 x2 x3 (y1 + y0) (x5 + 0) x6 x7 x8 (x9 + 1) S T h cc sc _ _ (by omega) (by omega) hP hD hS ls (lv_sub hl [3, 4, 5, 6, 2, 1, 7, 8, 9, 0] rfl) hf
      · have hf := itP hf c131
        refine lv_aload hx hb dX3_isSame_96 (lv_at hl 10 rfl) ?_
        refine z_gI (C := RX2) (T := TX2) (N := 7) hf hx hb hts hin2 hown hK hP rfl (by decide) (hts (.fieldLink RX3 64 "PodGuidewayLaw$Pod" "goal" "I") (List.mem_of_getElem? (i := 5) rfl)) dX3_isSame_98 (fun v132 hf => ?_)
        refine lv_if_ge (tgt := 108) hx hb dX3_isSame_101 (by decide) (fun c133 => ?_) (fun c133 => ?_)
        · have hf := itP hf c133
          refine lv_iconst (v := 0) hx hb dX3_isSame_108 (by decide) ?_
          refine lv_iadd hx hb dX3_isSame_109 ?_
          refine lv_istore (lv' := [(5, .int (x5 + 0)), (4, .int (y1 + y0)), (0, .ref t), (1, .ref o), (2, .int x2), (3, .int x3), (6, .int x6), (7, .ref x7), (8, .int x8), (9, .int x9), (10, .ref x10)]) hx hb dX3_isSame_110 hl (by decide) rfl (fun ls hl => ?_)
          refine lv_iinc (v := (x9 + 1)) (lv' := [(9, .int (x9 + 1)), (5, .int (x5 + 0)), (4, .int (y1 + y0)), (0, .ref t), (1, .ref o), (2, .int x2), (3, .int x3), (6, .int x6), (7, .ref x7), (8, .int x8), (10, .ref x10)]) hx hb dX3_isSame_112 hl (k := 9) rfl rfl (by decide) rfl (fun ls hl => ?_)
          refine lv_goto (tgt := 36) hx hb dX3_isSame_115 (by decide) ?_
          exact hκ36 x2 x3 (y1 + y0) (x5 + 0) x6 x7 x8 (x9 + 1) S T h cc sc _ _ (by omega) (by omega) hP hD hS ls (lv_sub hl [3, 4, 5, 6, 2, 1, 7, 8, 9, 0] rfl) hf
        · have hf := ifP hf c133
          refine lv_iconst (v := 1) hx hb dX3_isSame_104 (by decide) ?_
          refine lv_goto (tgt := 109) hx hb dX3_isSame_105 (by decide) ?_
          refine lv_iadd hx hb dX3_isSame_109 ?_
          refine lv_istore (lv' := [(5, .int (x5 + 1)), (4, .int (y1 + y0)), (0, .ref t), (1, .ref o), (2, .int x2), (3, .int x3), (6, .int x6), (7, .ref x7), (8, .int x8), (9, .int x9), (10, .ref x10)]) hx hb dX3_isSame_110 hl (by decide) rfl (fun ls hl => ?_)
          refine lv_iinc (v := (x9 + 1)) (lv' := [(9, .int (x9 + 1)), (5, .int (x5 + 1)), (4, .int (y1 + y0)), (0, .ref t), (1, .ref o), (2, .int x2), (3, .int x3), (6, .int x6), (7, .ref x7), (8, .int x8), (10, .ref x10)]) hx hb dX3_isSame_112 hl (k := 9) rfl rfl (by decide) rfl (fun ls hl => ?_)
          refine lv_goto (tgt := 36) hx hb dX3_isSame_115 (by decide) ?_
          exact hκ36 x2 x3 (y1 + y0) (x5 + 1) x6 x7 x8 (x9 + 1) S T h cc sc _ _ (by omega) (by omega) hP hD hS ls (lv_sub hl [3, 4, 5, 6, 2, 1, 7, 8, 9, 0] rfl) hf
  have L73 : ∀ (rc rs : Nat), ∀ (κ36 : Int32 → Int32 → Int32 → Int32 → Int32 → Nat → Int32 → Int32 → RS → RS → PH → Prop), (∀ (x2 : Int32) (x3 : Int32) (x4 : Int32) (x5 : Int32) (x6 : Int32) (x7 : Nat) (x8 : Int32) (x9 : Int32) (S : RS) (T : RS) (h : PH) (cc sc : Nat) (H : Heap) (locs : List Loc), cc + (rc) ≤ 23 → sc + (rs) ≤ 149 → va_P D vwCl (hw (owl Z o a b S T) h) H → va_D A (hw (owl Z o a b S T) h) → va_S A s.heap H locs → ∀ ls : Array Slot, lv_has ls 11 [(0, .ref t), (1, .ref o), (2, .int x2), (3, .int x3), (4, .int x4), (5, .int x5), (6, .int x6), (7, .ref x7), (8, .int x8), (9, .int x9)] → κ36 x2 x3 x4 x5 x6 x7 x8 x9 S T h → W p l e rm_X3_isSame s m ([.ref t, .ref o] : List Value).toArray below meth c H locs cc sc Q (F0 m 36 ls [])) → ∀ (y0 : Int32) (x2 : Int32) (x3 : Int32) (x5 : Int32) (x6 : Int32) (x7 : Nat) (x8 : Int32) (x9 : Int32) (x10 : Nat) (S : RS) (T : RS) (h : PH) (cc sc : Nat) (H : Heap) (locs : List Loc), cc + (0 + rc) ≤ 23 → sc + (0 + rs) ≤ 149 → va_P D vwCl (hw (owl Z o a b S T) h) H → va_D A (hw (owl Z o a b S T) h) → va_S A s.heap H locs → ∀ ls : Array Slot, lv_has ls 11 [(0, .ref t), (1, .ref o), (2, .int x2), (3, .int x3), (5, .int x5), (6, .int x6), (7, .ref x7), (8, .int x8), (9, .int x9), (10, .ref x10)] → w_X3_isSame_L73 Z t κ36 K y0 x2 x3 x5 x6 x7 x8 x9 x10 S T h → W p l e rm_X3_isSame s m ([.ref t, .ref o] : List Value).toArray below meth c H locs cc sc Q (F0 m 73 ls [.int y0]) := by
    intro rc rs κ36 hκ36 y0 x2 x3 x5 x6 x7 x8 x9 x10 S T h cc sc H locs hcc hsc hP hD hS ls hl hf
    unfold w_X3_isSame_L73 at hf
    refine lv_iconst (v := 0) hx hb dX3_isSame_73 (by decide) ?_
    exact L74 rc rs κ36 hκ36 0 y0 x2 x3 x5 x6 x7 x8 x9 x10 S T h cc sc _ _ (by omega) (by omega) hP hD hS ls (lv_sub hl [0, 1, 2, 3, 4, 5, 6, 7, 8, 9] rfl) hf
  have L36 : ∀ (rc rs : Nat), ∀ (κ4 : Int32 → Int32 → RS → RS → PH → Prop), (∀ (x2 : Int32) (x3 : Int32) (S : RS) (T : RS) (h : PH) (cc sc : Nat) (H : Heap) (locs : List Loc), cc + (rc) ≤ 23 → sc + (rs) ≤ 149 → va_P D vwCl (hw (owl Z o a b S T) h) H → va_D A (hw (owl Z o a b S T) h) → va_S A s.heap H locs → ∀ ls : Array Slot, lv_has ls 11 [(0, .ref t), (1, .ref o), (2, .int x2), (3, .int x3)] → κ4 x2 x3 S T h → W p l e rm_X3_isSame s m ([.ref t, .ref o] : List Value).toArray below meth c H locs cc sc Q (F0 m 4 ls [])) → ∀ (n : Nat) (x2 : Int32) (x3 : Int32) (x4 : Int32) (x5 : Int32) (x6 : Int32) (x7 : Nat) (x8 : Int32) (x9 : Int32) (S : RS) (T : RS) (h : PH) (cc sc : Nat) (H : Heap) (locs : List Loc), cc + (1 + rc) ≤ 23 → sc + (7 + rs) ≤ 149 → va_P D vwCl (hw (owl Z o a b S T) h) H → va_D A (hw (owl Z o a b S T) h) → va_S A s.heap H locs → ∀ ls : Array Slot, lv_has ls 11 [(0, .ref t), (1, .ref o), (2, .int x2), (3, .int x3), (4, .int x4), (5, .int x5), (6, .int x6), (7, .ref x7), (8, .int x8), (9, .int x9)] → w_X3_isSame_L36 Z t κ4 K n x2 x3 x4 x5 x6 x7 x8 x9 S T h → W p l e rm_X3_isSame s m ([.ref t, .ref o] : List Value).toArray below meth c H locs cc sc Q (F0 m 36 ls []) := by
    intro rc rs κ4 hκ4 n
    induction n with
    | zero =>
      intro x2 x3 x4 x5 x6 x7 x8 x9 S T h cc sc  H locs hcc hsc hP hD hS ls hl hf
      exact hf.elim
    | succ n ih =>
      intro x2 x3 x4 x5 x6 x7 x8 x9 S T h cc sc  H locs hcc hsc hP hD hS ls hl hf
      rw [w_X3_isSame_L36] at hf
      refine lv_iload hx hb dX3_isSame_36 (lv_at hl 9 rfl) ?_
      refine lv_iload hx hb dX3_isSame_38 (lv_at hl 8 rfl) ?_
      refine lv_icmp_ge (tgt := 118) hx hb dX3_isSame_40 (by decide) (fun c77 => ?_) (fun c77 => ?_)
      · have hf := itP hf c77
        refine lv_iconst (v := 0) hx hb dX3_isSame_118 (by decide) ?_
        refine lv_istore (lv' := [(7, .int 0), (0, .ref t), (1, .ref o), (2, .int x2), (3, .int x3), (4, .int x4), (5, .int x5), (6, .int x6), (8, .int x8), (9, .int x9)]) hx hb dX3_isSame_119 hl (by decide) rfl (fun ls hl => ?_)
        exact L121 rc rs κ4 hκ4 FU x2 x3 x4 x5 x6 0 S T h cc sc _ _ (by omega) (by omega) hP hD hS ls (lv_sub hl [1, 2, 3, 4, 5, 6, 7, 0] rfl) hf
      · have hf := ifP hf c77
        refine lv_aload hx hb dX3_isSame_43 (lv_at hl 7 rfl) ?_
        refine lv_iload hx hb dX3_isSame_45 (lv_at hl 9 rfl) ?_
        refine z_aQ (tz := 1) hf hx hb hK rfl rfl hP dX3_isSame_47 (fun b125 hf => ?_)
        refine lv_astore (lv' := [(10, .ref b125), (0, .ref t), (1, .ref o), (2, .int x2), (3, .int x3), (4, .int x4), (5, .int x5), (6, .int x6), (7, .ref x7), (8, .int x8), (9, .int x9)]) hx hb dX3_isSame_48 hl (by decide) rfl (fun ls hl => ?_)
        refine lv_iload hx hb dX3_isSame_50 (lv_at hl 5 rfl) ?_
        refine lv_aload hx hb dX3_isSame_52 (lv_at hl 0 rfl) ?_
        refine z_gI (C := RX2) (T := TX2) (N := 7) hf hx hb hts hin2 hown hK hP rfl (by decide) (hts (.fieldLink RX3 51 "PodGuidewayLaw$Pod" "slot" "I") (List.mem_of_getElem? (i := 3) rfl)) dX3_isSame_54 (fun v126 hf => ?_)
        refine lv_if_ge (tgt := 73) hx hb dX3_isSame_57 (by decide) (fun c127 => ?_) (fun c127 => ?_)
        · have hf := itP hf c127
          exact L73 (1 + rc) (7 + rs) _ ih x4 x2 x3 x5 x6 x7 x8 x9 b125 S T h cc sc _ _ (by omega) (by omega) hP hD hS ls (lv_sub hl [1, 2, 3, 4, 6, 7, 8, 9, 10, 0] rfl) hf
        · have hf := ifP hf c127
          refine lv_aload hx hb dX3_isSame_60 (lv_at hl 0 rfl) ?_
          refine z_gI (C := RX2) (T := TX2) (N := 7) hf hx hb hts hin2 hown hK hP rfl (by decide) (hts (.fieldLink RX3 54 "PodGuidewayLaw$Pod" "at" "I") (List.mem_of_getElem? (i := 4) rfl)) dX3_isSame_62 (fun v134 hf => ?_)
          refine lv_iload_n hx hb dX3_isSame_65 rfl (lv_at hl 4 rfl) ?_
          refine lv_icmp_ne (tgt := 73) hx hb dX3_isSame_66 (by decide) (fun c135 => ?_) (fun c135 => ?_)
          · have hf := ifP hf c135
            exact L73 (1 + rc) (7 + rs) _ ih x4 x2 x3 x5 x6 x7 x8 x9 b125 S T h cc sc _ _ (by omega) (by omega) hP hD hS ls (lv_sub hl [1, 2, 3, 4, 6, 7, 8, 9, 10, 0] rfl) hf
          · have hf := itP hf c135
            refine lv_iconst (v := 1) hx hb dX3_isSame_69 (by decide) ?_
            refine lv_goto (tgt := 74) hx hb dX3_isSame_70 (by decide) ?_
            exact L74 (1 + rc) (7 + rs) _ ih 1 x4 x2 x3 x5 x6 x7 x8 x9 b125 S T h cc sc _ _ (by omega) (by omega) hP hD hS ls (lv_sub hl [1, 2, 3, 4, 6, 7, 8, 9, 10, 0] rfl) hf
  have L4 : ∀ (n : Nat) (x2 : Int32) (x3 : Int32) (S : RS) (T : RS) (h : PH) (cc sc : Nat) (H : Heap) (locs : List Loc), cc + (1 * n + 15) ≤ 23 → sc + (7 * n + 93) ≤ 149 → va_P D vwCl (hw (owl Z o a b S T) h) H → va_D A (hw (owl Z o a b S T) h) → va_S A s.heap H locs → ∀ ls : Array Slot, lv_has ls 11 [(0, .ref t), (1, .ref o), (2, .int x2), (3, .int x3)] → w_X3_isSame_L4 Z t K n x2 x3 S T h → W p l e rm_X3_isSame s m ([.ref t, .ref o] : List Value).toArray below meth c H locs cc sc Q (F0 m 4 ls []) := by
    intro n
    induction n with
    | zero =>
      intro x2 x3 S T h cc sc  H locs hcc hsc hP hD hS ls hl hf
      exact hf.elim
    | succ n ih =>
      intro x2 x3 S T h cc sc  H locs hcc hsc hP hD hS ls hl hf
      rw [w_X3_isSame_L4] at hf
      refine lv_iload_n hx hb dX3_isSame_4 rfl (lv_at hl 3 rfl) ?_
      refine lv_aload_n hx hb dX3_isSame_5 rfl (lv_at hl 0 rfl) ?_
      refine z_gR (C := RX3) (T := TX3) (N := 8) hf hx hb hts hin3 hown hK hP rfl (by decide) (hts (.fieldLink RX3 7 "PodGuidewayLaw$Sim" "place" "[I") (List.mem_of_getElem? (i := 1) rfl)) dX3_isSame_6 (fun b1 hf => ?_)
      refine z_lI hf hx hb hK hP dX3_isSame_9 (fun v2 hf => ?_)
      refine lv_icmp_ge (tgt := 310) hx hb dX3_isSame_10 (by decide) (fun c3 => ?_) (fun c3 => ?_)
      · have hf := itP hf c3
        refine lv_iconst (v := 0) hx hb dX3_isSame_310 (by decide) ?_
        refine lv_istore_n (lv' := [(3, .int 0), (0, .ref t), (1, .ref o), (2, .int x2)]) hx hb dX3_isSame_311 rfl hl (by decide) rfl (fun ls hl => ?_)
        exact L312 14 x2 0 S T h cc sc _ _ (by omega) (by omega) hP hD hS ls (lv_sub hl [1, 2, 3, 0] rfl) hf
      · have hf := ifP hf c3
        refine lv_iconst (v := 0) hx hb dX3_isSame_13 (by decide) ?_
        refine lv_istore (lv' := [(4, .int 0), (0, .ref t), (1, .ref o), (2, .int x2), (3, .int x3)]) hx hb dX3_isSame_14 hl (by decide) rfl (fun ls hl => ?_)
        refine lv_iconst (v := 0) hx hb dX3_isSame_16 (by decide) ?_
        refine lv_istore (lv' := [(5, .int 0), (4, .int 0), (0, .ref t), (1, .ref o), (2, .int x2), (3, .int x3)]) hx hb dX3_isSame_17 hl (by decide) rfl (fun ls hl => ?_)
        refine lv_iconst (v := 0) hx hb dX3_isSame_19 (by decide) ?_
        refine lv_istore (lv' := [(6, .int 0), (5, .int 0), (4, .int 0), (0, .ref t), (1, .ref o), (2, .int x2), (3, .int x3)]) hx hb dX3_isSame_20 hl (by decide) rfl (fun ls hl => ?_)
        refine lv_aload_n hx hb dX3_isSame_22 rfl (lv_at hl 3 rfl) ?_
        refine z_gR (C := RX3) (T := TX3) (N := 8) hf hx hb hts hin3 hown hK hP rfl (by decide) (hts (.fieldLink RX3 24 "PodGuidewayLaw$Sim" "pods" "[LPodGuidewayLaw$Pod;") (List.mem_of_getElem? (i := 2) rfl)) dX3_isSame_23 (fun b75 hf => ?_)
        refine lv_astore (lv' := [(7, .ref b75), (6, .int 0), (5, .int 0), (4, .int 0), (0, .ref t), (1, .ref o), (2, .int x2), (3, .int x3)]) hx hb dX3_isSame_26 hl (by decide) rfl (fun ls hl => ?_)
        refine lv_aload hx hb dX3_isSame_28 (lv_at hl 0 rfl) ?_
        refine z_lQ (tz := 1) hf hx hb hK rfl hP dX3_isSame_30 (fun v76 hf => ?_)
        refine lv_istore (lv' := [(8, .int v76), (7, .ref b75), (6, .int 0), (5, .int 0), (4, .int 0), (0, .ref t), (1, .ref o), (2, .int x2), (3, .int x3)]) hx hb dX3_isSame_31 hl (by decide) rfl (fun ls hl => ?_)
        refine lv_iconst (v := 0) hx hb dX3_isSame_33 (by decide) ?_
        refine lv_istore (lv' := [(9, .int 0), (8, .int v76), (7, .ref b75), (6, .int 0), (5, .int 0), (4, .int 0), (0, .ref t), (1, .ref o), (2, .int x2), (3, .int x3)]) hx hb dX3_isSame_34 hl (by decide) rfl (fun ls hl => ?_)
        exact L36 (1 * n + 15) (7 * n + 93) _ ih FU x2 x3 0 0 0 b75 v76 0 S T h cc sc _ _ (by omega) (by omega) hP hD hS ls (lv_sub hl [6, 7, 8, 9, 5, 4, 3, 2, 1, 0] rfl) hf
  unfold wf_X3_isSame at hf
  refine lv_iconst (v := 0) hx hb dX3_isSame_0 (by decide) ?_
  refine lv_istore_n (lv' := [(2, .int 0), (0, .ref t), (1, .ref o)]) hx hb dX3_isSame_1 rfl hl (by decide) rfl (fun ls hl => ?_)
  refine lv_iconst (v := 0) hx hb dX3_isSame_2 (by decide) ?_
  refine lv_istore_n (lv' := [(3, .int 0), (2, .int 0), (0, .ref t), (1, .ref o)]) hx hb dX3_isSame_3 rfl hl (by decide) rfl (fun ls hl => ?_)
  exact L4 8 0 0 S T h 0 0 _ _ (by omega) (by omega) hP hD hS ls (lv_sub hl [2, 3, 1, 0] rfl) hf

theorem al_eq {r v : UInt64} (h : alike64 r v = true) (hn : isNaN64 v = false) : r = v := by
  simp only [alike64, Bool.or_eq_true, decide_eq_true_eq, Bool.and_eq_true] at h
  rcases h with h | h
  · exact h
  · rw [hn] at h; exact absurd h.2 (by decide)
theorem n64_of {v : UInt64} (h : isNaN64 v = false) : vf_n64 v := by
  unfold isNaN64 at h
  exact UInt64.not_lt.mp (of_decide_eq_false h)
theorem pE_draw {A : Nat → Prop} {s : State} (d : Drawn) (h : pE A s) : pE A (s.setDrawn d) := pE_ok.2 A A s (s.setDrawn d) s.heap [] h va_S.rf (fun _ q => q) rfl (State.WarmedH.refl s)
/-- the end of isSame, where the mean is asked -/
def same_end (Z : Nat → ClassId) (t : Nat) (K : WX → Prop) (x2 : Int32) (u : WX) : Prop :=
  ∃ v, f_X1_mean u.1 = some v ∧ isNaN64 v = false ∧ rc3 u.2.2 t ∧ w_X3_told Z t 3 (fun v1 h1 =>
    if v1 = 0 then v = FP.dconst0 ∧ K (u.1, u.2.1, h1)
    else rc3 h1 t ∧ w_X3_told Z t 3 (fun v2 h2 => v = FP.ddiv (FP.i2d x2) (FP.i2d v2) ∧ K (u.1, u.2.1, h2)) h1) u.2.2
def w_X3_isSame (Z : Nat → ClassId) (t : Nat) (K : WX → Prop) (u0 : WX) : Prop := wf_X3_isSame Z t (same_end Z t K) u0.1 u0.2.1 u0.2.2
theorem hdv_X3_isSame : yX3_isSame.cls = RX3 ∧ yX3_isSame.cls ≠ "java/lang/invoke/MethodHandle" ∧ yX3_isSame.cls ≠ "java/lang/invoke/VarHandle" ∧ (parseMethodDescriptor yX3_isSame.desc).map (fun d => d.parameters.length) = some 1 := by decide +kernel
set_option maxHeartbeats 8000000 in
set_option maxRecDepth 100000 in
theorem m_X3_isSame (l : Launch) (D : va_G) (Z : Nat → ClassId) (o : Nat) (a b : Nat → Nat) (t : Nat) (K : WX → Prop) (u0 : WX) (hf : w_X3_isSame Z t K u0) : ∀ sz : Nat, MetD lw_cs l yX3_isSame wsX3_isSame rm_X3_isSame (va_Pc [.ref t, .ref o] (gPre D Z pE (owx Z o a b u0) sz)) (QMi D (owx Z o a b) (fun r u => r = 1 ∧ K u) (va_A (owx Z o a b u0) sz)) 23 149 (va_A (owx Z o a b u0) sz) := fun sz => by
  refine MetD.ofW (cc := cX3_isSame) (maxL := 11) (ret := some .boolean) (by decide +kernel) rfl ?_
  intro p e s m args below meth c s₁ B hml hv hd0
  obtain ⟨rfl, ⟨hsz, hP, hK, hD⟩, hE⟩ := hv
  subst hsz
  have hx := B.exec
  have hb := B.bytes
  have hr := B.returns
  have hts := atoms_spec (ws := wsX3_isSame) B.pre
  have hown : s.vm.findClass RX3 = some m.cls := findClass_of_methodNamed B.named
  have hlk := B.notSynchronized
  have hl := lv_entry ([.ref t, .ref o]) (n := 11) (Nat.le_of_ble_eq_true rfl)
  rw [lg_entry_eq]
  generalize (lg_sl ([.ref t, .ref o]) ++ List.replicate (11 - (lg_sl ([.ref t, .ref o])).length) Slot.unset).toArray = ls at hl ⊢
  have hl : lv_has ls 11 [(0, .ref t), (1, .ref o)] := hl
  have hD := hD.self (sz := s.heap.size)
  generalize hAe : va_A (owx Z o a b u0) s.heap.size = A at hD hE ⊢
  have hA : ∀ q : Nat, s.heap.size ≤ q → A q := fun q h => by rw [← hAe]; exact Or.inr h
  have hC : Cx p s m ([.ref t, .ref o] : List Value).toArray meth c cX3_isSame yX3_isSame.cls yX3_isSame.name 11 (some .boolean) wsX3_isSame := ⟨hx, hb, hr, hml, hown, hts, hlk, (name_of_methodNamed B.named B.method).1⟩
  show W p l e rm_X3_isSame s m ([.ref t, .ref o] : List Value).toArray below meth c s.heap [] 0 0 (MQD lw_cs below (QMi D (owx Z o a b) (fun r u => r = 1 ∧ K u) A) ([.ref t, .ref o] : List Value).toArray s 23 149 A) (F0 m 0 ls [])
  refine x_X3_isSame D Z o a b t (same_end Z t K) u0.1 u0.2.1 u0.2.2 hf hC hE hA hP hK hD va_S.rf ?_ ls hl
  clear hl
  intro x2 u cc sc H locs ls hf hcc hsc hP hD hS hl
  obtain ⟨v, hv, hn, hrc3, hf⟩ := hf
  have hP : va_P D vwCl (hw (owl Z o a b u.1 u.2.1) u.2.2) H := hP
  have hD : va_D A (hw (owl Z o a b u.1 u.2.1) u.2.2) := hD
  refine lv_aload_n hx hb dX3_isSame_638 rfl (lv_at hl 1 rfl) ?_
  refine W.base ?_
  refine va_calldD hd0 (va_runV_D (As := []) (rest := []) ⟨hx, hb, hml, hown, dr_words hts s.drawn⟩ (ok_X1_mean l D Z o a b u.1 u.2.1 v hv H.size) (cwV 0 (dr_words hts s.drawn) gX3_isSame_X1_mean rfl rfl rfl hdv_X1_mean ⟨Nat.le_of_ble_eq_true rfl, Nat.le_of_ble_eq_true rfl⟩) ⟨g_blind xE_ok, va_recv hK (hw_X hP) (ci := 1) (q0 := 0) rfl rfl, g_pre xE_ok hE.1 hS (z_hF (hw_XD hD) hS hA) hK (hw_X hP) (hw_XD hD)⟩ rfl rfl hl.1 rfl (lv_room (Nat.le_of_ble_eq_true rfl)) dX3_isSame_639 ⟨by show cc + 0 ≤ 23; omega, by show sc + 0 ≤ 149; omega⟩) hS (fun q h1 h2 => absurd h2 (Nat.not_le.mpr h1)) (fun q h => hA q (Nat.le_trans hS.1 h)) (fun r u9 t9 H1 locs ht _ hal _ _ hk hS d1 hd1 => ?_)
  have hP := hP.kept (H1 := H1) (fun k q hq => hk q.1 (hP k q hq).lt (Nat.not_le.mpr (hP k q hq).lt))
  generalize H1 = H at hP hS ⊢
  have hre : r = v := al_eq hal hn
  subst hre
  have hts1 := dr_words hts d1
  have hown1 : (s.setDrawn d1).vm.findClass RX3 = some m.cls := hown
  have hK1 : zK D Z (s.setDrawn d1) := hK
  have hE1 : pE A (s.setDrawn d1) := pE_draw d1 hE
  have hS1 : va_S A (s.setDrawn d1).heap H locs := hS
  have hA1 : ∀ q : Nat, (s.setDrawn d1).heap.size ≤ q → A q := hA
  refine lv_aload_n hx hb dX3_isSame_642 rfl (lv_at hl 0 rfl) ?_
  refine lv_iconst (v := 3) hx hb dX3_isSame_643 (by decide) ?_
  refine zk_i hwX_owl (z_VP (As := [.int 3]) (rest := [.double r]) hrc3 pE_ok hE1 hS1 hA1 ⟨hx, hb, hml, hown1, hts1⟩ (m_X3_told l D Z t 3 _ u.2.2 hf) gX3_isSame_X3_told rfl rfl rfl hdv_X3_told ⟨Nat.le_of_ble_eq_true rfl, Nat.le_of_ble_eq_true rfl⟩ hK1 hP hD rfl hl.1 rfl (Nat.le_of_ble_eq_true rfl) dX3_isSame_644 ⟨by show cc + 0 + 0 ≤ 23; omega, by show sc + 0 + 0 ≤ 149; omega⟩) hP hD hS hA (fun v1 h1 H locs hf hP hD hS => ?_)
  refine lv_if_ne (tgt := 654) hx hb dX3_isSame_647 (by decide) (fun c1 => ?_) (fun c1 => ?_)
  · have hf := ifP hf c1
    obtain ⟨hrc3, hf⟩ := hf
    refine lv_iload_n hx hb dX3_isSame_654 rfl (lv_at hl 2 rfl) ?_
    refine lv_i2d hx hb dX3_isSame_655 ?_
    refine lv_aload_n hx hb dX3_isSame_656 rfl (lv_at hl 0 rfl) ?_
    refine lv_iconst (v := 3) hx hb dX3_isSame_657 (by decide) ?_
    refine zk_i hwX_owl (z_VP (As := [.int 3]) (rest := [.double (FP.i2d x2), .double r]) hrc3 pE_ok hE1 hS hA1 ⟨hx, hb, hml, hown1, hts1⟩ (m_X3_told l D Z t 3 _ h1 hf) gX3_isSame_X3_told rfl rfl rfl hdv_X3_told ⟨Nat.le_of_ble_eq_true rfl, Nat.le_of_ble_eq_true rfl⟩ hK1 hP hD rfl hl.1 rfl (Nat.le_of_ble_eq_true rfl) dX3_isSame_658 ⟨by show cc + 0 + 0 + 0 ≤ 23; omega, by show sc + 0 + 0 + 0 ≤ 149; omega⟩) hP hD hS hA (fun v2 h2 H locs hf hP hD hS => ?_)
    obtain ⟨he, hf⟩ := hf
    refine lv_i2d hx hb dX3_isSame_661 ?_
    refine lv_ddiv hx hb dX3_isSame_662 (by rw [← he]; exact n64_of hn) ?_
    rw [← he]
    refine lv_dcmp hx hb dX3_isSame_663 ?_
    rw [dcmp_same hn]
    refine lv_if_ne (tgt := 671) hx hb dX3_isSame_664 (by decide) (fun c2 => absurd (by decide) c2) (fun _ => ?_)
    refine lv_iconst (v := 1) hx hb dX3_isSame_667 (by decide) ?_
    refine lv_goto (tgt := 672) hx hb dX3_isSame_668 (by decide) ?_
    refine W.widen (k := 23) (n := 149) (by omega) (by omega) ?_
    refine W.endD hd1 ?_
    exact W.zret hx hb hr rfl (fun t ht hW => ⟨⟨1, (u.1, u.2.1, h2), rfl, ⟨rfl, hf⟩, by rw [ht]; exact hP, hD⟩, hS.F ht⟩) hS.2.2 dX3_isSame_672
  · have hf := itP hf c1
    obtain ⟨he, hf⟩ := hf
    refine lv_dconst0 hx hb dX3_isSame_650 ?_
    refine lv_goto (tgt := 663) hx hb dX3_isSame_651 (by decide) ?_
    rw [← he]
    refine lv_dcmp hx hb dX3_isSame_663 ?_
    rw [dcmp_same hn]
    refine lv_if_ne (tgt := 671) hx hb dX3_isSame_664 (by decide) (fun c2 => absurd (by decide) c2) (fun _ => ?_)
    refine lv_iconst (v := 1) hx hb dX3_isSame_667 (by decide) ?_
    refine lv_goto (tgt := 672) hx hb dX3_isSame_668 (by decide) ?_
    refine W.widen (k := 23) (n := 149) (by omega) (by omega) ?_
    refine W.endD hd1 ?_
    exact W.zret hx hb hr rfl (fun t ht hW => ⟨⟨1, (u.1, u.2.1, h1), rfl, ⟨rfl, hf⟩, by rw [ht]; exact hP, hD⟩, hS.F ht⟩) hS.2.2 dX3_isSame_672
