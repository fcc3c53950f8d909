def f_J7_fill_53178_L5  (wn : Nat) : Nat → Int32 → Int32 → Int32 → (Nat → Int32) → Option ((Nat → Int32))
  | 0, _, _, _, _ => none
  | n + 1, x1, x2, x3, f =>
    if x3 ≤ x2 then
      some f
    else
      if x2 < 0 ∨ wn ≤ x2.toNatClampNeg then none else
      lt (upd f x2.toNatClampNeg x1) fun (f3 : Nat → Int32) =>
      f_J7_fill_53178_L5 wn n x1 (x2 + 1) x3 f3
def f_J7_fill_53178 (wn : Nat) (f : (Nat → Int32)) (p1 : Int32) : Option ((Nat → Int32)) :=
  f_J7_fill_53178_L5 wn FU p1 0 (nI wn) f
abbrev rm_J7_fill_53178 : Room := { frames := 0, cells := 0, slots := 0, locals := 0 }
theorem hds_J7_fill_53178 : yJ7_fill_53178.cls ≠ "java/lang/invoke/MethodHandle" ∧ yJ7_fill_53178.cls ≠ "java/lang/invoke/VarHandle" ∧ (parseMethodDescriptor yJ7_fill_53178.desc).map (fun d => d.parameters.length) = some 2 := by decide +kernel
set_option maxHeartbeats 4000000 in
set_option maxRecDepth 100000 in
theorem m_J7_fill_53178 (l : Launch) (D : va_G) (Z : Nat → ClassId) (q wn : Nat) (f : (Nat → Int32)) (p1 : Int32) (f' : (Nat → Int32)) (hf : f_J7_fill_53178 wn f p1 = some f') : RWv l yJ7_fill_53178 wsJ7_fill_53178 rm_J7_fill_53178 D Z [.ref q, .int p1] [(q, .inl (Z 0, wn, .inl f))] [(q, .inl (Z 0, wn, .inl (f')))] 0 0 := by
  refine RWv.of (cc := cJ7_fill_53178) (nL := 4) (ret := none) (by decide +kernel) rfl (Nat.le_of_ble_eq_true rfl) ?_
  intro p e s m below meth c A hC hA hP hK hD hS ls hl
  obtain ⟨hx, hb, hr, hml, hown, hts, hlk, -⟩ := hC
  have hown : s.vm.findClass RJ7 = some m.cls := hown
  have hl : lv_has ls 4 [(0, .ref q), (1, .int p1)] := hl
  have L5 : ∀ (n : Nat) (x1 : Int32) (x2 : Int32) (x3 : Int32) (f : (Nat → Int32)) (H : Heap) (locs : List Loc), va_P D vwCl [(q, .inl (Z 0, wn, .inl f))] H → va_D A [(q, .inl (Z 0, wn, .inl f))] → va_S A s.heap H locs → ∀ ls : Array Slot, lv_has ls 4 [(0, .ref q), (1, .int x1), (2, .int x2), (3, .int x3)] → f_J7_fill_53178_L5 wn n x1 x2 x3 f = some f' → W p l e rm_J7_fill_53178 s m ([.ref q, .int p1] : List Value).toArray below meth c H locs 0 0 (MQ below (zMv D A [(q, .inl (Z 0, wn, .inl (f')))]) ([.ref q, .int p1] : List Value).toArray s 0 0 A) (F0 m 5 ls []) := by
    intro n
    induction n with
    | zero =>
      intro x1 x2 x3 f H locs hP hD hS ls hl hf
      exact no_r hf
    | succ n ih =>
      intro x1 x2 x3 f H locs hP hD hS ls hl hf
      rw [f_J7_fill_53178_L5] at hf
      refine lv_iload_n hx hb dJ7_fill_53178_5 rfl (lv_at hl 2 rfl) ?_
      refine lv_iload_n hx hb dJ7_fill_53178_6 rfl (lv_at hl 3 rfl) ?_
      refine lv_icmp_ge (tgt := 20) hx hb dJ7_fill_53178_7 (by decide) (fun c1 => ?_) (fun c1 => ?_)
      · have hf := if_t hf c1
        exact zw_v hx hb hr hlk hP hD hS (congrArg (fun z => ([(q, .inl (Z 0, wn, .inl z))] : va_W)) (Option.some.inj hf)) (Nat.le_of_ble_eq_true rfl) (Nat.le_of_ble_eq_true rfl) dJ7_fill_53178_20
      · have hf := if_f hf c1
        refine lv_aload_n hx hb dJ7_fill_53178_10 rfl (lv_at hl 0 rfl) ?_
        refine lv_iload_n hx hb dJ7_fill_53178_11 rfl (lv_at hl 2 rfl) ?_
        refine lv_iload_n hx hb dJ7_fill_53178_12 rfl (lv_at hl 1 rfl) ?_
        obtain ⟨hg2, hf⟩ := if_g hf
        refine va_iast hx hb hK hP hD hS 0 0 rfl rfl hg2 dJ7_fill_53178_13 (fun H locs hP hD hS => ?_)
        obtain ⟨f3, ef3, hf⟩ := lt_ex hf
        have hP : va_P D vwCl [(q, .inl (Z 0, wn, .inl f3))] H := by rw [ef3]; exact hP
        have hD : va_D A [(q, .inl (Z 0, wn, .inl f3))] := by rw [ef3]; exact hD
        refine lv_iinc (v := (x2 + 1)) (lv' := [(2, .int (x2 + 1)), (0, .ref q), (1, .int x1), (3, .int x3)]) hx hb dJ7_fill_53178_14 hl (k := 2) rfl rfl (by decide) rfl (fun ls hl => ?_)
        refine lv_goto (tgt := 5) hx hb dJ7_fill_53178_17 (by decide) ?_
        exact ih x1 (x2 + 1) x3 f3 _ _ hP hD hS ls (lv_sub hl [1, 2, 0, 3] rfl) hf
  unfold f_J7_fill_53178 at hf
  refine lv_iconst (v := 0) hx hb dJ7_fill_53178_0 (by decide) ?_
  refine lv_istore_n (lv' := [(2, .int 0), (0, .ref q), (1, .int p1)]) hx hb dJ7_fill_53178_1 rfl hl (by decide) rfl (fun ls hl => ?_)
  refine lv_aload_n hx hb dJ7_fill_53178_2 rfl (lv_at hl 1 rfl) ?_
  refine va_alen (v := (nI wn)) hx hb hK hP 0 0 rfl rfl rfl dJ7_fill_53178_3 ?_
  refine lv_istore_n (lv' := [(3, .int (nI wn)), (2, .int 0), (0, .ref q), (1, .int p1)]) hx hb dJ7_fill_53178_4 rfl hl (by decide) rfl (fun ls hl => ?_)
  exact L5 FU p1 0 (nI wn) f _ _ hP hD hS ls (lv_sub hl [2, 3, 1, 0] rfl) hf

theorem fill_L {n : Nat} (hn : n < 2 ^ 31) (v : Int32) : ∀ (k i fuel : Nat) (f : Nat → Int32), i + k = n → k < fuel → (∀ j, j < i → f j = v) → ∃ g, f_J7_fill_53178_L5 n fuel v (nI i) (nI n) f = some g ∧ ∀ j, j < n → g j = v := by
  intro k
  induction k with
  | zero =>
    intro i fuel f hi hk hf
    obtain ⟨fu, rfl⟩ : ∃ z, fuel = z + 1 := ⟨fuel - 1, by omega⟩
    refine ⟨f, ?_, fun j hj => hf j (by omega)⟩
    rw [f_J7_fill_53178_L5, if_pos (nI_le (by omega) (by omega))]
  | succ k ih =>
    intro i fuel f hi hk hf
    obtain ⟨fu, rfl⟩ : ∃ z, fuel = z + 1 := ⟨fuel - 1, by omega⟩
    obtain ⟨g, h1, h2⟩ := ih (i + 1) fu (upd f i v) (by omega) (by omega) (fun j hj => by
      unfold upd
      by_cases h : j = i
      · rw [if_pos h]
      · rw [if_neg h]; exact hf j (by omega))
    refine ⟨g, ?_, h2⟩
    rw [f_J7_fill_53178_L5, if_neg (nI_ge (by omega) (by omega)), if_neg (vp_in_nI (by omega) (by omega)), nI_clamp (by omega)]
    show f_J7_fill_53178_L5 n fu v (nI i + 1) (nI n) (upd f i v) = some g
    rw [nI_1]
    exact h1
theorem fill_ok {n : Nat} (hn : n < 1000) (f : Nat → Int32) (v : Int32) : ∃ g, f_J7_fill_53178 n f v = some g ∧ ∀ j, j < n → g j = v := fill_L (by omega) v n 0 FU f (by omega) (by show n < 2000; omega) (fun j hj => absurd hj (Nat.not_lt_zero _))
section PGCT
variable {p : Program} {l : Launch} {e : Env} {R : Room} {s : State} {m : MethodId} {args : Array Value} {below : List Frame} {meth : Method} {c : Code} {H : Heap} {locs : List Loc} {cells slots : Nat} {Q : State → Prop} {cc : ByteArray} {pc : Nat} {ls : Array Slot} {D : va_G} {Z : Nat → ClassId} {w : va_W} {A : Nat → Prop} {H0 : Heap} {mc ms : Nat} {a : Array Value} {rest st0 : List Value} {x : va_E}
theorem zc_rn (hr : va_Run p l e R s m args below meth c H locs cells slots mc ms (F0 m pc ls st0) rest (va_Qr (fun (_ : Unit) => True) (fun _ q t => va_P D vwCl [(q, x)] t.heap ∧ va_D (fun z => H.size ≤ z) [(q, x)]) (fun q => H.size ≤ q) a) (fun q => H.size ≤ q)) (hP : va_P D vwCl w H) (hD : va_D A w) (hS : va_S A H0 H locs) (hA : ∀ q, H0.size ≤ q → A q)
    (kk : ∀ (q : Nat) (H1 : Heap) (locs1 : List Loc), va_P D vwCl (w ++ [(q, x)]) H1 → va_D A (w ++ [(q, x)]) → va_S A H0 H1 locs1 → W p l e R s m args below meth c H1 locs1 (cells + mc) (slots + ms) Q (F0 m (pc + 3) ls (.ref q :: rest))) : W p l e R s m args below meth c H locs cells slots Q (F0 m pc ls st0) := by
  refine va_callr hr hS (fun q h1 h2 => absurd h2 (Nat.not_le.mpr h1)) (fun q h => hA q (Nat.le_trans hS.1 h)) (fun u q t H1 locs1 ht _ _ hB _ hk hS1 => ?_)
  obtain ⟨h1, h2⟩ := hB
  rw [ht] at h1
  refine kk q H1 locs1 ((hP.kept (fun k q hq => hk q.1 (hP k q hq).lt (Nat.not_le.mpr (hP k q hq).lt))).app h1) (hD.app (h2.weaken (fun _ q _ h => hA q.1 (Nat.le_trans hS.1 h))) (fun i j p q hp hq e => ?_)) hS1
  have g1 := (hP i p hp).lt
  have g2 := h2.2 j q hq
  rw [e] at g1
  exact absurd g1 (Nat.not_lt.mpr g2)
end PGCT
theorem hds_X0_emptyRow : yX0_emptyRow.cls ≠ "java/lang/invoke/MethodHandle" ∧ yX0_emptyRow.cls ≠ "java/lang/invoke/VarHandle" ∧ (parseMethodDescriptor yX0_emptyRow.desc).map (fun d => d.parameters.length) = some 1 := by decide +kernel
set_option maxHeartbeats 4000000 in
set_option maxRecDepth 100000 in
theorem m_X0_emptyRow (l : Launch) (D : va_G) (Z : Nat → ClassId) (len : Int32) (n : Nat) (h1 : (if (0 : Int32) < len then len else 0) = len) (h2 : ¬ len < 0) (h3 : len.toNatClampNeg = n) (h4 : n < 1000) (h5 : Int32.ofNat n = len) : ∀ sz : Nat, Met l yX0_emptyRow wsX0_emptyRow ({ frames := 3, cells := 1, slots := n, locals := 80 }) (va_Pc [.int len] (zPre D Z [] sz)) (va_Qr (fun (_ : Unit) => True) (fun _ q t => va_P D vwCl [(q, .inl (Z 0, n, .inl (fun _ => -1)))] t.heap ∧ va_D (fun z => sz ≤ z) [(q, .inl (Z 0, n, .inl (fun _ => -1)))]) (fun q => sz ≤ q)) 1 n (fun q => sz ≤ q) := fun sz => by
  refine z_open (cc := cX0_emptyRow) (nL := 2) (ret := (some (.array .int))) (by decide +kernel) rfl (Nat.le_of_ble_eq_true rfl) ?_
  intro p e s m below meth c hC hB ls hl
  obtain ⟨hsz, hP, hK, hD0⟩ := hB
  subst hsz
  obtain ⟨hx, hb, hr, hml, hown, hts, hlk, -⟩ := hC
  have hown : s.vm.findClass RX0 = some m.cls := hown
  obtain ⟨g, hg, hg1⟩ := fill_ok h4 (fun _ => 0) (-1)
  have hD : va_D (fun q : Nat => s.heap.size ≤ q) [] := hD0.weaken (fun k q h _ => by simp at h)
  have hA : ∀ q : Nat, s.heap.size ≤ q → (fun q : Nat => s.heap.size ≤ q) q := fun _ h => h
  have hS : va_S (fun q : Nat => s.heap.size ≤ q) s.heap s.heap [] := va_S.rf
  have hl : lv_has ls 2 [(0, .int len)] := hl
  refine lv_iconst (v := 0) hx hb dX0_emptyRow_0 (by decide) ?_
  refine lv_iload_n hx hb dX0_emptyRow_1 rfl (lv_at hl 0 rfl) ?_
  refine va_mmax hx hb (hml.trans hl.1.symm) hown (hts (.methodLink RX0 146 Lib.Math.max.name) (List.mem_of_getElem? (i := 1) rfl)) (hts (.static Lib.Math.max.name) (List.mem_of_getElem? (i := 2) rfl)) (hts (.initialized "java/lang/Math") (List.mem_of_getElem? (i := 3) rfl)) (hts (.code Lib.Math.max.name Lib.Math.max.code 2 (some .int)) (List.mem_of_getElem? (i := 4) rfl)) (Nat.le_of_ble_eq_true rfl) (Nat.le_of_ble_eq_true rfl) (Nat.zero_le _) (Nat.zero_le _) dX0_emptyRow_2 ?_
  rw [h1]
  refine z_newa (N1 := n) hx hb (hts (.arrayClass .int) (List.mem_of_getElem? (i := 5) rfl)) hK hP hD hS hA h2 h3 (by omega) (Nat.le_of_ble_eq_true rfl) (by show 0 + n ≤ n; omega) dX0_emptyRow_5 (fun q H hP hD hS => ?_)
  refine lv_astore_n (lv' := [(1, .ref q), (0, .int len)]) hx hb dX0_emptyRow_7 rfl hl (by decide) rfl (fun ls hl => ?_)
  refine lv_aload_n hx hb dX0_emptyRow_8 rfl (lv_at hl 0 rfl) ?_
  refine lv_iconst (v := (-1)) hx hb dX0_emptyRow_9 (by decide) ?_
  refine zc_mv1 (k := 0) (e1 := .inl (Z 0, n, .inl g)) rfl (z_SD (As := [.ref q, .int (-1)]) (rest := []) ⟨hx, hb, hml, hown, hts⟩ (m_J7_fill_53178 l D Z q n (fun _ => 0) (-1) g hg) gX0_emptyRow_J7_fill_53178 rfl rfl rfl hds_J7_fill_53178 ⟨Nat.le_of_ble_eq_true rfl, Nat.le_of_ble_eq_true rfl⟩ hK hP hD rfl hl.1 rfl (Nat.le_of_ble_eq_true rfl) dX0_emptyRow_10 ⟨Nat.le_of_ble_eq_true rfl, by show 0 + n + 0 ≤ n; omega⟩) hP hD hS hA (fun H locs hP hD hS => ?_)
  have hP := va_P.ext (k := 0) (a := q) (n := n) (g := fun _ => -1) hP rfl hg1
  have hD := hD.set (p := 0) (a := q) (e := .inl (Z 0, n, .inl (fun _ => -1))) rfl
  have hP : va_P D vwCl [(q, .inl (Z 0, n, .inl (fun _ => -1)))] H := hP
  have hD : va_D (fun q : Nat => s.heap.size ≤ q) [(q, .inl (Z 0, n, .inl (fun _ => -1)))] := hD
  refine lv_aload_n hx hb dX0_emptyRow_13 rfl (lv_at hl 0 rfl) ?_
  refine W.widen (k := 1) (n := n) (Nat.le_of_ble_eq_true rfl) (by show 0 + n + 0 ≤ n; omega) ?_
  exact W.aret hx hb hr (Or.inr ⟨_, rfl⟩) (Or.inr ⟨_, rfl⟩) (fun t ht hW => ⟨⟨(), q, rfl, trivial, by rw [ht]; exact hP, hD⟩, hS.F ht⟩) hS.2.2 dX0_emptyRow_14 hlk
def rI0 : RS := (fun _ => 0, fun k => match k with | 0 => fun _ => -1 | 1 => fun _ => -1 | 8 => fun _ => -1 | 9 => fun _ => -1 | _ => fun _ => 0)
def mI0 : RS := (fun _ => 0, fun k => match k with | 3 => (fun j => if j = 3 then -1 else 0) | _ => fun _ => 0)
abbrev rm_X0_init : Room := { frames := 4, cells := 11, slots := 258, locals := 140 }
theorem hdi_X0_init : yX0_init.cls ≠ "java/lang/invoke/MethodHandle" ∧ yX0_init.cls ≠ "java/lang/invoke/VarHandle" ∧ (parseMethodDescriptor yX0_init.desc).map (fun d => d.parameters.length) = some 0 := by decide +kernel
set_option maxHeartbeats 4000000 in
set_option maxRecDepth 100000 in
theorem m_X0_init (l : Launch) (D : va_G) (Z : Nat → ClassId) (h0 : Nat) : ∀ sz : Nat, Met l yX0_init wsX0_init rm_X0_init (va_Pc [.ref h0] (zPre D Z [(h0, .inr (0, [.int 0, .int 0, .int 0, .int 0, .int 0, .int 0, .null, .null, .null, .null, .null, .null, .null, .null, .null, .null, .null]))] sz)) (va_Qv (fun (a : Nat → Nat) => a 0 = h0) (fun a t => va_P D vwCl (rwl Z a rI0) t.heap ∧ va_D (va_A [(h0, .inr (0, [.int 0, .int 0, .int 0, .int 0, .int 0, .int 0, .null, .null, .null, .null, .null, .null, .null, .null, .null, .null, .null]))] sz) (rwl Z a rI0)) (va_A [(h0, .inr (0, [.int 0, .int 0, .int 0, .int 0, .int 0, .int 0, .null, .null, .null, .null, .null, .null, .null, .null, .null, .null, .null]))] sz)) 11 258 (va_A [(h0, .inr (0, [.int 0, .int 0, .int 0, .int 0, .int 0, .int 0, .null, .null, .null, .null, .null, .null, .null, .null, .null, .null, .null]))] sz) := fun sz => by
  refine z_open (cc := cX0_init) (nL := 1) (ret := none) (by decide +kernel) rfl (Nat.le_of_ble_eq_true rfl) ?_
  intro p e s m below meth c hC hB ls hl
  obtain ⟨hsz, hP, hK, hD0⟩ := hB
  subst hsz
  obtain ⟨hx, hb, hr, hml, hown, hts, hlk, hinn⟩ := hC
  have hown : s.vm.findClass RX0 = some m.cls := hown
  have hinn : meth.name = "<init>" := hinn
  have hD := hD0.self (sz := s.heap.size)
  generalize hAe : va_A [(h0, .inr (0, [.int 0, .int 0, .int 0, .int 0, .int 0, .int 0, .null, .null, .null, .null, .null, .null, .null, .null, .null, .null, .null]))] s.heap.size = A at hD ⊢
  have hA : ∀ q : Nat, s.heap.size ≤ q → A q := fun q h => by rw [← hAe]; exact Or.inr h
  have hS : va_S A s.heap s.heap [] := va_S.rf
  have hin : ∀ w ∈ wsX00, w ∈ wsX0_init := fun w h => List.mem_cons_of_mem _ (List.mem_append_right _ h)
  have hl : lv_has ls 1 [(0, .ref h0)] := hl
  refine lv_aload_n hx hb dX0_init_0 rfl (lv_at hl 0 rfl) ?_
  refine W.objInit hx hb hown (hts (.methodLink RX0 3 objectInit) (List.mem_of_getElem? (i := 1) rfl)) (hts (.instanceMethod objectInit) (List.mem_of_getElem? (i := 2) rfl)) (hts _ (List.mem_of_getElem? (i := 3) rfl)) rfl (by rw [hml]; exact hl.1) rfl dX0_init_1 (Nat.le_of_ble_eq_true rfl) (Nat.le_of_ble_eq_true rfl) ?_
  refine W.eq (g2 := F0 m 4 ls []) rfl ?_
  refine lv_aload_n hx hb dX0_init_4 rfl (lv_at hl 0 rfl) ?_
  refine lv_bipush (v := 24) hx hb dX0_init_5 (by decide) ?_
  refine zc_rn (z_SD (As := [.int 24]) (rest := [.ref h0]) (w0 := []) ⟨hx, hb, hml, hown, hts⟩ (m_X0_emptyRow l D Z 24 24 (by decide) (by decide) (by decide) (by decide) (by decide)) gX0_init_X0_emptyRow rfl rfl rfl hds_X0_emptyRow ⟨Nat.le_of_ble_eq_true rfl, Nat.le_of_ble_eq_true rfl⟩ hK (hP.sub (ws' := []) [] rfl) (hD.sub (ws' := []) [] (by decide) rfl) rfl hl.1 rfl (Nat.le_of_ble_eq_true rfl) dX0_init_7 ⟨Nat.le_of_ble_eq_true rfl, Nat.le_of_ble_eq_true rfl⟩) hP hD hS hA (fun q1 H locs hP hD hS => ?_)
  have hP : va_P D vwCl [(h0, .inr (0, [.int 0, .int 0, .int 0, .int 0, .int 0, .int 0, .null, .null, .null, .null, .null, .null, .null, .null, .null, .null, .null])), (q1, .inl (Z 0, 24, .inl (fun _ => -1)))] H := hP
  have hD : va_D A [(h0, .inr (0, [.int 0, .int 0, .int 0, .int 0, .int 0, .int 0, .null, .null, .null, .null, .null, .null, .null, .null, .null, .null, .null])), (q1, .inl (Z 0, 24, .inl (fun _ => -1)))] := hD
  refine va_putF (D := D) (ci := 0) (v := .ref q1) (ty := .array .int) (C := RX0) (T := TX0) (N := 17) hx hb hts hin tyX0 tyX0_ok nmX0 hown hK hP hD hS 0 rfl rfl 6 (by decide) (hts (.fieldLink RX0 15 "PodGuideway$Ring" "podInSlot" "[I") (List.mem_of_getElem? (i := 4) rfl)) (fun _ h9 => h9) rfl hinn rfl (by decide +kernel) rfl rfl (Nat.le_of_ble_eq_true rfl) dX0_init_10 (fun H locs hP hD hS => ?_)
  have hP : va_P D vwCl [(h0, .inr (0, [.int 0, .int 0, .int 0, .int 0, .int 0, .int 0, .ref q1, .null, .null, .null, .null, .null, .null, .null, .null, .null, .null])), (q1, .inl (Z 0, 24, .inl (fun _ => -1)))] H := hP
  have hD : va_D A [(h0, .inr (0, [.int 0, .int 0, .int 0, .int 0, .int 0, .int 0, .ref q1, .null, .null, .null, .null, .null, .null, .null, .null, .null, .null])), (q1, .inl (Z 0, 24, .inl (fun _ => -1)))] := hD
  refine lv_aload_n hx hb dX0_init_13 rfl (lv_at hl 0 rfl) ?_
  refine lv_bipush (v := 18) hx hb dX0_init_14 (by decide) ?_
  refine zc_rn (z_SD (As := [.int 18]) (rest := [.ref h0]) (w0 := []) ⟨hx, hb, hml, hown, hts⟩ (m_X0_emptyRow l D Z 18 18 (by decide) (by decide) (by decide) (by decide) (by decide)) gX0_init_X0_emptyRow rfl rfl rfl hds_X0_emptyRow ⟨Nat.le_of_ble_eq_true rfl, Nat.le_of_ble_eq_true rfl⟩ hK (hP.sub (ws' := []) [] rfl) (hD.sub (ws' := []) [] (by decide) rfl) rfl hl.1 rfl (Nat.le_of_ble_eq_true rfl) dX0_init_16 ⟨Nat.le_of_ble_eq_true rfl, Nat.le_of_ble_eq_true rfl⟩) hP hD hS hA (fun q2 H locs hP hD hS => ?_)
  have hP : va_P D vwCl [(h0, .inr (0, [.int 0, .int 0, .int 0, .int 0, .int 0, .int 0, .ref q1, .null, .null, .null, .null, .null, .null, .null, .null, .null, .null])), (q1, .inl (Z 0, 24, .inl (fun _ => -1))), (q2, .inl (Z 0, 18, .inl (fun _ => -1)))] H := hP
  have hD : va_D A [(h0, .inr (0, [.int 0, .int 0, .int 0, .int 0, .int 0, .int 0, .ref q1, .null, .null, .null, .null, .null, .null, .null, .null, .null, .null])), (q1, .inl (Z 0, 24, .inl (fun _ => -1))), (q2, .inl (Z 0, 18, .inl (fun _ => -1)))] := hD
  refine va_putF (D := D) (ci := 0) (v := .ref q2) (ty := .array .int) (C := RX0) (T := TX0) (N := 17) hx hb hts hin tyX0 tyX0_ok nmX0 hown hK hP hD hS 0 rfl rfl 7 (by decide) (hts (.fieldLink RX0 19 "PodGuideway$Ring" "podInBerth" "[I") (List.mem_of_getElem? (i := 5) rfl)) (fun _ h9 => h9) rfl hinn rfl (by decide +kernel) rfl rfl (Nat.le_of_ble_eq_true rfl) dX0_init_19 (fun H locs hP hD hS => ?_)
  have hP : va_P D vwCl [(h0, .inr (0, [.int 0, .int 0, .int 0, .int 0, .int 0, .int 0, .ref q1, .ref q2, .null, .null, .null, .null, .null, .null, .null, .null, .null])), (q1, .inl (Z 0, 24, .inl (fun _ => -1))), (q2, .inl (Z 0, 18, .inl (fun _ => -1)))] H := hP
  have hD : va_D A [(h0, .inr (0, [.int 0, .int 0, .int 0, .int 0, .int 0, .int 0, .ref q1, .ref q2, .null, .null, .null, .null, .null, .null, .null, .null, .null])), (q1, .inl (Z 0, 24, .inl (fun _ => -1))), (q2, .inl (Z 0, 18, .inl (fun _ => -1)))] := hD
  refine lv_aload_n hx hb dX0_init_22 rfl (lv_at hl 0 rfl) ?_
  refine lv_bipush (v := 6) hx hb dX0_init_23 (by decide) ?_
  refine z_newa (N1 := 6) hx hb (hts (.arrayClass .int) (List.mem_of_getElem? (i := 6) rfl)) hK hP hD hS hA (by decide) (by decide) (by decide) (Nat.le_of_ble_eq_true rfl) (Nat.le_of_ble_eq_true rfl) dX0_init_25 (fun q3 H hP hD hS => ?_)
  have hP : va_P D vwCl [(h0, .inr (0, [.int 0, .int 0, .int 0, .int 0, .int 0, .int 0, .ref q1, .ref q2, .null, .null, .null, .null, .null, .null, .null, .null, .null])), (q1, .inl (Z 0, 24, .inl (fun _ => -1))), (q2, .inl (Z 0, 18, .inl (fun _ => -1))), (q3, .inl (Z 0, 6, .inl (fun _ => 0)))] H := hP
  have hD : va_D A [(h0, .inr (0, [.int 0, .int 0, .int 0, .int 0, .int 0, .int 0, .ref q1, .ref q2, .null, .null, .null, .null, .null, .null, .null, .null, .null])), (q1, .inl (Z 0, 24, .inl (fun _ => -1))), (q2, .inl (Z 0, 18, .inl (fun _ => -1))), (q3, .inl (Z 0, 6, .inl (fun _ => 0)))] := hD
  refine va_putF (D := D) (ci := 0) (v := .ref q3) (ty := .array .int) (C := RX0) (T := TX0) (N := 17) hx hb hts hin tyX0 tyX0_ok nmX0 hown hK hP hD hS 0 rfl rfl 8 (by decide) (hts (.fieldLink RX0 22 "PodGuideway$Ring" "stationPlace" "[I") (List.mem_of_getElem? (i := 7) rfl)) (fun _ h9 => h9) rfl hinn rfl (by decide +kernel) rfl rfl (Nat.le_of_ble_eq_true rfl) dX0_init_27 (fun H locs hP hD hS => ?_)
  have hP : va_P D vwCl [(h0, .inr (0, [.int 0, .int 0, .int 0, .int 0, .int 0, .int 0, .ref q1, .ref q2, .ref q3, .null, .null, .null, .null, .null, .null, .null, .null])), (q1, .inl (Z 0, 24, .inl (fun _ => -1))), (q2, .inl (Z 0, 18, .inl (fun _ => -1))), (q3, .inl (Z 0, 6, .inl (fun _ => 0)))] H := hP
  have hD : va_D A [(h0, .inr (0, [.int 0, .int 0, .int 0, .int 0, .int 0, .int 0, .ref q1, .ref q2, .ref q3, .null, .null, .null, .null, .null, .null, .null, .null])), (q1, .inl (Z 0, 24, .inl (fun _ => -1))), (q2, .inl (Z 0, 18, .inl (fun _ => -1))), (q3, .inl (Z 0, 6, .inl (fun _ => 0)))] := hD
  refine lv_aload_n hx hb dX0_init_30 rfl (lv_at hl 0 rfl) ?_
  refine lv_bipush (v := 6) hx hb dX0_init_31 (by decide) ?_
  refine z_newa (N1 := 6) hx hb (hts (.arrayClass .int) (List.mem_of_getElem? (i := 6) rfl)) hK hP hD hS hA (by decide) (by decide) (by decide) (Nat.le_of_ble_eq_true rfl) (Nat.le_of_ble_eq_true rfl) dX0_init_33 (fun q4 H hP hD hS => ?_)
  have hP : va_P D vwCl [(h0, .inr (0, [.int 0, .int 0, .int 0, .int 0, .int 0, .int 0, .ref q1, .ref q2, .ref q3, .null, .null, .null, .null, .null, .null, .null, .null])), (q1, .inl (Z 0, 24, .inl (fun _ => -1))), (q2, .inl (Z 0, 18, .inl (fun _ => -1))), (q3, .inl (Z 0, 6, .inl (fun _ => 0))), (q4, .inl (Z 0, 6, .inl (fun _ => 0)))] H := hP
  have hD : va_D A [(h0, .inr (0, [.int 0, .int 0, .int 0, .int 0, .int 0, .int 0, .ref q1, .ref q2, .ref q3, .null, .null, .null, .null, .null, .null, .null, .null])), (q1, .inl (Z 0, 24, .inl (fun _ => -1))), (q2, .inl (Z 0, 18, .inl (fun _ => -1))), (q3, .inl (Z 0, 6, .inl (fun _ => 0))), (q4, .inl (Z 0, 6, .inl (fun _ => 0)))] := hD
  refine va_putF (D := D) (ci := 0) (v := .ref q4) (ty := .array .int) (C := RX0) (T := TX0) (N := 17) hx hb hts hin tyX0 tyX0_ok nmX0 hown hK hP hD hS 0 rfl rfl 9 (by decide) (hts (.fieldLink RX0 25 "PodGuideway$Ring" "stationArrived" "[I") (List.mem_of_getElem? (i := 8) rfl)) (fun _ h9 => h9) rfl hinn rfl (by decide +kernel) rfl rfl (Nat.le_of_ble_eq_true rfl) dX0_init_35 (fun H locs hP hD hS => ?_)
  have hP : va_P D vwCl [(h0, .inr (0, [.int 0, .int 0, .int 0, .int 0, .int 0, .int 0, .ref q1, .ref q2, .ref q3, .ref q4, .null, .null, .null, .null, .null, .null, .null])), (q1, .inl (Z 0, 24, .inl (fun _ => -1))), (q2, .inl (Z 0, 18, .inl (fun _ => -1))), (q3, .inl (Z 0, 6, .inl (fun _ => 0))), (q4, .inl (Z 0, 6, .inl (fun _ => 0)))] H := hP
  have hD : va_D A [(h0, .inr (0, [.int 0, .int 0, .int 0, .int 0, .int 0, .int 0, .ref q1, .ref q2, .ref q3, .ref q4, .null, .null, .null, .null, .null, .null, .null])), (q1, .inl (Z 0, 24, .inl (fun _ => -1))), (q2, .inl (Z 0, 18, .inl (fun _ => -1))), (q3, .inl (Z 0, 6, .inl (fun _ => 0))), (q4, .inl (Z 0, 6, .inl (fun _ => 0)))] := hD
  refine lv_aload_n hx hb dX0_init_38 rfl (lv_at hl 0 rfl) ?_
  refine lv_bipush (v := 6) hx hb dX0_init_39 (by decide) ?_
  refine z_newa (N1 := 6) hx hb (hts (.arrayClass .int) (List.mem_of_getElem? (i := 6) rfl)) hK hP hD hS hA (by decide) (by decide) (by decide) (Nat.le_of_ble_eq_true rfl) (Nat.le_of_ble_eq_true rfl) dX0_init_41 (fun q5 H hP hD hS => ?_)
  have hP : va_P D vwCl [(h0, .inr (0, [.int 0, .int 0, .int 0, .int 0, .int 0, .int 0, .ref q1, .ref q2, .ref q3, .ref q4, .null, .null, .null, .null, .null, .null, .null])), (q1, .inl (Z 0, 24, .inl (fun _ => -1))), (q2, .inl (Z 0, 18, .inl (fun _ => -1))), (q3, .inl (Z 0, 6, .inl (fun _ => 0))), (q4, .inl (Z 0, 6, .inl (fun _ => 0))), (q5, .inl (Z 0, 6, .inl (fun _ => 0)))] H := hP
  have hD : va_D A [(h0, .inr (0, [.int 0, .int 0, .int 0, .int 0, .int 0, .int 0, .ref q1, .ref q2, .ref q3, .ref q4, .null, .null, .null, .null, .null, .null, .null])), (q1, .inl (Z 0, 24, .inl (fun _ => -1))), (q2, .inl (Z 0, 18, .inl (fun _ => -1))), (q3, .inl (Z 0, 6, .inl (fun _ => 0))), (q4, .inl (Z 0, 6, .inl (fun _ => 0))), (q5, .inl (Z 0, 6, .inl (fun _ => 0)))] := hD
  refine va_putF (D := D) (ci := 0) (v := .ref q5) (ty := .array .int) (C := RX0) (T := TX0) (N := 17) hx hb hts hin tyX0 tyX0_ok nmX0 hown hK hP hD hS 0 rfl rfl 10 (by decide) (hts (.fieldLink RX0 28 "PodGuideway$Ring" "stationWaiting" "[I") (List.mem_of_getElem? (i := 9) rfl)) (fun _ h9 => h9) rfl hinn rfl (by decide +kernel) rfl rfl (Nat.le_of_ble_eq_true rfl) dX0_init_43 (fun H locs hP hD hS => ?_)
  have hP : va_P D vwCl [(h0, .inr (0, [.int 0, .int 0, .int 0, .int 0, .int 0, .int 0, .ref q1, .ref q2, .ref q3, .ref q4, .ref q5, .null, .null, .null, .null, .null, .null])), (q1, .inl (Z 0, 24, .inl (fun _ => -1))), (q2, .inl (Z 0, 18, .inl (fun _ => -1))), (q3, .inl (Z 0, 6, .inl (fun _ => 0))), (q4, .inl (Z 0, 6, .inl (fun _ => 0))), (q5, .inl (Z 0, 6, .inl (fun _ => 0)))] H := hP
  have hD : va_D A [(h0, .inr (0, [.int 0, .int 0, .int 0, .int 0, .int 0, .int 0, .ref q1, .ref q2, .ref q3, .ref q4, .ref q5, .null, .null, .null, .null, .null, .null])), (q1, .inl (Z 0, 24, .inl (fun _ => -1))), (q2, .inl (Z 0, 18, .inl (fun _ => -1))), (q3, .inl (Z 0, 6, .inl (fun _ => 0))), (q4, .inl (Z 0, 6, .inl (fun _ => 0))), (q5, .inl (Z 0, 6, .inl (fun _ => 0)))] := hD
  refine lv_aload_n hx hb dX0_init_46 rfl (lv_at hl 0 rfl) ?_
  refine lv_bipush (v := 54) hx hb dX0_init_47 (by decide) ?_
  refine z_newa (N1 := 54) hx hb (hts (.arrayClass .int) (List.mem_of_getElem? (i := 6) rfl)) hK hP hD hS hA (by decide) (by decide) (by decide) (Nat.le_of_ble_eq_true rfl) (Nat.le_of_ble_eq_true rfl) dX0_init_49 (fun q6 H hP hD hS => ?_)
  have hP : va_P D vwCl [(h0, .inr (0, [.int 0, .int 0, .int 0, .int 0, .int 0, .int 0, .ref q1, .ref q2, .ref q3, .ref q4, .ref q5, .null, .null, .null, .null, .null, .null])), (q1, .inl (Z 0, 24, .inl (fun _ => -1))), (q2, .inl (Z 0, 18, .inl (fun _ => -1))), (q3, .inl (Z 0, 6, .inl (fun _ => 0))), (q4, .inl (Z 0, 6, .inl (fun _ => 0))), (q5, .inl (Z 0, 6, .inl (fun _ => 0))), (q6, .inl (Z 0, 54, .inl (fun _ => 0)))] H := hP
  have hD : va_D A [(h0, .inr (0, [.int 0, .int 0, .int 0, .int 0, .int 0, .int 0, .ref q1, .ref q2, .ref q3, .ref q4, .ref q5, .null, .null, .null, .null, .null, .null])), (q1, .inl (Z 0, 24, .inl (fun _ => -1))), (q2, .inl (Z 0, 18, .inl (fun _ => -1))), (q3, .inl (Z 0, 6, .inl (fun _ => 0))), (q4, .inl (Z 0, 6, .inl (fun _ => 0))), (q5, .inl (Z 0, 6, .inl (fun _ => 0))), (q6, .inl (Z 0, 54, .inl (fun _ => 0)))] := hD
  refine va_putF (D := D) (ci := 0) (v := .ref q6) (ty := .array .int) (C := RX0) (T := TX0) (N := 17) hx hb hts hin tyX0 tyX0_ok nmX0 hown hK hP hD hS 0 rfl rfl 11 (by decide) (hts (.fieldLink RX0 31 "PodGuideway$Ring" "riderNumber" "[I") (List.mem_of_getElem? (i := 10) rfl)) (fun _ h9 => h9) rfl hinn rfl (by decide +kernel) rfl rfl (Nat.le_of_ble_eq_true rfl) dX0_init_51 (fun H locs hP hD hS => ?_)
  have hP : va_P D vwCl [(h0, .inr (0, [.int 0, .int 0, .int 0, .int 0, .int 0, .int 0, .ref q1, .ref q2, .ref q3, .ref q4, .ref q5, .ref q6, .null, .null, .null, .null, .null])), (q1, .inl (Z 0, 24, .inl (fun _ => -1))), (q2, .inl (Z 0, 18, .inl (fun _ => -1))), (q3, .inl (Z 0, 6, .inl (fun _ => 0))), (q4, .inl (Z 0, 6, .inl (fun _ => 0))), (q5, .inl (Z 0, 6, .inl (fun _ => 0))), (q6, .inl (Z 0, 54, .inl (fun _ => 0)))] H := hP
  have hD : va_D A [(h0, .inr (0, [.int 0, .int 0, .int 0, .int 0, .int 0, .int 0, .ref q1, .ref q2, .ref q3, .ref q4, .ref q5, .ref q6, .null, .null, .null, .null, .null])), (q1, .inl (Z 0, 24, .inl (fun _ => -1))), (q2, .inl (Z 0, 18, .inl (fun _ => -1))), (q3, .inl (Z 0, 6, .inl (fun _ => 0))), (q4, .inl (Z 0, 6, .inl (fun _ => 0))), (q5, .inl (Z 0, 6, .inl (fun _ => 0))), (q6, .inl (Z 0, 54, .inl (fun _ => 0)))] := hD
  refine lv_aload_n hx hb dX0_init_54 rfl (lv_at hl 0 rfl) ?_
  refine lv_bipush (v := 54) hx hb dX0_init_55 (by decide) ?_
  refine z_newa (N1 := 54) hx hb (hts (.arrayClass .int) (List.mem_of_getElem? (i := 6) rfl)) hK hP hD hS hA (by decide) (by decide) (by decide) (Nat.le_of_ble_eq_true rfl) (Nat.le_of_ble_eq_true rfl) dX0_init_57 (fun q7 H hP hD hS => ?_)
  have hP : va_P D vwCl [(h0, .inr (0, [.int 0, .int 0, .int 0, .int 0, .int 0, .int 0, .ref q1, .ref q2, .ref q3, .ref q4, .ref q5, .ref q6, .null, .null, .null, .null, .null])), (q1, .inl (Z 0, 24, .inl (fun _ => -1))), (q2, .inl (Z 0, 18, .inl (fun _ => -1))), (q3, .inl (Z 0, 6, .inl (fun _ => 0))), (q4, .inl (Z 0, 6, .inl (fun _ => 0))), (q5, .inl (Z 0, 6, .inl (fun _ => 0))), (q6, .inl (Z 0, 54, .inl (fun _ => 0))), (q7, .inl (Z 0, 54, .inl (fun _ => 0)))] H := hP
  have hD : va_D A [(h0, .inr (0, [.int 0, .int 0, .int 0, .int 0, .int 0, .int 0, .ref q1, .ref q2, .ref q3, .ref q4, .ref q5, .ref q6, .null, .null, .null, .null, .null])), (q1, .inl (Z 0, 24, .inl (fun _ => -1))), (q2, .inl (Z 0, 18, .inl (fun _ => -1))), (q3, .inl (Z 0, 6, .inl (fun _ => 0))), (q4, .inl (Z 0, 6, .inl (fun _ => 0))), (q5, .inl (Z 0, 6, .inl (fun _ => 0))), (q6, .inl (Z 0, 54, .inl (fun _ => 0))), (q7, .inl (Z 0, 54, .inl (fun _ => 0)))] := hD
  refine va_putF (D := D) (ci := 0) (v := .ref q7) (ty := .array .int) (C := RX0) (T := TX0) (N := 17) hx hb hts hin tyX0 tyX0_ok nmX0 hown hK hP hD hS 0 rfl rfl 12 (by decide) (hts (.fieldLink RX0 34 "PodGuideway$Ring" "riderGoal" "[I") (List.mem_of_getElem? (i := 11) rfl)) (fun _ h9 => h9) rfl hinn rfl (by decide +kernel) rfl rfl (Nat.le_of_ble_eq_true rfl) dX0_init_59 (fun H locs hP hD hS => ?_)
  have hP : va_P D vwCl [(h0, .inr (0, [.int 0, .int 0, .int 0, .int 0, .int 0, .int 0, .ref q1, .ref q2, .ref q3, .ref q4, .ref q5, .ref q6, .ref q7, .null, .null, .null, .null])), (q1, .inl (Z 0, 24, .inl (fun _ => -1))), (q2, .inl (Z 0, 18, .inl (fun _ => -1))), (q3, .inl (Z 0, 6, .inl (fun _ => 0))), (q4, .inl (Z 0, 6, .inl (fun _ => 0))), (q5, .inl (Z 0, 6, .inl (fun _ => 0))), (q6, .inl (Z 0, 54, .inl (fun _ => 0))), (q7, .inl (Z 0, 54, .inl (fun _ => 0)))] H := hP
  have hD : va_D A [(h0, .inr (0, [.int 0, .int 0, .int 0, .int 0, .int 0, .int 0, .ref q1, .ref q2, .ref q3, .ref q4, .ref q5, .ref q6, .ref q7, .null, .null, .null, .null])), (q1, .inl (Z 0, 24, .inl (fun _ => -1))), (q2, .inl (Z 0, 18, .inl (fun _ => -1))), (q3, .inl (Z 0, 6, .inl (fun _ => 0))), (q4, .inl (Z 0, 6, .inl (fun _ => 0))), (q5, .inl (Z 0, 6, .inl (fun _ => 0))), (q6, .inl (Z 0, 54, .inl (fun _ => 0))), (q7, .inl (Z 0, 54, .inl (fun _ => 0)))] := hD
  refine lv_aload_n hx hb dX0_init_62 rfl (lv_at hl 0 rfl) ?_
  refine lv_bipush (v := 54) hx hb dX0_init_63 (by decide) ?_
  refine z_newa (N1 := 54) hx hb (hts (.arrayClass .int) (List.mem_of_getElem? (i := 6) rfl)) hK hP hD hS hA (by decide) (by decide) (by decide) (Nat.le_of_ble_eq_true rfl) (Nat.le_of_ble_eq_true rfl) dX0_init_65 (fun q8 H hP hD hS => ?_)
  have hP : va_P D vwCl [(h0, .inr (0, [.int 0, .int 0, .int 0, .int 0, .int 0, .int 0, .ref q1, .ref q2, .ref q3, .ref q4, .ref q5, .ref q6, .ref q7, .null, .null, .null, .null])), (q1, .inl (Z 0, 24, .inl (fun _ => -1))), (q2, .inl (Z 0, 18, .inl (fun _ => -1))), (q3, .inl (Z 0, 6, .inl (fun _ => 0))), (q4, .inl (Z 0, 6, .inl (fun _ => 0))), (q5, .inl (Z 0, 6, .inl (fun _ => 0))), (q6, .inl (Z 0, 54, .inl (fun _ => 0))), (q7, .inl (Z 0, 54, .inl (fun _ => 0))), (q8, .inl (Z 0, 54, .inl (fun _ => 0)))] H := hP
  have hD : va_D A [(h0, .inr (0, [.int 0, .int 0, .int 0, .int 0, .int 0, .int 0, .ref q1, .ref q2, .ref q3, .ref q4, .ref q5, .ref q6, .ref q7, .null, .null, .null, .null])), (q1, .inl (Z 0, 24, .inl (fun _ => -1))), (q2, .inl (Z 0, 18, .inl (fun _ => -1))), (q3, .inl (Z 0, 6, .inl (fun _ => 0))), (q4, .inl (Z 0, 6, .inl (fun _ => 0))), (q5, .inl (Z 0, 6, .inl (fun _ => 0))), (q6, .inl (Z 0, 54, .inl (fun _ => 0))), (q7, .inl (Z 0, 54, .inl (fun _ => 0))), (q8, .inl (Z 0, 54, .inl (fun _ => 0)))] := hD
  refine va_putF (D := D) (ci := 0) (v := .ref q8) (ty := .array .int) (C := RX0) (T := TX0) (N := 17) hx hb hts hin tyX0 tyX0_ok nmX0 hown hK hP hD hS 0 rfl rfl 13 (by decide) (hts (.fieldLink RX0 37 "PodGuideway$Ring" "riderCame" "[I") (List.mem_of_getElem? (i := 12) rfl)) (fun _ h9 => h9) rfl hinn rfl (by decide +kernel) rfl rfl (Nat.le_of_ble_eq_true rfl) dX0_init_67 (fun H locs hP hD hS => ?_)
  have hP : va_P D vwCl [(h0, .inr (0, [.int 0, .int 0, .int 0, .int 0, .int 0, .int 0, .ref q1, .ref q2, .ref q3, .ref q4, .ref q5, .ref q6, .ref q7, .ref q8, .null, .null, .null])), (q1, .inl (Z 0, 24, .inl (fun _ => -1))), (q2, .inl (Z 0, 18, .inl (fun _ => -1))), (q3, .inl (Z 0, 6, .inl (fun _ => 0))), (q4, .inl (Z 0, 6, .inl (fun _ => 0))), (q5, .inl (Z 0, 6, .inl (fun _ => 0))), (q6, .inl (Z 0, 54, .inl (fun _ => 0))), (q7, .inl (Z 0, 54, .inl (fun _ => 0))), (q8, .inl (Z 0, 54, .inl (fun _ => 0)))] H := hP
  have hD : va_D A [(h0, .inr (0, [.int 0, .int 0, .int 0, .int 0, .int 0, .int 0, .ref q1, .ref q2, .ref q3, .ref q4, .ref q5, .ref q6, .ref q7, .ref q8, .null, .null, .null])), (q1, .inl (Z 0, 24, .inl (fun _ => -1))), (q2, .inl (Z 0, 18, .inl (fun _ => -1))), (q3, .inl (Z 0, 6, .inl (fun _ => 0))), (q4, .inl (Z 0, 6, .inl (fun _ => 0))), (q5, .inl (Z 0, 6, .inl (fun _ => 0))), (q6, .inl (Z 0, 54, .inl (fun _ => 0))), (q7, .inl (Z 0, 54, .inl (fun _ => 0))), (q8, .inl (Z 0, 54, .inl (fun _ => 0)))] := hD
  refine lv_aload_n hx hb dX0_init_70 rfl (lv_at hl 0 rfl) ?_
  refine lv_bipush (v := 12) hx hb dX0_init_71 (by decide) ?_
  refine zc_rn (z_SD (As := [.int 12]) (rest := [.ref h0]) (w0 := []) ⟨hx, hb, hml, hown, hts⟩ (m_X0_emptyRow l D Z 12 12 (by decide) (by decide) (by decide) (by decide) (by decide)) gX0_init_X0_emptyRow rfl rfl rfl hds_X0_emptyRow ⟨Nat.le_of_ble_eq_true rfl, Nat.le_of_ble_eq_true rfl⟩ hK (hP.sub (ws' := []) [] rfl) (hD.sub (ws' := []) [] (by decide) rfl) rfl hl.1 rfl (Nat.le_of_ble_eq_true rfl) dX0_init_73 ⟨Nat.le_of_ble_eq_true rfl, Nat.le_of_ble_eq_true rfl⟩) hP hD hS hA (fun q9 H locs hP hD hS => ?_)
  have hP : va_P D vwCl [(h0, .inr (0, [.int 0, .int 0, .int 0, .int 0, .int 0, .int 0, .ref q1, .ref q2, .ref q3, .ref q4, .ref q5, .ref q6, .ref q7, .ref q8, .null, .null, .null])), (q1, .inl (Z 0, 24, .inl (fun _ => -1))), (q2, .inl (Z 0, 18, .inl (fun _ => -1))), (q3, .inl (Z 0, 6, .inl (fun _ => 0))), (q4, .inl (Z 0, 6, .inl (fun _ => 0))), (q5, .inl (Z 0, 6, .inl (fun _ => 0))), (q6, .inl (Z 0, 54, .inl (fun _ => 0))), (q7, .inl (Z 0, 54, .inl (fun _ => 0))), (q8, .inl (Z 0, 54, .inl (fun _ => 0))), (q9, .inl (Z 0, 12, .inl (fun _ => -1)))] H := hP
  have hD : va_D A [(h0, .inr (0, [.int 0, .int 0, .int 0, .int 0, .int 0, .int 0, .ref q1, .ref q2, .ref q3, .ref q4, .ref q5, .ref q6, .ref q7, .ref q8, .null, .null, .null])), (q1, .inl (Z 0, 24, .inl (fun _ => -1))), (q2, .inl (Z 0, 18, .inl (fun _ => -1))), (q3, .inl (Z 0, 6, .inl (fun _ => 0))), (q4, .inl (Z 0, 6, .inl (fun _ => 0))), (q5, .inl (Z 0, 6, .inl (fun _ => 0))), (q6, .inl (Z 0, 54, .inl (fun _ => 0))), (q7, .inl (Z 0, 54, .inl (fun _ => 0))), (q8, .inl (Z 0, 54, .inl (fun _ => 0))), (q9, .inl (Z 0, 12, .inl (fun _ => -1)))] := hD
  refine va_putF (D := D) (ci := 0) (v := .ref q9) (ty := .array .int) (C := RX0) (T := TX0) (N := 17) hx hb hts hin tyX0 tyX0_ok nmX0 hown hK hP hD hS 0 rfl rfl 14 (by decide) (hts (.fieldLink RX0 40 "PodGuideway$Ring" "podGoal" "[I") (List.mem_of_getElem? (i := 13) rfl)) (fun _ h9 => h9) rfl hinn rfl (by decide +kernel) rfl rfl (Nat.le_of_ble_eq_true rfl) dX0_init_76 (fun H locs hP hD hS => ?_)
  have hP : va_P D vwCl [(h0, .inr (0, [.int 0, .int 0, .int 0, .int 0, .int 0, .int 0, .ref q1, .ref q2, .ref q3, .ref q4, .ref q5, .ref q6, .ref q7, .ref q8, .ref q9, .null, .null])), (q1, .inl (Z 0, 24, .inl (fun _ => -1))), (q2, .inl (Z 0, 18, .inl (fun _ => -1))), (q3, .inl (Z 0, 6, .inl (fun _ => 0))), (q4, .inl (Z 0, 6, .inl (fun _ => 0))), (q5, .inl (Z 0, 6, .inl (fun _ => 0))), (q6, .inl (Z 0, 54, .inl (fun _ => 0))), (q7, .inl (Z 0, 54, .inl (fun _ => 0))), (q8, .inl (Z 0, 54, .inl (fun _ => 0))), (q9, .inl (Z 0, 12, .inl (fun _ => -1)))] H := hP
  have hD : va_D A [(h0, .inr (0, [.int 0, .int 0, .int 0, .int 0, .int 0, .int 0, .ref q1, .ref q2, .ref q3, .ref q4, .ref q5, .ref q6, .ref q7, .ref q8, .ref q9, .null, .null])), (q1, .inl (Z 0, 24, .inl (fun _ => -1))), (q2, .inl (Z 0, 18, .inl (fun _ => -1))), (q3, .inl (Z 0, 6, .inl (fun _ => 0))), (q4, .inl (Z 0, 6, .inl (fun _ => 0))), (q5, .inl (Z 0, 6, .inl (fun _ => 0))), (q6, .inl (Z 0, 54, .inl (fun _ => 0))), (q7, .inl (Z 0, 54, .inl (fun _ => 0))), (q8, .inl (Z 0, 54, .inl (fun _ => 0))), (q9, .inl (Z 0, 12, .inl (fun _ => -1)))] := hD
  refine lv_aload_n hx hb dX0_init_79 rfl (lv_at hl 0 rfl) ?_
  refine lv_bipush (v := 12) hx hb dX0_init_80 (by decide) ?_
  refine zc_rn (z_SD (As := [.int 12]) (rest := [.ref h0]) (w0 := []) ⟨hx, hb, hml, hown, hts⟩ (m_X0_emptyRow l D Z 12 12 (by decide) (by decide) (by decide) (by decide) (by decide)) gX0_init_X0_emptyRow rfl rfl rfl hds_X0_emptyRow ⟨Nat.le_of_ble_eq_true rfl, Nat.le_of_ble_eq_true rfl⟩ hK (hP.sub (ws' := []) [] rfl) (hD.sub (ws' := []) [] (by decide) rfl) rfl hl.1 rfl (Nat.le_of_ble_eq_true rfl) dX0_init_82 ⟨Nat.le_of_ble_eq_true rfl, Nat.le_of_ble_eq_true rfl⟩) hP hD hS hA (fun q10 H locs hP hD hS => ?_)
  have hP : va_P D vwCl [(h0, .inr (0, [.int 0, .int 0, .int 0, .int 0, .int 0, .int 0, .ref q1, .ref q2, .ref q3, .ref q4, .ref q5, .ref q6, .ref q7, .ref q8, .ref q9, .null, .null])), (q1, .inl (Z 0, 24, .inl (fun _ => -1))), (q2, .inl (Z 0, 18, .inl (fun _ => -1))), (q3, .inl (Z 0, 6, .inl (fun _ => 0))), (q4, .inl (Z 0, 6, .inl (fun _ => 0))), (q5, .inl (Z 0, 6, .inl (fun _ => 0))), (q6, .inl (Z 0, 54, .inl (fun _ => 0))), (q7, .inl (Z 0, 54, .inl (fun _ => 0))), (q8, .inl (Z 0, 54, .inl (fun _ => 0))), (q9, .inl (Z 0, 12, .inl (fun _ => -1))), (q10, .inl (Z 0, 12, .inl (fun _ => -1)))] H := hP
  have hD : va_D A [(h0, .inr (0, [.int 0, .int 0, .int 0, .int 0, .int 0, .int 0, .ref q1, .ref q2, .ref q3, .ref q4, .ref q5, .ref q6, .ref q7, .ref q8, .ref q9, .null, .null])), (q1, .inl (Z 0, 24, .inl (fun _ => -1))), (q2, .inl (Z 0, 18, .inl (fun _ => -1))), (q3, .inl (Z 0, 6, .inl (fun _ => 0))), (q4, .inl (Z 0, 6, .inl (fun _ => 0))), (q5, .inl (Z 0, 6, .inl (fun _ => 0))), (q6, .inl (Z 0, 54, .inl (fun _ => 0))), (q7, .inl (Z 0, 54, .inl (fun _ => 0))), (q8, .inl (Z 0, 54, .inl (fun _ => 0))), (q9, .inl (Z 0, 12, .inl (fun _ => -1))), (q10, .inl (Z 0, 12, .inl (fun _ => -1)))] := hD
  refine va_putF (D := D) (ci := 0) (v := .ref q10) (ty := .array .int) (C := RX0) (T := TX0) (N := 17) hx hb hts hin tyX0 tyX0_ok nmX0 hown hK hP hD hS 0 rfl rfl 15 (by decide) (hts (.fieldLink RX0 43 "PodGuideway$Ring" "podRider" "[I") (List.mem_of_getElem? (i := 14) rfl)) (fun _ h9 => h9) rfl hinn rfl (by decide +kernel) rfl rfl (Nat.le_of_ble_eq_true rfl) dX0_init_85 (fun H locs hP hD hS => ?_)
  have hP : va_P D vwCl [(h0, .inr (0, [.int 0, .int 0, .int 0, .int 0, .int 0, .int 0, .ref q1, .ref q2, .ref q3, .ref q4, .ref q5, .ref q6, .ref q7, .ref q8, .ref q9, .ref q10, .null])), (q1, .inl (Z 0, 24, .inl (fun _ => -1))), (q2, .inl (Z 0, 18, .inl (fun _ => -1))), (q3, .inl (Z 0, 6, .inl (fun _ => 0))), (q4, .inl (Z 0, 6, .inl (fun _ => 0))), (q5, .inl (Z 0, 6, .inl (fun _ => 0))), (q6, .inl (Z 0, 54, .inl (fun _ => 0))), (q7, .inl (Z 0, 54, .inl (fun _ => 0))), (q8, .inl (Z 0, 54, .inl (fun _ => 0))), (q9, .inl (Z 0, 12, .inl (fun _ => -1))), (q10, .inl (Z 0, 12, .inl (fun _ => -1)))] H := hP
  have hD : va_D A [(h0, .inr (0, [.int 0, .int 0, .int 0, .int 0, .int 0, .int 0, .ref q1, .ref q2, .ref q3, .ref q4, .ref q5, .ref q6, .ref q7, .ref q8, .ref q9, .ref q10, .null])), (q1, .inl (Z 0, 24, .inl (fun _ => -1))), (q2, .inl (Z 0, 18, .inl (fun _ => -1))), (q3, .inl (Z 0, 6, .inl (fun _ => 0))), (q4, .inl (Z 0, 6, .inl (fun _ => 0))), (q5, .inl (Z 0, 6, .inl (fun _ => 0))), (q6, .inl (Z 0, 54, .inl (fun _ => 0))), (q7, .inl (Z 0, 54, .inl (fun _ => 0))), (q8, .inl (Z 0, 54, .inl (fun _ => 0))), (q9, .inl (Z 0, 12, .inl (fun _ => -1))), (q10, .inl (Z 0, 12, .inl (fun _ => -1)))] := hD
  refine lv_aload_n hx hb dX0_init_88 rfl (lv_at hl 0 rfl) ?_
  refine lv_bipush (v := 12) hx hb dX0_init_89 (by decide) ?_
  refine z_newa (N1 := 12) hx hb (hts (.arrayClass .int) (List.mem_of_getElem? (i := 6) rfl)) hK hP hD hS hA (by decide) (by decide) (by decide) (Nat.le_of_ble_eq_true rfl) (Nat.le_of_ble_eq_true rfl) dX0_init_91 (fun q11 H hP hD hS => ?_)
  have hP : va_P D vwCl [(h0, .inr (0, [.int 0, .int 0, .int 0, .int 0, .int 0, .int 0, .ref q1, .ref q2, .ref q3, .ref q4, .ref q5, .ref q6, .ref q7, .ref q8, .ref q9, .ref q10, .null])), (q1, .inl (Z 0, 24, .inl (fun _ => -1))), (q2, .inl (Z 0, 18, .inl (fun _ => -1))), (q3, .inl (Z 0, 6, .inl (fun _ => 0))), (q4, .inl (Z 0, 6, .inl (fun _ => 0))), (q5, .inl (Z 0, 6, .inl (fun _ => 0))), (q6, .inl (Z 0, 54, .inl (fun _ => 0))), (q7, .inl (Z 0, 54, .inl (fun _ => 0))), (q8, .inl (Z 0, 54, .inl (fun _ => 0))), (q9, .inl (Z 0, 12, .inl (fun _ => -1))), (q10, .inl (Z 0, 12, .inl (fun _ => -1))), (q11, .inl (Z 0, 12, .inl (fun _ => 0)))] H := hP
  have hD : va_D A [(h0, .inr (0, [.int 0, .int 0, .int 0, .int 0, .int 0, .int 0, .ref q1, .ref q2, .ref q3, .ref q4, .ref q5, .ref q6, .ref q7, .ref q8, .ref q9, .ref q10, .null])), (q1, .inl (Z 0, 24, .inl (fun _ => -1))), (q2, .inl (Z 0, 18, .inl (fun _ => -1))), (q3, .inl (Z 0, 6, .inl (fun _ => 0))), (q4, .inl (Z 0, 6, .inl (fun _ => 0))), (q5, .inl (Z 0, 6, .inl (fun _ => 0))), (q6, .inl (Z 0, 54, .inl (fun _ => 0))), (q7, .inl (Z 0, 54, .inl (fun _ => 0))), (q8, .inl (Z 0, 54, .inl (fun _ => 0))), (q9, .inl (Z 0, 12, .inl (fun _ => -1))), (q10, .inl (Z 0, 12, .inl (fun _ => -1))), (q11, .inl (Z 0, 12, .inl (fun _ => 0)))] := hD
  refine va_putF (D := D) (ci := 0) (v := .ref q11) (ty := .array .int) (C := RX0) (T := TX0) (N := 17) hx hb hts hin tyX0 tyX0_ok nmX0 hown hK hP hD hS 0 rfl rfl 16 (by decide) (hts (.fieldLink RX0 46 "PodGuideway$Ring" "podBarred" "[I") (List.mem_of_getElem? (i := 15) rfl)) (fun _ h9 => h9) rfl hinn rfl (by decide +kernel) rfl rfl (Nat.le_of_ble_eq_true rfl) dX0_init_93 (fun H locs hP hD hS => ?_)
  have hP : va_P D vwCl [(h0, .inr (0, [.int 0, .int 0, .int 0, .int 0, .int 0, .int 0, .ref q1, .ref q2, .ref q3, .ref q4, .ref q5, .ref q6, .ref q7, .ref q8, .ref q9, .ref q10, .ref q11])), (q1, .inl (Z 0, 24, .inl (fun _ => -1))), (q2, .inl (Z 0, 18, .inl (fun _ => -1))), (q3, .inl (Z 0, 6, .inl (fun _ => 0))), (q4, .inl (Z 0, 6, .inl (fun _ => 0))), (q5, .inl (Z 0, 6, .inl (fun _ => 0))), (q6, .inl (Z 0, 54, .inl (fun _ => 0))), (q7, .inl (Z 0, 54, .inl (fun _ => 0))), (q8, .inl (Z 0, 54, .inl (fun _ => 0))), (q9, .inl (Z 0, 12, .inl (fun _ => -1))), (q10, .inl (Z 0, 12, .inl (fun _ => -1))), (q11, .inl (Z 0, 12, .inl (fun _ => 0)))] H := hP
  have hD : va_D A [(h0, .inr (0, [.int 0, .int 0, .int 0, .int 0, .int 0, .int 0, .ref q1, .ref q2, .ref q3, .ref q4, .ref q5, .ref q6, .ref q7, .ref q8, .ref q9, .ref q10, .ref q11])), (q1, .inl (Z 0, 24, .inl (fun _ => -1))), (q2, .inl (Z 0, 18, .inl (fun _ => -1))), (q3, .inl (Z 0, 6, .inl (fun _ => 0))), (q4, .inl (Z 0, 6, .inl (fun _ => 0))), (q5, .inl (Z 0, 6, .inl (fun _ => 0))), (q6, .inl (Z 0, 54, .inl (fun _ => 0))), (q7, .inl (Z 0, 54, .inl (fun _ => 0))), (q8, .inl (Z 0, 54, .inl (fun _ => 0))), (q9, .inl (Z 0, 12, .inl (fun _ => -1))), (q10, .inl (Z 0, 12, .inl (fun _ => -1))), (q11, .inl (Z 0, 12, .inl (fun _ => 0)))] := hD
  obtain ⟨a, ha⟩ : ∃ a : Nat → Nat, a = fun k => match k with | 0 => h0 | 1 => q1 | 2 => q2 | 3 => q3 | 4 => q4 | 5 => q5 | 6 => q6 | 7 => q7 | 8 => q8 | 9 => q9 | 10 => q10 | _ => q11 := ⟨_, rfl⟩
  have hP : va_P D vwCl (rwl Z a rI0) H := by rw [ha]; exact hP
  have hD : va_D A (rwl Z a rI0) := by rw [ha]; exact hD
  refine W.widen (k := 11) (n := 258) (Nat.le_of_ble_eq_true rfl) (Nat.le_of_ble_eq_true rfl) ?_
  exact W.vret hx hb hr (fun t ht hW => ⟨⟨a, rfl, congrFun ha 0, by rw [ht]; exact hP, hD⟩, hS.F ht⟩) hS.2.2 dX0_init_96 hlk
abbrev rm_X1_init : Room := { frames := 5, cells := 24, slots := 550, locals := 180 }
theorem hdi_X1_init : yX1_init.cls ≠ "java/lang/invoke/MethodHandle" ∧ yX1_init.cls ≠ "java/lang/invoke/VarHandle" ∧ (parseMethodDescriptor yX1_init.desc).map (fun d => d.parameters.length) = some 0 := by decide +kernel
set_option maxHeartbeats 4000000 in
set_option maxRecDepth 100000 in
theorem m_X1_init (l : Launch) (D : va_G) (Z : Nat → ClassId) (o : Nat) : ∀ sz : Nat, Met l yX1_init wsX1_init rm_X1_init (va_Pc [.ref o] (gPre D Z xE [(o, .inr (1, [.null, .null]))] sz)) (va_Qv (fun (_ : (Nat → Nat) × (Nat → Nat)) => True) (fun u t => va_P D vwCl (owl Z o u.1 u.2 rI0 rI0) t.heap ∧ va_D (va_A [(o, .inr (1, [.null, .null]))] sz) (owl Z o u.1 u.2 rI0 rI0)) (va_A [(o, .inr (1, [.null, .null]))] sz)) 24 550 (va_A [(o, .inr (1, [.null, .null]))] sz) := fun sz => by
  refine z_open (cc := cX1_init) (nL := 1) (ret := none) (by decide +kernel) rfl (Nat.le_of_ble_eq_true rfl) ?_
  intro p e s m below meth c hC hB ls hl
  obtain ⟨⟨hsz, hP, hK, hD0⟩, hE⟩ := hB
  subst hsz
  obtain ⟨hx, hb, hr, hml, hown, hts, hlk, hinn⟩ := hC
  have hown : s.vm.findClass RX1 = some m.cls := hown
  have hinn : meth.name = "<init>" := hinn
  have hNm := hE.2.2.2.1
  have hD := hD0.self (sz := s.heap.size)
  generalize hAe : va_A [(o, .inr (1, [.null, .null]))] s.heap.size = A at hD ⊢
  have hA : ∀ q : Nat, s.heap.size ≤ q → A q := fun q h => by rw [← hAe]; exact Or.inr h
  have hS : va_S A s.heap s.heap [] := va_S.rf
  have hin1 : ∀ w ∈ wsX10, w ∈ wsX1_init := fun w h => List.mem_cons_of_mem _ (List.mem_append_right _ h)
  have hin0 : ∀ w ∈ wsX00, w ∈ wsX1_init := fun w h => List.mem_cons_of_mem _ (List.mem_append_left _ (List.mem_append_right _ h))
  have hl : lv_has ls 1 [(0, .ref o)] := hl
  refine lv_aload_n hx hb dX1_init_0 rfl (lv_at hl 0 rfl) ?_
  refine W.objInit hx hb hown (hts (.methodLink RX1 1 objectInit) (List.mem_of_getElem? (i := 1) rfl)) (hts (.instanceMethod objectInit) (List.mem_of_getElem? (i := 2) rfl)) (hts _ (List.mem_of_getElem? (i := 3) rfl)) rfl (by rw [hml]; exact hl.1) rfl dX1_init_1 (Nat.le_of_ble_eq_true rfl) (Nat.le_of_ble_eq_true rfl) ?_
  refine W.eq (g2 := F0 m 4 ls []) rfl ?_
  refine lv_aload_n hx hb dX1_init_4 rfl (lv_at hl 0 rfl) ?_
  refine va_new (ci := 0) (fs := [.int 0, .int 0, .int 0, .int 0, .int 0, .int 0, .null, .null, .null, .null, .null, .null, .null, .null, .null, .null, .null]) (C := RX0) (T := TX0) (N := 17) hx hb hts hin0 tyX0 tyX0_ok hown (hts (.classLink RX1 7 RX0) (List.mem_of_getElem? (i := 4) rfl)) (hts (.instantiable RX0 17) (List.mem_of_getElem? (i := 5) rfl)) (hts (.initialized RX0) (List.mem_of_getElem? (i := 6) rfl)) hK hP hD hS hA rfl (fun j hj => co_dec (N := 17) (P := fun j => defaultValue (tyX0 j) = vp_V [.int 0, .int 0, .int 0, .int 0, .int 0, .int 0, .null, .null, .null, .null, .null, .null, .null, .null, .null, .null, .null] j) (by decide) hj) (Nat.le_of_ble_eq_true rfl) (Nat.le_of_ble_eq_true rfl) dX1_init_5 (fun ada H hP hD hS => ?_)
  have hP : va_P D vwCl ([(o, .inr (1, [.null, .null]))] ++ [(ada, .inr (0, [.int 0, .int 0, .int 0, .int 0, .int 0, .int 0, .null, .null, .null, .null, .null, .null, .null, .null, .null, .null, .null]))]) H := hP
  have hD : va_D A ([(o, .inr (1, [.null, .null]))] ++ [(ada, .inr (0, [.int 0, .int 0, .int 0, .int 0, .int 0, .int 0, .null, .null, .null, .null, .null, .null, .null, .null, .null, .null, .null]))]) := hD
  refine lv_dup hx hb dX1_init_8 rfl ?_
  have hPc := hP.sub (ws' := [(ada, .inr (0, [.int 0, .int 0, .int 0, .int 0, .int 0, .int 0, .null, .null, .null, .null, .null, .null, .null, .null, .null, .null, .null]))]) [1] rfl
  have hDc := hD.sub (ws' := [(ada, .inr (0, [.int 0, .int 0, .int 0, .int 0, .int 0, .int 0, .null, .null, .null, .null, .null, .null, .null, .null, .null, .null, .null]))]) [1] (by decide) rfl
  have hFc := va_free (wc := [(ada, .inr (0, [.int 0, .int 0, .int 0, .int 0, .int 0, .int 0, .null, .null, .null, .null, .null, .null, .null, .null, .null, .null, .null]))]) hD hS hA [1] rfl
  refine va_callv (va_runIN (As := []) (rest := [.ref ada, .ref o]) ⟨hx, hb, hml, hown, hts⟩ (m_X0_init l D Z ada H.size) ⟨va_cnB 0 hts gX1_init_X0_init_n9 rfl rfl rfl (hNm (9, yX0_init) (List.mem_of_getElem? (i := 0) rfl)) (hts (.initialized RX0) (List.mem_of_getElem? (i := 6) rfl)) hdi_X0_init ⟨Nat.le_of_ble_eq_true rfl, Nat.le_of_ble_eq_true rfl⟩, rfl, (hts (.instanceMethod yX0_init) (List.mem_of_getElem? (i := 9) rfl))⟩ ⟨z_blind, z_pre hK hPc hDc⟩ rfl rfl hl.1 rfl (lv_room (Nat.le_of_ble_eq_true rfl)) dX1_init_9 ⟨Nat.le_of_ble_eq_true rfl, Nat.le_of_ble_eq_true rfl⟩) hS (fun q _ h => hFc q h) hFc (fun a t H1 locs ht _ hw hB _ hk1 hS => ?_)
  obtain ⟨hP1, hD1⟩ := hB
  rw [ht] at hP1
  obtain ⟨hP, hD⟩ := va_join (wr := [(o, .inr (1, [.null, .null]))]) (w1 := rwl Z a rI0) hP hD [1] [0] rfl rfl (by decide) (by decide) hk1 hFc hP1 hD1
  rw [← hw]
  refine va_putF (D := D) (ci := 1) (v := .ref (a 0)) (ty := .object RX0) (C := RX1) (T := TX1) (N := 2) hx hb hts hin1 tyX1 tyX1_ok nmX1 hown hK hP hD hS 0 rfl rfl 0 (by decide) (hts (.fieldLink RX1 10 "PodGuideway" "now" "LPodGuideway$Ring;") (List.mem_of_getElem? (i := 7) rfl)) (fun _ h9 => h9) rfl hinn rfl (by decide +kernel) rfl rfl (Nat.le_of_ble_eq_true rfl) dX1_init_12 (fun H locs hP hD hS => ?_)
  have hP : va_P D vwCl ((o, .inr (1, [.ref (a 0), .null])) :: rwl Z a rI0) H := hP
  have hD : va_D A ((o, .inr (1, [.ref (a 0), .null])) :: rwl Z a rI0) := hD
  refine lv_aload_n hx hb dX1_init_15 rfl (lv_at hl 0 rfl) ?_
  refine va_new (ci := 0) (fs := [.int 0, .int 0, .int 0, .int 0, .int 0, .int 0, .null, .null, .null, .null, .null, .null, .null, .null, .null, .null, .null]) (C := RX0) (T := TX0) (N := 17) hx hb hts hin0 tyX0 tyX0_ok hown (hts (.classLink RX1 7 RX0) (List.mem_of_getElem? (i := 4) rfl)) (hts (.instantiable RX0 17) (List.mem_of_getElem? (i := 5) rfl)) (hts (.initialized RX0) (List.mem_of_getElem? (i := 6) rfl)) hK hP hD hS hA rfl (fun j hj => co_dec (N := 17) (P := fun j => defaultValue (tyX0 j) = vp_V [.int 0, .int 0, .int 0, .int 0, .int 0, .int 0, .null, .null, .null, .null, .null, .null, .null, .null, .null, .null, .null] j) (by decide) hj) (Nat.le_of_ble_eq_true rfl) (Nat.le_of_ble_eq_true rfl) dX1_init_16 (fun adb H hP hD hS => ?_)
  have hP : va_P D vwCl (((o, .inr (1, [.ref (a 0), .null])) :: rwl Z a rI0) ++ [(adb, .inr (0, [.int 0, .int 0, .int 0, .int 0, .int 0, .int 0, .null, .null, .null, .null, .null, .null, .null, .null, .null, .null, .null]))]) H := hP
  have hD : va_D A (((o, .inr (1, [.ref (a 0), .null])) :: rwl Z a rI0) ++ [(adb, .inr (0, [.int 0, .int 0, .int 0, .int 0, .int 0, .int 0, .null, .null, .null, .null, .null, .null, .null, .null, .null, .null, .null]))]) := hD
  refine lv_dup hx hb dX1_init_19 rfl ?_
  have hPc := hP.sub (ws' := [(adb, .inr (0, [.int 0, .int 0, .int 0, .int 0, .int 0, .int 0, .null, .null, .null, .null, .null, .null, .null, .null, .null, .null, .null]))]) [13] rfl
  have hDc := hD.sub (ws' := [(adb, .inr (0, [.int 0, .int 0, .int 0, .int 0, .int 0, .int 0, .null, .null, .null, .null, .null, .null, .null, .null, .null, .null, .null]))]) [13] (by decide) rfl
  have hFc := va_free (wc := [(adb, .inr (0, [.int 0, .int 0, .int 0, .int 0, .int 0, .int 0, .null, .null, .null, .null, .null, .null, .null, .null, .null, .null, .null]))]) hD hS hA [13] rfl
  refine va_callv (va_runIN (As := []) (rest := [.ref adb, .ref o]) ⟨hx, hb, hml, hown, hts⟩ (m_X0_init l D Z adb H.size) ⟨va_cnB 0 hts gX1_init_X0_init_n9 rfl rfl rfl (hNm (9, yX0_init) (List.mem_of_getElem? (i := 0) rfl)) (hts (.initialized RX0) (List.mem_of_getElem? (i := 6) rfl)) hdi_X0_init ⟨Nat.le_of_ble_eq_true rfl, Nat.le_of_ble_eq_true rfl⟩, rfl, (hts (.instanceMethod yX0_init) (List.mem_of_getElem? (i := 9) rfl))⟩ ⟨z_blind, z_pre hK hPc hDc⟩ rfl rfl hl.1 rfl (lv_room (Nat.le_of_ble_eq_true rfl)) dX1_init_20 ⟨Nat.le_of_ble_eq_true rfl, Nat.le_of_ble_eq_true rfl⟩) hS (fun q _ h => hFc q h) hFc (fun b t H1 locs ht _ hw hB _ hk1 hS => ?_)
  obtain ⟨hP1, hD1⟩ := hB
  rw [ht] at hP1
  obtain ⟨hP, hD⟩ := va_join (wr := ((o, .inr (1, [.ref (a 0), .null])) :: rwl Z a rI0)) (w1 := rwl Z b rI0) hP hD [13] [0, 1, 2, 3, 4, 5, 6, 7, 8, 9, 10, 11, 12] rfl rfl (by decide) (by decide) hk1 hFc hP1 hD1
  rw [← hw]
  refine va_putF (D := D) (ci := 1) (v := .ref (b 0)) (ty := .object RX0) (C := RX1) (T := TX1) (N := 2) hx hb hts hin1 tyX1 tyX1_ok nmX1 hown hK hP hD hS 0 rfl rfl 1 (by decide) (hts (.fieldLink RX1 16 "PodGuideway" "ahead" "LPodGuideway$Ring;") (List.mem_of_getElem? (i := 8) rfl)) (fun _ h9 => h9) rfl hinn rfl (by decide +kernel) rfl rfl (Nat.le_of_ble_eq_true rfl) dX1_init_23 (fun H locs hP hD hS => ?_)
  have hP : va_P D vwCl (owl Z o a b rI0 rI0) H := hP
  have hD : va_D A (owl Z o a b rI0 rI0) := hD
  refine W.widen (k := 24) (n := 550) (Nat.le_of_ble_eq_true rfl) (Nat.le_of_ble_eq_true rfl) ?_
  exact W.vret hx hb hr (fun t ht hW => ⟨⟨(a, b), rfl, trivial, by rw [ht]; exact hP, hD⟩, hS.F ht⟩) hS.2.2 dX1_init_26 hlk
def f_X1_mean (S : RS) : Option UInt64 :=
  ob (f_X0_waitingInAll S) fun v3 =>
  if 0 < v3 then
    ob (f_X0_waitedInAll S) fun v5 =>
    some (FP.ddiv (FP.i2d v5) (FP.i2d v3))
  else
    some FP.dconst0
abbrev rm_X1_mean : Room := { frames := 4, cells := 0, slots := 0, locals := 131 }
theorem hdv_X1_mean : yX1_mean.cls = RX1 ∧ yX1_mean.cls ≠ "java/lang/invoke/MethodHandle" ∧ yX1_mean.cls ≠ "java/lang/invoke/VarHandle" ∧ (parseMethodDescriptor yX1_mean.desc).map (fun d => d.parameters.length) = some 0 := by decide +kernel
theorem al0 : alike64 FP.dconst0 FP.dconst0 = true := by decide +kernel
set_option maxHeartbeats 4000000 in
set_option maxRecDepth 100000 in
theorem ok_X1_mean (l : Launch) (D : va_G) (Z : Nat → ClassId) (o : Nat) (a b : Nat → Nat) (S T : RS) (v : UInt64) (hf : f_X1_mean S = some v) : ∀ sz : Nat, MetD lw_cs l yX1_mean wsX1_mean rm_X1_mean (va_Pc [.ref o] (gPre D Z xE (owl Z o a b S T) sz)) (va_Qd (fun (r : UInt64) (_ : Unit) => alike64 r v = true) (fun _ _ => True) (fun q => sz ≤ q)) 0 0 (fun q => sz ≤ q) := fun sz => by
  refine MetD.ofW (cc := cX1_mean) (maxL := 2) (ret := some .double) (by decide +kernel) rfl ?_
  intro p e s m args below meth c s₁ B hml hv hd0
  obtain ⟨rfl, ⟨hsz, hP, hK, hD⟩, hE⟩ := hv
  subst hsz
  have hx := B.exec
  have hb := B.bytes
  have hr := B.returns
  have hts := atoms_spec (ws := wsX1_mean) B.pre
  have hts := dr_words hts s.drawn
  have hown : s.vm.findClass RX1 = some m.cls := findClass_of_methodNamed B.named
  have hlk := B.notSynchronized
  have hNm : ∀ q ∈ xNm, va_Nw (.methodLinkNest RX1 q.1 q.2 RX1) (s.setDrawn s.drawn) := fun q hq => (Cond.before_setDrawn _ s _ _).trans (hE.2.2.2.1 q hq)
  have hin1 : ∀ w ∈ wsX10, w ∈ wsX1_mean := fun w h => List.mem_cons_of_mem _ (List.mem_append_left _ (List.mem_append_right _ h))
  have hS : va_S (fun q : Nat => s.heap.size ≤ q) s.heap s.heap [] := va_S.rf
  have hA : ∀ q : Nat, s.heap.size ≤ q → (fun q : Nat => s.heap.size ≤ q) q := fun _ h => h
  have hK : zK D Z (s.setDrawn s.drawn) := hK
  have hown : (s.setDrawn s.drawn).vm.findClass RX1 = some m.cls := hown
  have hl := lv_entry ([.ref o]) (n := 2) (Nat.le_of_ble_eq_true rfl)
  rw [lg_entry_eq]
  generalize (lg_sl ([.ref o]) ++ List.replicate (2 - (lg_sl ([.ref o])).length) Slot.unset).toArray = ls at hl ⊢
  have hl : lv_has ls 2 [(0, .ref o)] := hl
  unfold f_X1_mean at hf
  refine lv_aload_n hx hb dX1_mean_0 rfl (lv_at hl 0 rfl) ?_
  refine va_get (D := D) (ci := 1) (v := .ref (a 0)) (C := RX1) (T := TX1) (N := 2) hx hb hts hin1 hown hK hP 0 rfl rfl 0 (by decide) (hts (.fieldLink RX1 10 "PodGuideway" "now" "LPodGuideway$Ring;") (List.mem_of_getElem? (i := 1) rfl)) (fun _ h9 => h9) rfl dX1_mean_1 ?_
  obtain ⟨v3, hv3, hf⟩ := ob_some hf
  refine zc_i (z_VN (As := []) (rest := []) (q0 := 0) (ci := 0) ⟨hx, hb, hml, hown, hts⟩ (m_X0_waitingInAll l D Z a S v3 hv3) gX1_mean_X0_waitingInAll_n136 rfl rfl rfl (hNm (136, yX0_waitingInAll) (List.mem_of_getElem? (i := 20) rfl)) (hts (.initialized RX0) (List.mem_of_getElem? (i := 3) rfl)) (hts (.instanceMethod yX0_waitingInAll) (List.mem_of_getElem? (i := 2) rfl)) (hts (.selects RX0 yX0_waitingInAll yX0_waitingInAll) (List.mem_of_getElem? (i := 4) rfl)) hdv_X0_waitingInAll ⟨Nat.le_of_ble_eq_true rfl, Nat.le_of_ble_eq_true rfl⟩ hK (hP.sub (ws' := rwl Z a S) [1, 2, 3, 4, 5, 6, 7, 8, 9, 10, 11, 12] rfl) (hD.sub (ws' := rwl Z a S) [1, 2, 3, 4, 5, 6, 7, 8, 9, 10, 11, 12] (by decide) rfl) rfl rfl rfl rfl hl.1 rfl (Nat.le_of_ble_eq_true rfl) dX1_mean_4 ⟨Nat.le_of_ble_eq_true rfl, Nat.le_of_ble_eq_true rfl⟩) hP hS hA (fun H locs hP hS => ?_)
  refine lv_istore_n (lv' := [(1, .int v3), (0, .ref o)]) hx hb dX1_mean_7 rfl hl (by decide) rfl (fun ls hl => ?_)
  refine lv_iload_n hx hb dX1_mean_8 rfl (lv_at hl 0 rfl) ?_
  refine lv_if_gt (tgt := 14) hx hb dX1_mean_9 (by decide) (fun c1 => ?_) (fun c1 => ?_)
  · have hf := if_t hf c1
    refine lv_aload_n hx hb dX1_mean_14 rfl (lv_at hl 1 rfl) ?_
    refine va_get (D := D) (ci := 1) (v := .ref (a 0)) (C := RX1) (T := TX1) (N := 2) hx hb hts hin1 hown hK hP 0 rfl rfl 0 (by decide) (hts (.fieldLink RX1 10 "PodGuideway" "now" "LPodGuideway$Ring;") (List.mem_of_getElem? (i := 1) rfl)) (fun _ h9 => h9) rfl dX1_mean_15 ?_
    obtain ⟨v5, hv5, hf⟩ := ob_some hf
    refine zc_i (z_VN (As := []) (rest := []) (q0 := 0) (ci := 0) ⟨hx, hb, hml, hown, hts⟩ (m_X0_waitedInAll l D Z a S v5 hv5) gX1_mean_X0_waitedInAll_n139 rfl rfl rfl (hNm (139, yX0_waitedInAll) (List.mem_of_getElem? (i := 21) rfl)) (hts (.initialized RX0) (List.mem_of_getElem? (i := 3) rfl)) (hts (.instanceMethod yX0_waitedInAll) (List.mem_of_getElem? (i := 19) rfl)) (hts (.selects RX0 yX0_waitedInAll yX0_waitedInAll) (List.mem_of_getElem? (i := 20) rfl)) hdv_X0_waitedInAll ⟨Nat.le_of_ble_eq_true rfl, Nat.le_of_ble_eq_true rfl⟩ hK (hP.sub (ws' := rwl Z a S) [1, 2, 3, 4, 5, 6, 7, 8, 9, 10, 11, 12] rfl) (hD.sub (ws' := rwl Z a S) [1, 2, 3, 4, 5, 6, 7, 8, 9, 10, 11, 12] (by decide) rfl) rfl rfl rfl rfl hl.1 rfl (Nat.le_of_ble_eq_true rfl) dX1_mean_18 ⟨Nat.le_of_ble_eq_true rfl, Nat.le_of_ble_eq_true rfl⟩) hP hS hA (fun H locs hP hS => ?_)
    refine lv_i2d hx hb dX1_mean_21 ?_
    refine lv_iload_n hx hb dX1_mean_22 rfl (lv_at hl 0 rfl) ?_
    refine lv_i2d hx hb dX1_mean_23 ?_
    refine lv_ddiv_any hd0 lw_bits hx hb dX1_mean_24 (fun r d1 hal hd1 => ?_)
    have hf := Option.some.inj hf
    subst hf
    refine W.endD hd1 ?_
    exact W.dret hx hb hr (fun t ht hW => ⟨⟨r, (), rfl, hal, trivial⟩, hS.F ht⟩) hS.2.2 dX1_mean_25
  · have hf := if_f hf c1
    refine lv_dconst0 hx hb dX1_mean_12 ?_
    have hf := Option.some.inj hf
    subst hf
    refine W.endD hd0 ?_
    exact W.dret hx hb hr (fun t ht hW => ⟨⟨FP.dconst0, (), rfl, al0, trivial⟩, hS.F ht⟩) hS.2.2 dX1_mean_13
