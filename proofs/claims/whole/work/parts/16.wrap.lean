def xNc : List (String × String) := [("java/lang/IllegalStateException", "java/lang/IndexOutOfBoundsException"), ("java/lang/IllegalArgumentException", "java/lang/IndexOutOfBoundsException"), ("java/lang/IllegalStateException", "java/lang/IllegalArgumentException"), ("java/lang/IndexOutOfBoundsException", "java/lang/IllegalArgumentException")]
def yE : (Nat → Prop) → State → Prop := fun A U => xE A U ∧ ∀ q ∈ xNc, va_Nc q.1 q.2 U
theorem yE_ok : XOK yE := ⟨fun A U g mk a h => ⟨xE_ok.1 _ _ _ _ _ h.1, fun q hq => va_Nc.moved (u := U) (U := U.calling g mk a) (Vm.Alike.refl U.vm) (h.2 q hq)⟩, fun A A1 s U H locs h hS hF hU hW => ⟨xE_ok.2 A A1 s U H locs h.1 hS hF hU hW, fun q hq => va_Nc.moved hW.alike (h.2 q hq)⟩⟩
def olw (Z : Nat → ClassId) (o : Nat) (a b : Nat → Nat) (S T : RS) (q : Nat) (f : Nat → Int64) : va_W := owl Z o a b S T ++ [(q, .inl (Z 1, 1, .inr (.inl f)))]
theorem zI_out {Z : Nat → ClassId} {o : Nat} {a b : Nat → Nat} {S S1 T T1 : RS} {q : Nat} {f : Nat → Int64} : zIn (olw Z o a b S T q f) (owl Z o a b S T) (owl Z o a b S1 T1) (olw Z o a b S1 T1 q f) [(q, .inl (Z 1, 1, .inr (.inl f)))] [0, 1, 2, 3, 4, 5, 6, 7, 8, 9, 10, 11, 12, 13, 14, 15, 16, 17, 18, 19, 20, 21, 22, 23, 24] [25] [1, 2, 3, 4, 5, 6, 7, 8, 9, 10, 11, 12, 13, 14, 15, 16, 17, 18, 19, 20, 21, 22, 23, 24, 25, 0] := ⟨rfl, rfl, by decide, by decide, by decide, rfl, by decide⟩
-- the law's world: the class, the reference, the row for answers
def lwl (Z : Nat → ClassId) (o : Nat) (a b : Nat → Nat) (S T : RS) (g : Nat → Nat) (M : RS) (q : Nat) (f : Nat → Int64) : va_W := owl Z o a b S T ++ (mwl Z g M ++ [(q, .inl (Z 1, 1, .inr (.inl f)))])
theorem zI_lw {Z : Nat → ClassId} {o : Nat} {a b g : Nat → Nat} {S S1 T T1 M : RS} {q : Nat} {f f1 : Nat → Int64} : zIn (lwl Z o a b S T g M q f) (olw Z o a b S T q f) (olw Z o a b S1 T1 q f1) (lwl Z o a b S1 T1 g M q f1) (mwl Z g M) [0, 1, 2, 3, 4, 5, 6, 7, 8, 9, 10, 11, 12, 13, 14, 15, 16, 17, 18, 19, 20, 21, 22, 23, 24, 30] [25, 26, 27, 28, 29] [5, 6, 7, 8, 9, 10, 11, 12, 13, 14, 15, 16, 17, 18, 19, 20, 21, 22, 23, 24, 25, 26, 27, 28, 29, 0, 1, 2, 3, 4, 30] := ⟨rfl, rfl, by decide, by decide, by decide, rfl, by decide⟩
theorem zI_lm {Z : Nat → ClassId} {o : Nat} {a b g : Nat → Nat} {S T M M1 : RS} {q : Nat} {f : Nat → Int64} : zIn (lwl Z o a b S T g M q f) (mwl Z g M) (mwl Z g M1) (lwl Z o a b S T g M1 q f) (owl Z o a b S T ++ [(q, .inl (Z 1, 1, .inr (.inl f)))]) [25, 26, 27, 28, 29] [0, 1, 2, 3, 4, 5, 6, 7, 8, 9, 10, 11, 12, 13, 14, 15, 16, 17, 18, 19, 20, 21, 22, 23, 24, 30] [0, 1, 2, 3, 4, 5, 6, 7, 8, 9, 10, 11, 12, 13, 14, 15, 16, 17, 18, 19, 20, 21, 22, 23, 24, 26, 27, 28, 29, 30, 25] := ⟨rfl, rfl, by decide, by decide, by decide, rfl, by decide⟩
section PGW
variable {l : Launch} {y : MethodName} {ws ws' : List Cond} {rm : Room} {cc : ByteArray} {nL : Nat} {ret : Option FieldType} {av : List Value} {D : va_G} {Z : Nat → ClassId} {X : (Nat → Prop) → State → Prop} {w0 w1 : va_W} {mc ms : Nat} {hh : List (Nat × Nat × Nat × Nat)}
/-- a body with handlers, that catches all -/
theorem GWi.ofH {r : Int32} (hy : plainName y.cls = true) (hw : ws = Cond.codeWith y cc nL ret hh :: ws') (hn : (lg_sl av).length ≤ nL)
    (body : ∀ (p : Program) (e : Env) (s : State) (m : MethodId) (below : List Frame) (meth : Method) (c : Code) (A : Nat → Prop), Cx p s m av.toArray meth c cc y.cls y.name nL ret ws → c.exceptionTable.toList = tableOf hh → X A s → (∀ q : Nat, s.heap.size ≤ q → A q) → va_P D vwCl w0 s.heap → zK D Z s → va_D A w0 → va_S A s.heap s.heap [] → ∀ ls : Array Slot, lv_has ls nL (lv_args 0 av) → W p l e rm s m av.toArray below meth c s.heap [] 0 0 (MQ below (zMi D A w1 r) av.toArray s mc ms A) (F0 m 0 ls [])) : GWi l y ws rm D Z X av w0 w1 r mc ms := fun sz => by
  refine va_MetW (cc := cc) (maxL := nL) (ret := ret) (hh := hh) hy hw ?_
  intro p e s m args below meth c s₁ Bd hml hv
  obtain ⟨rfl, ⟨hsz, hP, hK, hD⟩, hE⟩ := hv
  subst hsz
  have hts := atoms_spec (ws := ws) Bd.pre
  have hl := lv_entry av (n := nL) hn
  rw [lg_entry_eq]
  generalize (lg_sl av ++ List.replicate (nL - (lg_sl av).length) Slot.unset).toArray = ls at hl ⊢
  exact body p e s m below meth c (va_A w0 s.heap.size) ⟨Bd.exec, Bd.bytes, Bd.returns, hml, findClass_of_methodNamed Bd.named, hts, Bd.notSynchronized, (name_of_methodNamed Bd.named Bd.method).1⟩ (vx_table (x := y) Bd (hts _ (by rw [hw]; exact List.mem_cons_self))) hE (fun _ h => Or.inr h) hP hK hD.self va_S.rf ls hl
end PGW
section PGWC
variable {p : Program} {l : Launch} {e : Env} {R : Room} {s : State} {m : MethodId} {args : Array Value} {below : List Frame} {meth : Method} {c : Code} {H : Heap} {locs : List Loc} {cells slots : Nat} {Q : State → Prop} {cc : ByteArray} {pc : Nat} {ls : Array Slot} {D : va_G} {Z : Nat → ClassId} {X : (Nat → Prop) → State → Prop} {w w0 w1 w2 wr : va_W} {A : Nat → Prop} {H0 : Heap} {mc ms nL n index maxL : Nat} {a : Array Value}
variable {y : MethodName} {bytes : ByteArray} {ret : Option FieldType} {wsy ws' Ts : List Cond} {rm : Room} {own C : String} {b : Addr} {As rest st0 : List Value} {hh : List (Nat × Nat × Nat × Nat)}
theorem zx_run {E : String} (hr : vx_Run p l e R s m args below meth c H locs cells slots mc ms (F0 m pc ls st0) rest (zNi a) (zX E H.size) (fun q => H.size ≤ q)) (hP : va_P D vwCl w H) (hS : va_S A H0 H locs) (hA : ∀ q, H0.size ≤ q → A q)
    (kk : ∀ (q : Nat) (ce : Cell) (H1 : Heap) (locs1 : List Loc), va_P D vwCl w H1 → va_S A H0 H1 locs1 → H1[q]? = some ce → ce.vm = .none → s.vm.findClass E = some ce.cls → vx_W p l e R s m args below meth c H1 locs1 (cells + mc) (slots + ms) Q (F0 m pc ls rest) q) : W p l e R s m args below meth c H locs cells slots Q (F0 m pc ls st0) := by
  intro T hT X0
  rcases hr T hT X0 with ⟨v, st₀, t, T', L, h0, X', hL, e1, e2, ⟨⟨r, u, hv, hp, hb⟩, hF⟩, st⟩ | ⟨q, st₀, t, T', L, E2, ce, h0, X', hL, e1, e2, ⟨u, hp, hb, hF⟩, hce, hcv, hcl, st⟩
  · exact hp.elim
  · subst hb
    have hz : H.size ≤ T'.heap.size := by rw [e1, ← h0]; exact hF.1
    have hk : ∀ q : Nat, q < H.size → T'.heap[q]? = H[q]? := fun q h1 => by rw [e1, ← h0]; exact hF.2 q (by rw [h0]; exact h1) (Nat.not_le.mpr h1)
    obtain ⟨t2, a1, b1⟩ := kk q ce T'.heap (locs ++ L) (hP.kept (fun k q hq => hk q.1 (hP k q hq).lt)) ⟨Nat.le_trans hS.1 hz, fun q h1 h2 => by rw [hk q (Nat.lt_of_lt_of_le h1 hS.1)]; exact hS.2.1 q h1 h2, fun z hz9 => (List.mem_append.mp hz9).elim (fun h => hS.2.2 z h) (fun h => hA _ (Nat.le_trans hS.1 (hL z h)))⟩ (by rw [e1]; exact hce) hcv hcl T' rfl X'
    exact ⟨t2, st.trans a1, b1⟩
theorem z_SW {Qd : Nat → Array Value → State → Outcome → State → Prop} {fd : Nat → Addr → Prop} (hX : XOK X) (hE : X A s) (hS : va_S A s.heap H locs) (hA : ∀ q, s.heap.size ≤ q → A q) (S : CallFix p m c cc nL s args Ts own) (hM : ∀ sz : Nat, Met l y wsy rm (va_Pc As (gPre D Z X w0 sz)) (Qd sz) mc ms (fd sz)) (hg : GoodIn Ts (va_wsS own index y wsy)) (hw : wsy = Cond.codeWith y bytes maxL ret hh :: ws') (hrc : rm.cells = mc) (hrs : rm.slots = ms)
    (hd : y.cls ≠ "java/lang/invoke/MethodHandle" ∧ y.cls ≠ "java/lang/invoke/VarHandle" ∧ (parseMethodDescriptor y.desc).map (fun d => d.parameters.length) = some n) (hR : rm.frames + 1 ≤ R.frames ∧ 8 + (maxL + 11) + rm.locals ≤ R.locals)
    (hK : zK D Z s) (hP : va_P D vwCl w0 H) (hD : va_D A w0) (hn : As.length = n) (hsz : ls.size = nL) (hst : st0 = As.reverse ++ rest) (hroom : (rest.map fun v => v.category).sum ≤ 8) (hdg : decode cc pc = .ok (.invokestatic index, 3)) (hf : cells + mc ≤ R.cells ∧ slots + ms ≤ R.slots) :
    va_Run p l e R s m args below meth c H locs cells slots mc ms (F0 m pc ls st0) rest (Qd H.size As.toArray) (fd H.size) :=
  vx_runSW S (hM H.size) (vx_cwSW n S.2.2.2.2 hg hw hrc hrs hd hR) ⟨g_blind hX, g_pre hX hE hS (z_hF hD hS hA) hK hP hD⟩ rfl hn hsz hst (lv_room hroom) hdg hf
end PGWC
-- how the class and the reference go together: what the pure part owes
def AgM (cd : String → Int32) (Rel : RS → RS → Prop) (S : RS) (x : Option (Except String (Int32 × RS × RS))) (y : Option (Int32 × RS)) : Prop :=
  (∃ r S' T' M', x = some (.ok (r, S', T')) ∧ y = some (r, M') ∧ M'.1 0 = 0 ∧ Rel S' M') ∨ (∃ E b M', x = some (.error E) ∧ y = some (b, M') ∧ M'.1 0 = cd E ∧ cd E ≠ 0 ∧ Rel S M')
def AgR (cd : String → Int32) (Rel : RS → RS → Prop) (S : RS) (x : Option (Except String Int32)) (y : Option (Int32 × RS)) : Prop :=
  (∃ r M', x = some (.ok r) ∧ y = some (r, M') ∧ M'.1 0 = 0 ∧ Rel S M') ∨ (∃ E b M', x = some (.error E) ∧ y = some (b, M') ∧ M'.1 0 = cd E ∧ cd E ≠ 0 ∧ Rel S M')
def cdIS (E : String) : Int32 := if E = "java/lang/IndexOutOfBoundsException" then 1 else if E = "java/lang/IllegalStateException" then 2 else 0
def cdIAS (E : String) : Int32 := if E = "java/lang/IndexOutOfBoundsException" then 1 else if E = "java/lang/IllegalArgumentException" then 2 else if E = "java/lang/IllegalStateException" then 3 else 0
def cdI (E : String) : Int32 := if E = "java/lang/IndexOutOfBoundsException" then 1 else 0
def cdA (E : String) : Int32 := if E = "java/lang/IllegalArgumentException" then 1 else 0
def cdIA (E : String) : Int32 := if E = "java/lang/IndexOutOfBoundsException" then 1 else if E = "java/lang/IllegalArgumentException" then 2 else 0
def cdAI (E : String) : Int32 := if E = "java/lang/IllegalArgumentException" then 1 else if E = "java/lang/IndexOutOfBoundsException" then 2 else 0
theorem cdIS_c {E : String} (h : cdIS E ≠ 0) : (E = "java/lang/IndexOutOfBoundsException" ∧ cdIS E = 1) ∨ (E = "java/lang/IllegalStateException" ∧ cdIS E = 2) := by
  unfold cdIS at h ⊢
  by_cases h1 : E = "java/lang/IndexOutOfBoundsException"
  · exact Or.inl ⟨h1, if_pos h1⟩
  · rw [if_neg h1] at h ⊢
    by_cases h2 : E = "java/lang/IllegalStateException"
    · exact Or.inr ⟨h2, if_pos h2⟩
    · rw [if_neg h2] at h; exact absurd rfl h
theorem cdIAS_c {E : String} (h : cdIAS E ≠ 0) : (E = "java/lang/IndexOutOfBoundsException" ∧ cdIAS E = 1) ∨ (E = "java/lang/IllegalArgumentException" ∧ cdIAS E = 2) ∨ (E = "java/lang/IllegalStateException" ∧ cdIAS E = 3) := by
  unfold cdIAS at h ⊢
  by_cases h1 : E = "java/lang/IndexOutOfBoundsException"
  · exact Or.inl ⟨h1, if_pos h1⟩
  · rw [if_neg h1] at h ⊢
    by_cases h2 : E = "java/lang/IllegalArgumentException"
    · exact Or.inr (Or.inl ⟨h2, if_pos h2⟩)
    · rw [if_neg h2] at h ⊢
      by_cases h3 : E = "java/lang/IllegalStateException"
      · exact Or.inr (Or.inr ⟨h3, if_pos h3⟩)
      · rw [if_neg h3] at h; exact absurd rfl h
theorem cdI_c {E : String} (h : cdI E ≠ 0) : (E = "java/lang/IndexOutOfBoundsException" ∧ cdI E = 1) := by
  unfold cdI at h ⊢
  by_cases h1 : E = "java/lang/IndexOutOfBoundsException"
  · exact ⟨h1, if_pos h1⟩
  · rw [if_neg h1] at h; exact absurd rfl h
theorem cdA_c {E : String} (h : cdA E ≠ 0) : (E = "java/lang/IllegalArgumentException" ∧ cdA E = 1) := by
  unfold cdA at h ⊢
  by_cases h1 : E = "java/lang/IllegalArgumentException"
  · exact ⟨h1, if_pos h1⟩
  · rw [if_neg h1] at h; exact absurd rfl h
theorem cdIA_c {E : String} (h : cdIA E ≠ 0) : (E = "java/lang/IndexOutOfBoundsException" ∧ cdIA E = 1) ∨ (E = "java/lang/IllegalArgumentException" ∧ cdIA E = 2) := by
  unfold cdIA at h ⊢
  by_cases h1 : E = "java/lang/IndexOutOfBoundsException"
  · exact Or.inl ⟨h1, if_pos h1⟩
  · rw [if_neg h1] at h ⊢
    by_cases h2 : E = "java/lang/IllegalArgumentException"
    · exact Or.inr ⟨h2, if_pos h2⟩
    · rw [if_neg h2] at h; exact absurd rfl h
theorem cdAI_c {E : String} (h : cdAI E ≠ 0) : (E = "java/lang/IllegalArgumentException" ∧ cdAI E = 1) ∨ (E = "java/lang/IndexOutOfBoundsException" ∧ cdAI E = 2) := by
  unfold cdAI at h ⊢
  by_cases h1 : E = "java/lang/IllegalArgumentException"
  · exact Or.inl ⟨h1, if_pos h1⟩
  · rw [if_neg h1] at h ⊢
    by_cases h2 : E = "java/lang/IndexOutOfBoundsException"
    · exact Or.inr ⟨h2, if_pos h2⟩
    · rw [if_neg h2] at h; exact absurd rfl h
def Sim (Rel : Nat → RS → RS → Prop) : Prop := Rel 0 rI0 mI0 ∧ ∀ j : Nat, j < 600 → ∀ S T M : RS, Rel j S M →
  (∀ x, AgM cdIS (Rel (j + 1)) S (f_X1_build S T x) (f_X2_build M x)) ∧ (∀ x, AgM cdIS (Rel (j + 1)) S (f_X1_pod S T x) (f_X2_pod M x)) ∧ (∀ x y, AgM cdIAS (Rel (j + 1)) S (f_X1_ride S T x y) (f_X2_ride M x y)) ∧ (∀ x y, AgM cdIS (Rel (j + 1)) S (f_X1_send S T x y) (f_X2_send M x y)) ∧
  (∀ x y, AgR cdI (Rel (j + 1)) S (f_X1_told S T x y) (f_X2_told M x y)) ∧ (∀ x y, AgR cdI (Rel (j + 1)) S (f_X1_station S T x y) (f_X2_station M x y)) ∧ (∀ x y, AgR cdI (Rel (j + 1)) S (f_X1_waits S T x y) (f_X2_waits M x y)) ∧ (∀ x, AgR cdI (Rel (j + 1)) S (f_X1_slot S T x) (f_X2_slot M x)) ∧ (∀ x, AgR cdI (Rel (j + 1)) S (f_X1_count S T x) (f_X2_count M x)) ∧
  (∀ x, AgM cdA (Rel (j + 1)) S (f_X1_pass S T x) (f_X2_pass M x)) ∧ (∀ x, AgM cdI (Rel (j + 1)) S (f_X1_when S T x) (f_X2_when M x)) ∧ (∀ x y, AgM cdIA (Rel (j + 1)) S (f_X1_takes S T x y) (f_X2_takes M x y)) ∧ (∀ x, AgR cdI (Rel (j + 1)) S (f_X1_answers S T x) (f_X2_answers M x)) ∧ (∀ x y, AgM cdAI (Rel (j + 1)) S (f_X1_foresee S T x y) (f_X2_foresee M x y)) ∧
  (∃ v M', f_X1_mean S = some v ∧ f_X2_mean M = some (v, M') ∧ Rel (j + 1) S M') ∧ (∃ v M', f_X1_digest S T = some v ∧ f_X2_digest M = some (v, M') ∧ Rel (j + 1) S M')

abbrev rm_L_build : Room := { frames := 8, cells := 1, slots := 6, locals := 132 }
theorem hds_L_build : yL_build.cls ≠ "java/lang/invoke/MethodHandle" ∧ yL_build.cls ≠ "java/lang/invoke/VarHandle" ∧ (parseMethodDescriptor yL_build.desc).map (fun d => d.parameters.length) = some 3 := by decide +kernel
set_option maxHeartbeats 4000000 in
set_option maxRecDepth 100000 in
theorem ok_L_build (l : Launch) (D : va_G) (Z : Nat → ClassId) (o : Nat) (a b : Nat → Nat) (S T : RS) (q : Nat) (f : Nat → Int64) (p1 : Int32) (r : Int32) (S' T' : RS) (hf : f_X1_build S T p1 = some (.ok (r, S', T'))) : GWi l yL_build wsL_build rm_L_build D Z yE [.ref o, .int p1, .ref q] (olw Z o a b S T q f) (olw Z o a b S' T' q (vp_updL f 0 r.toInt64)) 0 1 6 := by
  refine GWi.ofH (cc := cL_build) (nL := 4) (ret := (some .int)) (hh := [(0, 9, 12, 13), (0, 9, 15, 15)]) (by decide +kernel) rfl (Nat.le_of_ble_eq_true rfl) ?_
  intro p e s m below meth c A hC hT hE hA hP hK hD hS ls hl
  obtain ⟨hx, hb, hr, hml, hown, hts, hlk, -⟩ := hC
  have hown : s.vm.findClass RL = some m.cls := hown
  have hl : lv_has ls 4 [(0, .ref o), (1, .int p1), (2, .ref q)] := hl
  refine lv_aload_n hx hb dL_build_0 rfl (lv_at hl 2 rfl) ?_
  refine lv_iconst (v := 0) hx hb dL_build_1 (by decide) ?_
  refine lv_aload_n hx hb dL_build_2 rfl (lv_at hl 0 rfl) ?_
  refine lv_iload_n hx hb dL_build_3 rfl (lv_at hl 1 rfl) ?_
  refine zc_mi zI_out (z_VG (As := [.int p1]) (rest := [.int 0, .ref q]) (q0 := 0) (ci := 1) xE_ok hE.1 hS hA ⟨hx, hb, hml, hown, hts⟩ (ok_X1_build l D Z o a b S T p1 r S' T' hf) gL_build_X1_build rfl rfl rfl hdv_X1_build ⟨Nat.le_of_ble_eq_true rfl, Nat.le_of_ble_eq_true rfl⟩ hK (hP.sub (ws' := owl Z o a b S T) [0, 1, 2, 3, 4, 5, 6, 7, 8, 9, 10, 11, 12, 13, 14, 15, 16, 17, 18, 19, 20, 21, 22, 23, 24] rfl) (hD.sub (ws' := owl Z o a b S T) [0, 1, 2, 3, 4, 5, 6, 7, 8, 9, 10, 11, 12, 13, 14, 15, 16, 17, 18, 19, 20, 21, 22, 23, 24] (by decide) rfl) rfl rfl rfl rfl hl.1 rfl (Nat.le_of_ble_eq_true rfl) dL_build_4 ⟨Nat.le_of_ble_eq_true rfl, Nat.le_of_ble_eq_true rfl⟩) hP hD hS hA (fun H locs hP hD hS => ?_)
  refine lv_i2l hx hb dL_build_7 rfl ?_
  refine va_last hx hb hK hP hD hS 25 1 rfl rfl (vp_in_lit (by decide)) dL_build_8 (fun H locs hP hD hS => ?_)
  have hP : va_P D vwCl (olw Z o a b S' T' q (vp_updL f 0 r.toInt64)) H := hP
  have hD : va_D A (olw Z o a b S' T' q (vp_updL f 0 r.toInt64)) := hD
  refine lv_goto (tgt := 18) hx hb dL_build_9 (by decide) ?_
  refine lv_iconst (v := 0) hx hb dL_build_18 (by decide) ?_
  exact zw_i hx hb hr hlk hP hD hS rfl rfl (Nat.le_of_ble_eq_true rfl) (Nat.le_of_ble_eq_true rfl) dL_build_19
set_option maxHeartbeats 4000000 in
set_option maxRecDepth 100000 in
theorem er_L_build (l : Launch) (htr : l.stackTraces = false) (D : va_G) (Z : Nat → ClassId) (o : Nat) (a b : Nat → Nat) (S T : RS) (q : Nat) (f : Nat → Int64) (p1 : Int32) (E : String) (k : Int32) (hf : f_X1_build S T p1 = some (.error E)) (hk : (E = "java/lang/IndexOutOfBoundsException" ∧ k = 1) ∨ (E = "java/lang/IllegalStateException" ∧ k = 2)) : GWi l yL_build wsL_build rm_L_build D Z yE [.ref o, .int p1, .ref q] (olw Z o a b S T q f) (olw Z o a b S T q f) k 1 6 := by
  refine GWi.ofH (cc := cL_build) (nL := 4) (ret := (some .int)) (hh := [(0, 9, 12, 13), (0, 9, 15, 15)]) (by decide +kernel) rfl (Nat.le_of_ble_eq_true rfl) ?_
  intro p e s m below meth c A hC hT hE hA hP hK hD hS ls hl
  obtain ⟨hx, hb, hr, hml, hown, hts, hlk, -⟩ := hC
  have hown : s.vm.findClass RL = some m.cls := hown
  have hl : lv_has ls 4 [(0, .ref o), (1, .int p1), (2, .ref q)] := hl
  refine lv_aload_n hx hb dL_build_0 rfl (lv_at hl 2 rfl) ?_
  refine lv_iconst (v := 0) hx hb dL_build_1 (by decide) ?_
  refine lv_aload_n hx hb dL_build_2 rfl (lv_at hl 0 rfl) ?_
  refine lv_iload_n hx hb dL_build_3 rfl (lv_at hl 1 rfl) ?_
  refine zx_run (z_VX (As := [.int p1]) (rest := [.int 0, .ref q]) (q0 := 0) (ci := 1) xE_ok hE.1 hS hA ⟨hx, hb, hml, hown, hts⟩ (er_X1_build l htr D Z o a b S T p1 E hf) gL_build_X1_build rfl rfl rfl hdv_X1_build ⟨Nat.le_of_ble_eq_true rfl, Nat.le_of_ble_eq_true rfl⟩ hK (hP.sub (ws' := owl Z o a b S T) [0, 1, 2, 3, 4, 5, 6, 7, 8, 9, 10, 11, 12, 13, 14, 15, 16, 17, 18, 19, 20, 21, 22, 23, 24] rfl) (hD.sub (ws' := owl Z o a b S T) [0, 1, 2, 3, 4, 5, 6, 7, 8, 9, 10, 11, 12, 13, 14, 15, 16, 17, 18, 19, 20, 21, 22, 23, 24] (by decide) rfl) rfl rfl rfl rfl hl.1 rfl (Nat.le_of_ble_eq_true rfl) dL_build_4 ⟨Nat.le_of_ble_eq_true rfl, Nat.le_of_ble_eq_true rfl⟩) hP hS hA (fun q9 ce H locs hP hS hce hcv hcl => ?_)
  rcases hk with ⟨rfl, rfl⟩ | hk
  · skip
    refine vx_catch (own := RL) (name := "java/lang/IndexOutOfBoundsException") (E := "java/lang/IndexOutOfBoundsException") hown [] (⟨0, 9, 12, 13⟩ : ExceptionTableEntry) [(⟨0, 9, 15, 15⟩ : ExceptionTableEntry)] (hT.trans rfl) (fun z hz => nomatch hz) (by decide) (by decide) (hts (.classLink RL 13 "java/lang/IndexOutOfBoundsException") (List.mem_of_getElem? (i := 1) rfl)) (va_Nw.use rfl (hE.1.2.2.2.2.2.1 _ (List.mem_of_getElem? (i := 1) rfl))) hce hcv hcl ?_
    refine lv_astore_n (lv' := [(3, .ref q9), (0, .ref o), (1, .int p1), (2, .ref q)]) hx hb dL_build_12 rfl hl (by decide) rfl (fun ls hl => ?_)
    refine lv_iconst (v := 1) hx hb dL_build_13 (by decide) ?_
    exact zw_i hx hb hr hlk hP hD hS rfl rfl (Nat.le_of_ble_eq_true rfl) (Nat.le_of_ble_eq_true rfl) dL_build_14
  · obtain ⟨rfl, rfl⟩ := hk
    refine vx_catch (own := RL) (name := "java/lang/IllegalStateException") (E := "java/lang/IllegalStateException") hown [(⟨0, 9, 12, 13⟩ : ExceptionTableEntry)] (⟨0, 9, 15, 15⟩ : ExceptionTableEntry) [] (hT.trans rfl) (fun z hz => (List.mem_cons.mp hz).elim (fun h => by subst h; exact Or.inr ⟨by decide, "java/lang/IndexOutOfBoundsException", hts (.classLink RL 13 "java/lang/IndexOutOfBoundsException") (List.mem_of_getElem? (i := 1) rfl), hE.2 _ (List.mem_of_getElem? (i := 0) rfl)⟩) (fun hz => nomatch hz)) (by decide) (by decide) (hts (.classLink RL 15 "java/lang/IllegalStateException") (List.mem_of_getElem? (i := 2) rfl)) (va_Nw.use rfl (hE.1.2.2.2.2.2.1 _ (List.mem_of_getElem? (i := 0) rfl))) hce hcv hcl ?_
    refine lv_astore_n (lv' := [(3, .ref q9), (0, .ref o), (1, .int p1), (2, .ref q)]) hx hb dL_build_15 rfl hl (by decide) rfl (fun ls hl => ?_)
    refine lv_iconst (v := 2) hx hb dL_build_16 (by decide) ?_
    exact zw_i hx hb hr hlk hP hD hS rfl rfl (Nat.le_of_ble_eq_true rfl) (Nat.le_of_ble_eq_true rfl) dL_build_17
abbrev rm_L_pod : Room := { frames := 8, cells := 1, slots := 6, locals := 132 }
theorem hds_L_pod : yL_pod.cls ≠ "java/lang/invoke/MethodHandle" ∧ yL_pod.cls ≠ "java/lang/invoke/VarHandle" ∧ (parseMethodDescriptor yL_pod.desc).map (fun d => d.parameters.length) = some 3 := by decide +kernel
set_option maxHeartbeats 4000000 in
set_option maxRecDepth 100000 in
theorem ok_L_pod (l : Launch) (D : va_G) (Z : Nat → ClassId) (o : Nat) (a b : Nat → Nat) (S T : RS) (q : Nat) (f : Nat → Int64) (p1 : Int32) (r : Int32) (S' T' : RS) (hf : f_X1_pod S T p1 = some (.ok (r, S', T'))) : GWi l yL_pod wsL_pod rm_L_pod D Z yE [.ref o, .int p1, .ref q] (olw Z o a b S T q f) (olw Z o a b S' T' q (vp_updL f 0 r.toInt64)) 0 1 6 := by
  refine GWi.ofH (cc := cL_pod) (nL := 4) (ret := (some .int)) (hh := [(0, 9, 12, 13), (0, 9, 15, 15)]) (by decide +kernel) rfl (Nat.le_of_ble_eq_true rfl) ?_
  intro p e s m below meth c A hC hT hE hA hP hK hD hS ls hl
  obtain ⟨hx, hb, hr, hml, hown, hts, hlk, -⟩ := hC
  have hown : s.vm.findClass RL = some m.cls := hown
  have hl : lv_has ls 4 [(0, .ref o), (1, .int p1), (2, .ref q)] := hl
  refine lv_aload_n hx hb dL_pod_0 rfl (lv_at hl 2 rfl) ?_
  refine lv_iconst (v := 0) hx hb dL_pod_1 (by decide) ?_
  refine lv_aload_n hx hb dL_pod_2 rfl (lv_at hl 0 rfl) ?_
  refine lv_iload_n hx hb dL_pod_3 rfl (lv_at hl 1 rfl) ?_
  refine zc_mi zI_out (z_VG (As := [.int p1]) (rest := [.int 0, .ref q]) (q0 := 0) (ci := 1) xE_ok hE.1 hS hA ⟨hx, hb, hml, hown, hts⟩ (ok_X1_pod l D Z o a b S T p1 r S' T' hf) gL_pod_X1_pod rfl rfl rfl hdv_X1_pod ⟨Nat.le_of_ble_eq_true rfl, Nat.le_of_ble_eq_true rfl⟩ hK (hP.sub (ws' := owl Z o a b S T) [0, 1, 2, 3, 4, 5, 6, 7, 8, 9, 10, 11, 12, 13, 14, 15, 16, 17, 18, 19, 20, 21, 22, 23, 24] rfl) (hD.sub (ws' := owl Z o a b S T) [0, 1, 2, 3, 4, 5, 6, 7, 8, 9, 10, 11, 12, 13, 14, 15, 16, 17, 18, 19, 20, 21, 22, 23, 24] (by decide) rfl) rfl rfl rfl rfl hl.1 rfl (Nat.le_of_ble_eq_true rfl) dL_pod_4 ⟨Nat.le_of_ble_eq_true rfl, Nat.le_of_ble_eq_true rfl⟩) hP hD hS hA (fun H locs hP hD hS => ?_)
  refine lv_i2l hx hb dL_pod_7 rfl ?_
  refine va_last hx hb hK hP hD hS 25 1 rfl rfl (vp_in_lit (by decide)) dL_pod_8 (fun H locs hP hD hS => ?_)
  have hP : va_P D vwCl (olw Z o a b S' T' q (vp_updL f 0 r.toInt64)) H := hP
  have hD : va_D A (olw Z o a b S' T' q (vp_updL f 0 r.toInt64)) := hD
  refine lv_goto (tgt := 18) hx hb dL_pod_9 (by decide) ?_
  refine lv_iconst (v := 0) hx hb dL_pod_18 (by decide) ?_
  exact zw_i hx hb hr hlk hP hD hS rfl rfl (Nat.le_of_ble_eq_true rfl) (Nat.le_of_ble_eq_true rfl) dL_pod_19
set_option maxHeartbeats 4000000 in
set_option maxRecDepth 100000 in
theorem er_L_pod (l : Launch) (htr : l.stackTraces = false) (D : va_G) (Z : Nat → ClassId) (o : Nat) (a b : Nat → Nat) (S T : RS) (q : Nat) (f : Nat → Int64) (p1 : Int32) (E : String) (k : Int32) (hf : f_X1_pod S T p1 = some (.error E)) (hk : (E = "java/lang/IndexOutOfBoundsException" ∧ k = 1) ∨ (E = "java/lang/IllegalStateException" ∧ k = 2)) : GWi l yL_pod wsL_pod rm_L_pod D Z yE [.ref o, .int p1, .ref q] (olw Z o a b S T q f) (olw Z o a b S T q f) k 1 6 := by
  refine GWi.ofH (cc := cL_pod) (nL := 4) (ret := (some .int)) (hh := [(0, 9, 12, 13), (0, 9, 15, 15)]) (by decide +kernel) rfl (Nat.le_of_ble_eq_true rfl) ?_
  intro p e s m below meth c A hC hT hE hA hP hK hD hS ls hl
  obtain ⟨hx, hb, hr, hml, hown, hts, hlk, -⟩ := hC
  have hown : s.vm.findClass RL = some m.cls := hown
  have hl : lv_has ls 4 [(0, .ref o), (1, .int p1), (2, .ref q)] := hl
  refine lv_aload_n hx hb dL_pod_0 rfl (lv_at hl 2 rfl) ?_
  refine lv_iconst (v := 0) hx hb dL_pod_1 (by decide) ?_
  refine lv_aload_n hx hb dL_pod_2 rfl (lv_at hl 0 rfl) ?_
  refine lv_iload_n hx hb dL_pod_3 rfl (lv_at hl 1 rfl) ?_
  refine zx_run (z_VX (As := [.int p1]) (rest := [.int 0, .ref q]) (q0 := 0) (ci := 1) xE_ok hE.1 hS hA ⟨hx, hb, hml, hown, hts⟩ (er_X1_pod l htr D Z o a b S T p1 E hf) gL_pod_X1_pod rfl rfl rfl hdv_X1_pod ⟨Nat.le_of_ble_eq_true rfl, Nat.le_of_ble_eq_true rfl⟩ hK (hP.sub (ws' := owl Z o a b S T) [0, 1, 2, 3, 4, 5, 6, 7, 8, 9, 10, 11, 12, 13, 14, 15, 16, 17, 18, 19, 20, 21, 22, 23, 24] rfl) (hD.sub (ws' := owl Z o a b S T) [0, 1, 2, 3, 4, 5, 6, 7, 8, 9, 10, 11, 12, 13, 14, 15, 16, 17, 18, 19, 20, 21, 22, 23, 24] (by decide) rfl) rfl rfl rfl rfl hl.1 rfl (Nat.le_of_ble_eq_true rfl) dL_pod_4 ⟨Nat.le_of_ble_eq_true rfl, Nat.le_of_ble_eq_true rfl⟩) hP hS hA (fun q9 ce H locs hP hS hce hcv hcl => ?_)
  rcases hk with ⟨rfl, rfl⟩ | hk
  · skip
    refine vx_catch (own := RL) (name := "java/lang/IndexOutOfBoundsException") (E := "java/lang/IndexOutOfBoundsException") hown [] (⟨0, 9, 12, 13⟩ : ExceptionTableEntry) [(⟨0, 9, 15, 15⟩ : ExceptionTableEntry)] (hT.trans rfl) (fun z hz => nomatch hz) (by decide) (by decide) (hts (.classLink RL 13 "java/lang/IndexOutOfBoundsException") (List.mem_of_getElem? (i := 1) rfl)) (va_Nw.use rfl (hE.1.2.2.2.2.2.1 _ (List.mem_of_getElem? (i := 1) rfl))) hce hcv hcl ?_
    refine lv_astore_n (lv' := [(3, .ref q9), (0, .ref o), (1, .int p1), (2, .ref q)]) hx hb dL_pod_12 rfl hl (by decide) rfl (fun ls hl => ?_)
    refine lv_iconst (v := 1) hx hb dL_pod_13 (by decide) ?_
    exact zw_i hx hb hr hlk hP hD hS rfl rfl (Nat.le_of_ble_eq_true rfl) (Nat.le_of_ble_eq_true rfl) dL_pod_14
  · obtain ⟨rfl, rfl⟩ := hk
    refine vx_catch (own := RL) (name := "java/lang/IllegalStateException") (E := "java/lang/IllegalStateException") hown [(⟨0, 9, 12, 13⟩ : ExceptionTableEntry)] (⟨0, 9, 15, 15⟩ : ExceptionTableEntry) [] (hT.trans rfl) (fun z hz => (List.mem_cons.mp hz).elim (fun h => by subst h; exact Or.inr ⟨by decide, "java/lang/IndexOutOfBoundsException", hts (.classLink RL 13 "java/lang/IndexOutOfBoundsException") (List.mem_of_getElem? (i := 1) rfl), hE.2 _ (List.mem_of_getElem? (i := 0) rfl)⟩) (fun hz => nomatch hz)) (by decide) (by decide) (hts (.classLink RL 15 "java/lang/IllegalStateException") (List.mem_of_getElem? (i := 2) rfl)) (va_Nw.use rfl (hE.1.2.2.2.2.2.1 _ (List.mem_of_getElem? (i := 0) rfl))) hce hcv hcl ?_
    refine lv_astore_n (lv' := [(3, .ref q9), (0, .ref o), (1, .int p1), (2, .ref q)]) hx hb dL_pod_15 rfl hl (by decide) rfl (fun ls hl => ?_)
    refine lv_iconst (v := 2) hx hb dL_pod_16 (by decide) ?_
    exact zw_i hx hb hr hlk hP hD hS rfl rfl (Nat.le_of_ble_eq_true rfl) (Nat.le_of_ble_eq_true rfl) dL_pod_17
abbrev rm_L_ride : Room := { frames := 9, cells := 1, slots := 6, locals := 155 }
theorem hds_L_ride : yL_ride.cls ≠ "java/lang/invoke/MethodHandle" ∧ yL_ride.cls ≠ "java/lang/invoke/VarHandle" ∧ (parseMethodDescriptor yL_ride.desc).map (fun d => d.parameters.length) = some 4 := by decide +kernel
set_option maxHeartbeats 4000000 in
set_option maxRecDepth 100000 in
theorem ok_L_ride (l : Launch) (D : va_G) (Z : Nat → ClassId) (o : Nat) (a b : Nat → Nat) (S T : RS) (q : Nat) (f : Nat → Int64) (p1 : Int32) (p2 : Int32) (r : Int32) (S' T' : RS) (hf : f_X1_ride S T p1 p2 = some (.ok (r, S', T'))) : GWi l yL_ride wsL_ride rm_L_ride D Z yE [.ref o, .int p1, .int p2, .ref q] (olw Z o a b S T q f) (olw Z o a b S' T' q (vp_updL f 0 r.toInt64)) 0 1 6 := by
  refine GWi.ofH (cc := cL_ride) (nL := 5) (ret := (some .int)) (hh := [(0, 10, 13, 13), (0, 10, 17, 24), (0, 10, 21, 15)]) (by decide +kernel) rfl (Nat.le_of_ble_eq_true rfl) ?_
  intro p e s m below meth c A hC hT hE hA hP hK hD hS ls hl
  obtain ⟨hx, hb, hr, hml, hown, hts, hlk, -⟩ := hC
  have hown : s.vm.findClass RL = some m.cls := hown
  have hl : lv_has ls 5 [(0, .ref o), (1, .int p1), (2, .int p2), (3, .ref q)] := hl
  refine lv_aload_n hx hb dL_ride_0 rfl (lv_at hl 3 rfl) ?_
  refine lv_iconst (v := 0) hx hb dL_ride_1 (by decide) ?_
  refine lv_aload_n hx hb dL_ride_2 rfl (lv_at hl 0 rfl) ?_
  refine lv_iload_n hx hb dL_ride_3 rfl (lv_at hl 1 rfl) ?_
  refine lv_iload_n hx hb dL_ride_4 rfl (lv_at hl 2 rfl) ?_
  refine zc_mi zI_out (z_VG (As := [.int p1, .int p2]) (rest := [.int 0, .ref q]) (q0 := 0) (ci := 1) xE_ok hE.1 hS hA ⟨hx, hb, hml, hown, hts⟩ (ok_X1_ride l D Z o a b S T p1 p2 r S' T' hf) gL_ride_X1_ride rfl rfl rfl hdv_X1_ride ⟨Nat.le_of_ble_eq_true rfl, Nat.le_of_ble_eq_true rfl⟩ hK (hP.sub (ws' := owl Z o a b S T) [0, 1, 2, 3, 4, 5, 6, 7, 8, 9, 10, 11, 12, 13, 14, 15, 16, 17, 18, 19, 20, 21, 22, 23, 24] rfl) (hD.sub (ws' := owl Z o a b S T) [0, 1, 2, 3, 4, 5, 6, 7, 8, 9, 10, 11, 12, 13, 14, 15, 16, 17, 18, 19, 20, 21, 22, 23, 24] (by decide) rfl) rfl rfl rfl rfl hl.1 rfl (Nat.le_of_ble_eq_true rfl) dL_ride_5 ⟨Nat.le_of_ble_eq_true rfl, Nat.le_of_ble_eq_true rfl⟩) hP hD hS hA (fun H locs hP hD hS => ?_)
  refine lv_i2l hx hb dL_ride_8 rfl ?_
  refine va_last hx hb hK hP hD hS 25 1 rfl rfl (vp_in_lit (by decide)) dL_ride_9 (fun H locs hP hD hS => ?_)
  have hP : va_P D vwCl (olw Z o a b S' T' q (vp_updL f 0 r.toInt64)) H := hP
  have hD : va_D A (olw Z o a b S' T' q (vp_updL f 0 r.toInt64)) := hD
  refine lv_goto (tgt := 25) hx hb dL_ride_10 (by decide) ?_
  refine lv_iconst (v := 0) hx hb dL_ride_25 (by decide) ?_
  exact zw_i hx hb hr hlk hP hD hS rfl rfl (Nat.le_of_ble_eq_true rfl) (Nat.le_of_ble_eq_true rfl) dL_ride_26
set_option maxHeartbeats 4000000 in
set_option maxRecDepth 100000 in
theorem er_L_ride (l : Launch) (htr : l.stackTraces = false) (D : va_G) (Z : Nat → ClassId) (o : Nat) (a b : Nat → Nat) (S T : RS) (q : Nat) (f : Nat → Int64) (p1 : Int32) (p2 : Int32) (E : String) (k : Int32) (hf : f_X1_ride S T p1 p2 = some (.error E)) (hk : (E = "java/lang/IndexOutOfBoundsException" ∧ k = 1) ∨ (E = "java/lang/IllegalArgumentException" ∧ k = 2) ∨ (E = "java/lang/IllegalStateException" ∧ k = 3)) : GWi l yL_ride wsL_ride rm_L_ride D Z yE [.ref o, .int p1, .int p2, .ref q] (olw Z o a b S T q f) (olw Z o a b S T q f) k 1 6 := by
  refine GWi.ofH (cc := cL_ride) (nL := 5) (ret := (some .int)) (hh := [(0, 10, 13, 13), (0, 10, 17, 24), (0, 10, 21, 15)]) (by decide +kernel) rfl (Nat.le_of_ble_eq_true rfl) ?_
  intro p e s m below meth c A hC hT hE hA hP hK hD hS ls hl
  obtain ⟨hx, hb, hr, hml, hown, hts, hlk, -⟩ := hC
  have hown : s.vm.findClass RL = some m.cls := hown
  have hl : lv_has ls 5 [(0, .ref o), (1, .int p1), (2, .int p2), (3, .ref q)] := hl
  refine lv_aload_n hx hb dL_ride_0 rfl (lv_at hl 3 rfl) ?_
  refine lv_iconst (v := 0) hx hb dL_ride_1 (by decide) ?_
  refine lv_aload_n hx hb dL_ride_2 rfl (lv_at hl 0 rfl) ?_
  refine lv_iload_n hx hb dL_ride_3 rfl (lv_at hl 1 rfl) ?_
  refine lv_iload_n hx hb dL_ride_4 rfl (lv_at hl 2 rfl) ?_
  refine zx_run (z_VX (As := [.int p1, .int p2]) (rest := [.int 0, .ref q]) (q0 := 0) (ci := 1) xE_ok hE.1 hS hA ⟨hx, hb, hml, hown, hts⟩ (er_X1_ride l htr D Z o a b S T p1 p2 E hf) gL_ride_X1_ride rfl rfl rfl hdv_X1_ride ⟨Nat.le_of_ble_eq_true rfl, Nat.le_of_ble_eq_true rfl⟩ hK (hP.sub (ws' := owl Z o a b S T) [0, 1, 2, 3, 4, 5, 6, 7, 8, 9, 10, 11, 12, 13, 14, 15, 16, 17, 18, 19, 20, 21, 22, 23, 24] rfl) (hD.sub (ws' := owl Z o a b S T) [0, 1, 2, 3, 4, 5, 6, 7, 8, 9, 10, 11, 12, 13, 14, 15, 16, 17, 18, 19, 20, 21, 22, 23, 24] (by decide) rfl) rfl rfl rfl rfl hl.1 rfl (Nat.le_of_ble_eq_true rfl) dL_ride_5 ⟨Nat.le_of_ble_eq_true rfl, Nat.le_of_ble_eq_true rfl⟩) hP hS hA (fun q9 ce H locs hP hS hce hcv hcl => ?_)
  rcases hk with ⟨rfl, rfl⟩ | hk
  · skip
    refine vx_catch (own := RL) (name := "java/lang/IndexOutOfBoundsException") (E := "java/lang/IndexOutOfBoundsException") hown [] (⟨0, 10, 13, 13⟩ : ExceptionTableEntry) [(⟨0, 10, 17, 24⟩ : ExceptionTableEntry), (⟨0, 10, 21, 15⟩ : ExceptionTableEntry)] (hT.trans rfl) (fun z hz => nomatch hz) (by decide) (by decide) (hts (.classLink RL 13 "java/lang/IndexOutOfBoundsException") (List.mem_of_getElem? (i := 1) rfl)) (va_Nw.use rfl (hE.1.2.2.2.2.2.1 _ (List.mem_of_getElem? (i := 1) rfl))) hce hcv hcl ?_
    refine lv_astore (lv' := [(4, .ref q9), (0, .ref o), (1, .int p1), (2, .int p2), (3, .ref q)]) hx hb dL_ride_13 hl (by decide) rfl (fun ls hl => ?_)
    refine lv_iconst (v := 1) hx hb dL_ride_15 (by decide) ?_
    exact zw_i hx hb hr hlk hP hD hS rfl rfl (Nat.le_of_ble_eq_true rfl) (Nat.le_of_ble_eq_true rfl) dL_ride_16
  rcases hk with ⟨rfl, rfl⟩ | hk
  · skip
    refine vx_catch (own := RL) (name := "java/lang/IllegalArgumentException") (E := "java/lang/IllegalArgumentException") hown [(⟨0, 10, 13, 13⟩ : ExceptionTableEntry)] (⟨0, 10, 17, 24⟩ : ExceptionTableEntry) [(⟨0, 10, 21, 15⟩ : ExceptionTableEntry)] (hT.trans rfl) (fun z hz => (List.mem_cons.mp hz).elim (fun h => by subst h; exact Or.inr ⟨by decide, "java/lang/IndexOutOfBoundsException", hts (.classLink RL 13 "java/lang/IndexOutOfBoundsException") (List.mem_of_getElem? (i := 1) rfl), hE.2 _ (List.mem_of_getElem? (i := 1) rfl)⟩) (fun hz => nomatch hz)) (by decide) (by decide) (hts (.classLink RL 24 "java/lang/IllegalArgumentException") (List.mem_of_getElem? (i := 2) rfl)) (va_Nw.use rfl (hE.1.2.2.2.2.2.1 _ (List.mem_of_getElem? (i := 2) rfl))) hce hcv hcl ?_
    refine lv_astore (lv' := [(4, .ref q9), (0, .ref o), (1, .int p1), (2, .int p2), (3, .ref q)]) hx hb dL_ride_17 hl (by decide) rfl (fun ls hl => ?_)
    refine lv_iconst (v := 2) hx hb dL_ride_19 (by decide) ?_
    exact zw_i hx hb hr hlk hP hD hS rfl rfl (Nat.le_of_ble_eq_true rfl) (Nat.le_of_ble_eq_true rfl) dL_ride_20
  · obtain ⟨rfl, rfl⟩ := hk
    refine vx_catch (own := RL) (name := "java/lang/IllegalStateException") (E := "java/lang/IllegalStateException") hown [(⟨0, 10, 13, 13⟩ : ExceptionTableEntry), (⟨0, 10, 17, 24⟩ : ExceptionTableEntry)] (⟨0, 10, 21, 15⟩ : ExceptionTableEntry) [] (hT.trans rfl) (fun z hz => (List.mem_cons.mp hz).elim (fun h => by subst h; exact Or.inr ⟨by decide, "java/lang/IndexOutOfBoundsException", hts (.classLink RL 13 "java/lang/IndexOutOfBoundsException") (List.mem_of_getElem? (i := 1) rfl), hE.2 _ (List.mem_of_getElem? (i := 0) rfl)⟩) (fun hz => (List.mem_cons.mp hz).elim (fun h => by subst h; exact Or.inr ⟨by decide, "java/lang/IllegalArgumentException", hts (.classLink RL 24 "java/lang/IllegalArgumentException") (List.mem_of_getElem? (i := 2) rfl), hE.2 _ (List.mem_of_getElem? (i := 2) rfl)⟩) (fun hz => nomatch hz))) (by decide) (by decide) (hts (.classLink RL 15 "java/lang/IllegalStateException") (List.mem_of_getElem? (i := 3) rfl)) (va_Nw.use rfl (hE.1.2.2.2.2.2.1 _ (List.mem_of_getElem? (i := 0) rfl))) hce hcv hcl ?_
    refine lv_astore (lv' := [(4, .ref q9), (0, .ref o), (1, .int p1), (2, .int p2), (3, .ref q)]) hx hb dL_ride_21 hl (by decide) rfl (fun ls hl => ?_)
    refine lv_iconst (v := 3) hx hb dL_ride_23 (by decide) ?_
    exact zw_i hx hb hr hlk hP hD hS rfl rfl (Nat.le_of_ble_eq_true rfl) (Nat.le_of_ble_eq_true rfl) dL_ride_24
abbrev rm_L_send : Room := { frames := 8, cells := 1, slots := 6, locals := 135 }
theorem hds_L_send : yL_send.cls ≠ "java/lang/invoke/MethodHandle" ∧ yL_send.cls ≠ "java/lang/invoke/VarHandle" ∧ (parseMethodDescriptor yL_send.desc).map (fun d => d.parameters.length) = some 4 := by decide +kernel
set_option maxHeartbeats 4000000 in
set_option maxRecDepth 100000 in
theorem ok_L_send (l : Launch) (D : va_G) (Z : Nat → ClassId) (o : Nat) (a b : Nat → Nat) (S T : RS) (q : Nat) (f : Nat → Int64) (p1 : Int32) (p2 : Int32) (r : Int32) (S' T' : RS) (hf : f_X1_send S T p1 p2 = some (.ok (r, S', T'))) : GWi l yL_send wsL_send rm_L_send D Z yE [.ref o, .int p1, .int p2, .ref q] (olw Z o a b S T q f) (olw Z o a b S' T' q (vp_updL f 0 r.toInt64)) 0 1 6 := by
  refine GWi.ofH (cc := cL_send) (nL := 5) (ret := (some .int)) (hh := [(0, 10, 13, 13), (0, 10, 17, 15)]) (by decide +kernel) rfl (Nat.le_of_ble_eq_true rfl) ?_
  intro p e s m below meth c A hC hT hE hA hP hK hD hS ls hl
  obtain ⟨hx, hb, hr, hml, hown, hts, hlk, -⟩ := hC
  have hown : s.vm.findClass RL = some m.cls := hown
  have hl : lv_has ls 5 [(0, .ref o), (1, .int p1), (2, .int p2), (3, .ref q)] := hl
  refine lv_aload_n hx hb dL_send_0 rfl (lv_at hl 3 rfl) ?_
  refine lv_iconst (v := 0) hx hb dL_send_1 (by decide) ?_
  refine lv_aload_n hx hb dL_send_2 rfl (lv_at hl 0 rfl) ?_
  refine lv_iload_n hx hb dL_send_3 rfl (lv_at hl 1 rfl) ?_
  refine lv_iload_n hx hb dL_send_4 rfl (lv_at hl 2 rfl) ?_
  refine zc_mi zI_out (z_VG (As := [.int p1, .int p2]) (rest := [.int 0, .ref q]) (q0 := 0) (ci := 1) xE_ok hE.1 hS hA ⟨hx, hb, hml, hown, hts⟩ (ok_X1_send l D Z o a b S T p1 p2 r S' T' hf) gL_send_X1_send rfl rfl rfl hdv_X1_send ⟨Nat.le_of_ble_eq_true rfl, Nat.le_of_ble_eq_true rfl⟩ hK (hP.sub (ws' := owl Z o a b S T) [0, 1, 2, 3, 4, 5, 6, 7, 8, 9, 10, 11, 12, 13, 14, 15, 16, 17, 18, 19, 20, 21, 22, 23, 24] rfl) (hD.sub (ws' := owl Z o a b S T) [0, 1, 2, 3, 4, 5, 6, 7, 8, 9, 10, 11, 12, 13, 14, 15, 16, 17, 18, 19, 20, 21, 22, 23, 24] (by decide) rfl) rfl rfl rfl rfl hl.1 rfl (Nat.le_of_ble_eq_true rfl) dL_send_5 ⟨Nat.le_of_ble_eq_true rfl, Nat.le_of_ble_eq_true rfl⟩) hP hD hS hA (fun H locs hP hD hS => ?_)
  refine lv_i2l hx hb dL_send_8 rfl ?_
  refine va_last hx hb hK hP hD hS 25 1 rfl rfl (vp_in_lit (by decide)) dL_send_9 (fun H locs hP hD hS => ?_)
  have hP : va_P D vwCl (olw Z o a b S' T' q (vp_updL f 0 r.toInt64)) H := hP
  have hD : va_D A (olw Z o a b S' T' q (vp_updL f 0 r.toInt64)) := hD
  refine lv_goto (tgt := 21) hx hb dL_send_10 (by decide) ?_
  refine lv_iconst (v := 0) hx hb dL_send_21 (by decide) ?_
  exact zw_i hx hb hr hlk hP hD hS rfl rfl (Nat.le_of_ble_eq_true rfl) (Nat.le_of_ble_eq_true rfl) dL_send_22
set_option maxHeartbeats 4000000 in
set_option maxRecDepth 100000 in
theorem er_L_send (l : Launch) (htr : l.stackTraces = false) (D : va_G) (Z : Nat → ClassId) (o : Nat) (a b : Nat → Nat) (S T : RS) (q : Nat) (f : Nat → Int64) (p1 : Int32) (p2 : Int32) (E : String) (k : Int32) (hf : f_X1_send S T p1 p2 = some (.error E)) (hk : (E = "java/lang/IndexOutOfBoundsException" ∧ k = 1) ∨ (E = "java/lang/IllegalStateException" ∧ k = 2)) : GWi l yL_send wsL_send rm_L_send D Z yE [.ref o, .int p1, .int p2, .ref q] (olw Z o a b S T q f) (olw Z o a b S T q f) k 1 6 := by
  refine GWi.ofH (cc := cL_send) (nL := 5) (ret := (some .int)) (hh := [(0, 10, 13, 13), (0, 10, 17, 15)]) (by decide +kernel) rfl (Nat.le_of_ble_eq_true rfl) ?_
  intro p e s m below meth c A hC hT hE hA hP hK hD hS ls hl
  obtain ⟨hx, hb, hr, hml, hown, hts, hlk, -⟩ := hC
  have hown : s.vm.findClass RL = some m.cls := hown
  have hl : lv_has ls 5 [(0, .ref o), (1, .int p1), (2, .int p2), (3, .ref q)] := hl
  refine lv_aload_n hx hb dL_send_0 rfl (lv_at hl 3 rfl) ?_
  refine lv_iconst (v := 0) hx hb dL_send_1 (by decide) ?_
  refine lv_aload_n hx hb dL_send_2 rfl (lv_at hl 0 rfl) ?_
  refine lv_iload_n hx hb dL_send_3 rfl (lv_at hl 1 rfl) ?_
  refine lv_iload_n hx hb dL_send_4 rfl (lv_at hl 2 rfl) ?_
  refine zx_run (z_VX (As := [.int p1, .int p2]) (rest := [.int 0, .ref q]) (q0 := 0) (ci := 1) xE_ok hE.1 hS hA ⟨hx, hb, hml, hown, hts⟩ (er_X1_send l htr D Z o a b S T p1 p2 E hf) gL_send_X1_send rfl rfl rfl hdv_X1_send ⟨Nat.le_of_ble_eq_true rfl, Nat.le_of_ble_eq_true rfl⟩ hK (hP.sub (ws' := owl Z o a b S T) [0, 1, 2, 3, 4, 5, 6, 7, 8, 9, 10, 11, 12, 13, 14, 15, 16, 17, 18, 19, 20, 21, 22, 23, 24] rfl) (hD.sub (ws' := owl Z o a b S T) [0, 1, 2, 3, 4, 5, 6, 7, 8, 9, 10, 11, 12, 13, 14, 15, 16, 17, 18, 19, 20, 21, 22, 23, 24] (by decide) rfl) rfl rfl rfl rfl hl.1 rfl (Nat.le_of_ble_eq_true rfl) dL_send_5 ⟨Nat.le_of_ble_eq_true rfl, Nat.le_of_ble_eq_true rfl⟩) hP hS hA (fun q9 ce H locs hP hS hce hcv hcl => ?_)
  rcases hk with ⟨rfl, rfl⟩ | hk
  · skip
    refine vx_catch (own := RL) (name := "java/lang/IndexOutOfBoundsException") (E := "java/lang/IndexOutOfBoundsException") hown [] (⟨0, 10, 13, 13⟩ : ExceptionTableEntry) [(⟨0, 10, 17, 15⟩ : ExceptionTableEntry)] (hT.trans rfl) (fun z hz => nomatch hz) (by decide) (by decide) (hts (.classLink RL 13 "java/lang/IndexOutOfBoundsException") (List.mem_of_getElem? (i := 1) rfl)) (va_Nw.use rfl (hE.1.2.2.2.2.2.1 _ (List.mem_of_getElem? (i := 1) rfl))) hce hcv hcl ?_
    refine lv_astore (lv' := [(4, .ref q9), (0, .ref o), (1, .int p1), (2, .int p2), (3, .ref q)]) hx hb dL_send_13 hl (by decide) rfl (fun ls hl => ?_)
    refine lv_iconst (v := 1) hx hb dL_send_15 (by decide) ?_
    exact zw_i hx hb hr hlk hP hD hS rfl rfl (Nat.le_of_ble_eq_true rfl) (Nat.le_of_ble_eq_true rfl) dL_send_16
  · obtain ⟨rfl, rfl⟩ := hk
    refine vx_catch (own := RL) (name := "java/lang/IllegalStateException") (E := "java/lang/IllegalStateException") hown [(⟨0, 10, 13, 13⟩ : ExceptionTableEntry)] (⟨0, 10, 17, 15⟩ : ExceptionTableEntry) [] (hT.trans rfl) (fun z hz => (List.mem_cons.mp hz).elim (fun h => by subst h; exact Or.inr ⟨by decide, "java/lang/IndexOutOfBoundsException", hts (.classLink RL 13 "java/lang/IndexOutOfBoundsException") (List.mem_of_getElem? (i := 1) rfl), hE.2 _ (List.mem_of_getElem? (i := 0) rfl)⟩) (fun hz => nomatch hz)) (by decide) (by decide) (hts (.classLink RL 15 "java/lang/IllegalStateException") (List.mem_of_getElem? (i := 2) rfl)) (va_Nw.use rfl (hE.1.2.2.2.2.2.1 _ (List.mem_of_getElem? (i := 0) rfl))) hce hcv hcl ?_
    refine lv_astore (lv' := [(4, .ref q9), (0, .ref o), (1, .int p1), (2, .int p2), (3, .ref q)]) hx hb dL_send_17 hl (by decide) rfl (fun ls hl => ?_)
    refine lv_iconst (v := 2) hx hb dL_send_19 (by decide) ?_
    exact zw_i hx hb hr hlk hP hD hS rfl rfl (Nat.le_of_ble_eq_true rfl) (Nat.le_of_ble_eq_true rfl) dL_send_20
abbrev rm_L_told : Room := { frames := 8, cells := 1, slots := 6, locals := 135 }
theorem hds_L_told : yL_told.cls ≠ "java/lang/invoke/MethodHandle" ∧ yL_told.cls ≠ "java/lang/invoke/VarHandle" ∧ (parseMethodDescriptor yL_told.desc).map (fun d => d.parameters.length) = some 4 := by decide +kernel
set_option maxHeartbeats 4000000 in
set_option maxRecDepth 100000 in
theorem ok_L_told (l : Launch) (D : va_G) (Z : Nat → ClassId) (o : Nat) (a b : Nat → Nat) (S T : RS) (q : Nat) (f : Nat → Int64) (p1 : Int32) (p2 : Int32) (r : Int32) (hf : f_X1_told S T p1 p2 = some (.ok r)) : GWi l yL_told wsL_told rm_L_told D Z yE [.ref o, .int p1, .int p2, .ref q] (olw Z o a b S T q f) (olw Z o a b S T q (vp_updL f 0 r.toInt64)) 0 1 6 := by
  refine GWi.ofH (cc := cL_told) (nL := 5) (ret := (some .int)) (hh := [(0, 10, 13, 13)]) (by decide +kernel) rfl (Nat.le_of_ble_eq_true rfl) ?_
  intro p e s m below meth c A hC hT hE hA hP hK hD hS ls hl
  obtain ⟨hx, hb, hr, hml, hown, hts, hlk, -⟩ := hC
  have hown : s.vm.findClass RL = some m.cls := hown
  have hl : lv_has ls 5 [(0, .ref o), (1, .int p1), (2, .int p2), (3, .ref q)] := hl
  refine lv_aload_n hx hb dL_told_0 rfl (lv_at hl 3 rfl) ?_
  refine lv_iconst (v := 0) hx hb dL_told_1 (by decide) ?_
  refine lv_aload_n hx hb dL_told_2 rfl (lv_at hl 0 rfl) ?_
  refine lv_iload_n hx hb dL_told_3 rfl (lv_at hl 1 rfl) ?_
  refine lv_iload_n hx hb dL_told_4 rfl (lv_at hl 2 rfl) ?_
  refine zc_i (z_VG (As := [.int p1, .int p2]) (rest := [.int 0, .ref q]) (q0 := 0) (ci := 1) xE_ok hE.1 hS hA ⟨hx, hb, hml, hown, hts⟩ (ok_X1_told l D Z o a b S T p1 p2 r  hf) gL_told_X1_told rfl rfl rfl hdv_X1_told ⟨Nat.le_of_ble_eq_true rfl, Nat.le_of_ble_eq_true rfl⟩ hK (hP.sub (ws' := owl Z o a b S T) [0, 1, 2, 3, 4, 5, 6, 7, 8, 9, 10, 11, 12, 13, 14, 15, 16, 17, 18, 19, 20, 21, 22, 23, 24] rfl) (hD.sub (ws' := owl Z o a b S T) [0, 1, 2, 3, 4, 5, 6, 7, 8, 9, 10, 11, 12, 13, 14, 15, 16, 17, 18, 19, 20, 21, 22, 23, 24] (by decide) rfl) rfl rfl rfl rfl hl.1 rfl (Nat.le_of_ble_eq_true rfl) dL_told_5 ⟨Nat.le_of_ble_eq_true rfl, Nat.le_of_ble_eq_true rfl⟩) hP hS hA (fun H locs hP hS => ?_)
  refine lv_i2l hx hb dL_told_8 rfl ?_
  refine va_last hx hb hK hP hD hS 25 1 rfl rfl (vp_in_lit (by decide)) dL_told_9 (fun H locs hP hD hS => ?_)
  have hP : va_P D vwCl (olw Z o a b S T q (vp_updL f 0 r.toInt64)) H := hP
  have hD : va_D A (olw Z o a b S T q (vp_updL f 0 r.toInt64)) := hD
  refine lv_goto (tgt := 17) hx hb dL_told_10 (by decide) ?_
  refine lv_iconst (v := 0) hx hb dL_told_17 (by decide) ?_
  exact zw_i hx hb hr hlk hP hD hS rfl rfl (Nat.le_of_ble_eq_true rfl) (Nat.le_of_ble_eq_true rfl) dL_told_18
set_option maxHeartbeats 4000000 in
set_option maxRecDepth 100000 in
theorem er_L_told (l : Launch) (htr : l.stackTraces = false) (D : va_G) (Z : Nat → ClassId) (o : Nat) (a b : Nat → Nat) (S T : RS) (q : Nat) (f : Nat → Int64) (p1 : Int32) (p2 : Int32) (E : String) (k : Int32) (hf : f_X1_told S T p1 p2 = some (.error E)) (hk : (E = "java/lang/IndexOutOfBoundsException" ∧ k = 1)) : GWi l yL_told wsL_told rm_L_told D Z yE [.ref o, .int p1, .int p2, .ref q] (olw Z o a b S T q f) (olw Z o a b S T q f) k 1 6 := by
  refine GWi.ofH (cc := cL_told) (nL := 5) (ret := (some .int)) (hh := [(0, 10, 13, 13)]) (by decide +kernel) rfl (Nat.le_of_ble_eq_true rfl) ?_
  intro p e s m below meth c A hC hT hE hA hP hK hD hS ls hl
  obtain ⟨hx, hb, hr, hml, hown, hts, hlk, -⟩ := hC
  have hown : s.vm.findClass RL = some m.cls := hown
  have hl : lv_has ls 5 [(0, .ref o), (1, .int p1), (2, .int p2), (3, .ref q)] := hl
  refine lv_aload_n hx hb dL_told_0 rfl (lv_at hl 3 rfl) ?_
  refine lv_iconst (v := 0) hx hb dL_told_1 (by decide) ?_
  refine lv_aload_n hx hb dL_told_2 rfl (lv_at hl 0 rfl) ?_
  refine lv_iload_n hx hb dL_told_3 rfl (lv_at hl 1 rfl) ?_
  refine lv_iload_n hx hb dL_told_4 rfl (lv_at hl 2 rfl) ?_
  refine zx_run (z_VX (As := [.int p1, .int p2]) (rest := [.int 0, .ref q]) (q0 := 0) (ci := 1) xE_ok hE.1 hS hA ⟨hx, hb, hml, hown, hts⟩ (er_X1_told l htr D Z o a b S T p1 p2 E hf) gL_told_X1_told rfl rfl rfl hdv_X1_told ⟨Nat.le_of_ble_eq_true rfl, Nat.le_of_ble_eq_true rfl⟩ hK (hP.sub (ws' := owl Z o a b S T) [0, 1, 2, 3, 4, 5, 6, 7, 8, 9, 10, 11, 12, 13, 14, 15, 16, 17, 18, 19, 20, 21, 22, 23, 24] rfl) (hD.sub (ws' := owl Z o a b S T) [0, 1, 2, 3, 4, 5, 6, 7, 8, 9, 10, 11, 12, 13, 14, 15, 16, 17, 18, 19, 20, 21, 22, 23, 24] (by decide) rfl) rfl rfl rfl rfl hl.1 rfl (Nat.le_of_ble_eq_true rfl) dL_told_5 ⟨Nat.le_of_ble_eq_true rfl, Nat.le_of_ble_eq_true rfl⟩) hP hS hA (fun q9 ce H locs hP hS hce hcv hcl => ?_)
  obtain ⟨rfl, rfl⟩ := hk
  refine vx_catch (own := RL) (name := "java/lang/IndexOutOfBoundsException") (E := "java/lang/IndexOutOfBoundsException") hown [] (⟨0, 10, 13, 13⟩ : ExceptionTableEntry) [] (hT.trans rfl) (fun z hz => nomatch hz) (by decide) (by decide) (hts (.classLink RL 13 "java/lang/IndexOutOfBoundsException") (List.mem_of_getElem? (i := 1) rfl)) (va_Nw.use rfl (hE.1.2.2.2.2.2.1 _ (List.mem_of_getElem? (i := 1) rfl))) hce hcv hcl ?_
  refine lv_astore (lv' := [(4, .ref q9), (0, .ref o), (1, .int p1), (2, .int p2), (3, .ref q)]) hx hb dL_told_13 hl (by decide) rfl (fun ls hl => ?_)
  refine lv_iconst (v := 1) hx hb dL_told_15 (by decide) ?_
  exact zw_i hx hb hr hlk hP hD hS rfl rfl (Nat.le_of_ble_eq_true rfl) (Nat.le_of_ble_eq_true rfl) dL_told_16
abbrev rm_L_station : Room := { frames := 8, cells := 1, slots := 6, locals := 135 }
theorem hds_L_station : yL_station.cls ≠ "java/lang/invoke/MethodHandle" ∧ yL_station.cls ≠ "java/lang/invoke/VarHandle" ∧ (parseMethodDescriptor yL_station.desc).map (fun d => d.parameters.length) = some 4 := by decide +kernel
set_option maxHeartbeats 4000000 in
set_option maxRecDepth 100000 in
theorem ok_L_station (l : Launch) (D : va_G) (Z : Nat → ClassId) (o : Nat) (a b : Nat → Nat) (S T : RS) (q : Nat) (f : Nat → Int64) (p1 : Int32) (p2 : Int32) (r : Int32) (hf : f_X1_station S T p1 p2 = some (.ok r)) : GWi l yL_station wsL_station rm_L_station D Z yE [.ref o, .int p1, .int p2, .ref q] (olw Z o a b S T q f) (olw Z o a b S T q (vp_updL f 0 r.toInt64)) 0 1 6 := by
  refine GWi.ofH (cc := cL_station) (nL := 5) (ret := (some .int)) (hh := [(0, 10, 13, 13)]) (by decide +kernel) rfl (Nat.le_of_ble_eq_true rfl) ?_
  intro p e s m below meth c A hC hT hE hA hP hK hD hS ls hl
  obtain ⟨hx, hb, hr, hml, hown, hts, hlk, -⟩ := hC
  have hown : s.vm.findClass RL = some m.cls := hown
  have hl : lv_has ls 5 [(0, .ref o), (1, .int p1), (2, .int p2), (3, .ref q)] := hl
  refine lv_aload_n hx hb dL_station_0 rfl (lv_at hl 3 rfl) ?_
  refine lv_iconst (v := 0) hx hb dL_station_1 (by decide) ?_
  refine lv_aload_n hx hb dL_station_2 rfl (lv_at hl 0 rfl) ?_
  refine lv_iload_n hx hb dL_station_3 rfl (lv_at hl 1 rfl) ?_
  refine lv_iload_n hx hb dL_station_4 rfl (lv_at hl 2 rfl) ?_
  refine zc_i (z_VG (As := [.int p1, .int p2]) (rest := [.int 0, .ref q]) (q0 := 0) (ci := 1) xE_ok hE.1 hS hA ⟨hx, hb, hml, hown, hts⟩ (ok_X1_station l D Z o a b S T p1 p2 r  hf) gL_station_X1_station rfl rfl rfl hdv_X1_station ⟨Nat.le_of_ble_eq_true rfl, Nat.le_of_ble_eq_true rfl⟩ hK (hP.sub (ws' := owl Z o a b S T) [0, 1, 2, 3, 4, 5, 6, 7, 8, 9, 10, 11, 12, 13, 14, 15, 16, 17, 18, 19, 20, 21, 22, 23, 24] rfl) (hD.sub (ws' := owl Z o a b S T) [0, 1, 2, 3, 4, 5, 6, 7, 8, 9, 10, 11, 12, 13, 14, 15, 16, 17, 18, 19, 20, 21, 22, 23, 24] (by decide) rfl) rfl rfl rfl rfl hl.1 rfl (Nat.le_of_ble_eq_true rfl) dL_station_5 ⟨Nat.le_of_ble_eq_true rfl, Nat.le_of_ble_eq_true rfl⟩) hP hS hA (fun H locs hP hS => ?_)
  refine lv_i2l hx hb dL_station_8 rfl ?_
  refine va_last hx hb hK hP hD hS 25 1 rfl rfl (vp_in_lit (by decide)) dL_station_9 (fun H locs hP hD hS => ?_)
  have hP : va_P D vwCl (olw Z o a b S T q (vp_updL f 0 r.toInt64)) H := hP
  have hD : va_D A (olw Z o a b S T q (vp_updL f 0 r.toInt64)) := hD
  refine lv_goto (tgt := 17) hx hb dL_station_10 (by decide) ?_
  refine lv_iconst (v := 0) hx hb dL_station_17 (by decide) ?_
  exact zw_i hx hb hr hlk hP hD hS rfl rfl (Nat.le_of_ble_eq_true rfl) (Nat.le_of_ble_eq_true rfl) dL_station_18
set_option maxHeartbeats 4000000 in
set_option maxRecDepth 100000 in
theorem er_L_station (l : Launch) (htr : l.stackTraces = false) (D : va_G) (Z : Nat → ClassId) (o : Nat) (a b : Nat → Nat) (S T : RS) (q : Nat) (f : Nat → Int64) (p1 : Int32) (p2 : Int32) (E : String) (k : Int32) (hf : f_X1_station S T p1 p2 = some (.error E)) (hk : (E = "java/lang/IndexOutOfBoundsException" ∧ k = 1)) : GWi l yL_station wsL_station rm_L_station D Z yE [.ref o, .int p1, .int p2, .ref q] (olw Z o a b S T q f) (olw Z o a b S T q f) k 1 6 := by
  refine GWi.ofH (cc := cL_station) (nL := 5) (ret := (some .int)) (hh := [(0, 10, 13, 13)]) (by decide +kernel) rfl (Nat.le_of_ble_eq_true rfl) ?_
  intro p e s m below meth c A hC hT hE hA hP hK hD hS ls hl
  obtain ⟨hx, hb, hr, hml, hown, hts, hlk, -⟩ := hC
  have hown : s.vm.findClass RL = some m.cls := hown
  have hl : lv_has ls 5 [(0, .ref o), (1, .int p1), (2, .int p2), (3, .ref q)] := hl
  refine lv_aload_n hx hb dL_station_0 rfl (lv_at hl 3 rfl) ?_
  refine lv_iconst (v := 0) hx hb dL_station_1 (by decide) ?_
  refine lv_aload_n hx hb dL_station_2 rfl (lv_at hl 0 rfl) ?_
  refine lv_iload_n hx hb dL_station_3 rfl (lv_at hl 1 rfl) ?_
  refine lv_iload_n hx hb dL_station_4 rfl (lv_at hl 2 rfl) ?_
  refine zx_run (z_VX (As := [.int p1, .int p2]) (rest := [.int 0, .ref q]) (q0 := 0) (ci := 1) xE_ok hE.1 hS hA ⟨hx, hb, hml, hown, hts⟩ (er_X1_station l htr D Z o a b S T p1 p2 E hf) gL_station_X1_station rfl rfl rfl hdv_X1_station ⟨Nat.le_of_ble_eq_true rfl, Nat.le_of_ble_eq_true rfl⟩ hK (hP.sub (ws' := owl Z o a b S T) [0, 1, 2, 3, 4, 5, 6, 7, 8, 9, 10, 11, 12, 13, 14, 15, 16, 17, 18, 19, 20, 21, 22, 23, 24] rfl) (hD.sub (ws' := owl Z o a b S T) [0, 1, 2, 3, 4, 5, 6, 7, 8, 9, 10, 11, 12, 13, 14, 15, 16, 17, 18, 19, 20, 21, 22, 23, 24] (by decide) rfl) rfl rfl rfl rfl hl.1 rfl (Nat.le_of_ble_eq_true rfl) dL_station_5 ⟨Nat.le_of_ble_eq_true rfl, Nat.le_of_ble_eq_true rfl⟩) hP hS hA (fun q9 ce H locs hP hS hce hcv hcl => ?_)
  obtain ⟨rfl, rfl⟩ := hk
  refine vx_catch (own := RL) (name := "java/lang/IndexOutOfBoundsException") (E := "java/lang/IndexOutOfBoundsException") hown [] (⟨0, 10, 13, 13⟩ : ExceptionTableEntry) [] (hT.trans rfl) (fun z hz => nomatch hz) (by decide) (by decide) (hts (.classLink RL 13 "java/lang/IndexOutOfBoundsException") (List.mem_of_getElem? (i := 1) rfl)) (va_Nw.use rfl (hE.1.2.2.2.2.2.1 _ (List.mem_of_getElem? (i := 1) rfl))) hce hcv hcl ?_
  refine lv_astore (lv' := [(4, .ref q9), (0, .ref o), (1, .int p1), (2, .int p2), (3, .ref q)]) hx hb dL_station_13 hl (by decide) rfl (fun ls hl => ?_)
  refine lv_iconst (v := 1) hx hb dL_station_15 (by decide) ?_
  exact zw_i hx hb hr hlk hP hD hS rfl rfl (Nat.le_of_ble_eq_true rfl) (Nat.le_of_ble_eq_true rfl) dL_station_16
abbrev rm_L_waits : Room := { frames := 8, cells := 1, slots := 6, locals := 133 }
theorem hds_L_waits : yL_waits.cls ≠ "java/lang/invoke/MethodHandle" ∧ yL_waits.cls ≠ "java/lang/invoke/VarHandle" ∧ (parseMethodDescriptor yL_waits.desc).map (fun d => d.parameters.length) = some 4 := by decide +kernel
set_option maxHeartbeats 4000000 in
set_option maxRecDepth 100000 in
theorem ok_L_waits (l : Launch) (D : va_G) (Z : Nat → ClassId) (o : Nat) (a b : Nat → Nat) (S T : RS) (q : Nat) (f : Nat → Int64) (p1 : Int32) (p2 : Int32) (r : Int32) (hf : f_X1_waits S T p1 p2 = some (.ok r)) : GWi l yL_waits wsL_waits rm_L_waits D Z yE [.ref o, .int p1, .int p2, .ref q] (olw Z o a b S T q f) (olw Z o a b S T q (vp_updL f 0 r.toInt64)) 0 1 6 := by
  refine GWi.ofH (cc := cL_waits) (nL := 5) (ret := (some .int)) (hh := [(0, 10, 13, 13)]) (by decide +kernel) rfl (Nat.le_of_ble_eq_true rfl) ?_
  intro p e s m below meth c A hC hT hE hA hP hK hD hS ls hl
  obtain ⟨hx, hb, hr, hml, hown, hts, hlk, -⟩ := hC
  have hown : s.vm.findClass RL = some m.cls := hown
  have hl : lv_has ls 5 [(0, .ref o), (1, .int p1), (2, .int p2), (3, .ref q)] := hl
  refine lv_aload_n hx hb dL_waits_0 rfl (lv_at hl 3 rfl) ?_
  refine lv_iconst (v := 0) hx hb dL_waits_1 (by decide) ?_
  refine lv_aload_n hx hb dL_waits_2 rfl (lv_at hl 0 rfl) ?_
  refine lv_iload_n hx hb dL_waits_3 rfl (lv_at hl 1 rfl) ?_
  refine lv_iload_n hx hb dL_waits_4 rfl (lv_at hl 2 rfl) ?_
  refine zc_i (z_VG (As := [.int p1, .int p2]) (rest := [.int 0, .ref q]) (q0 := 0) (ci := 1) xE_ok hE.1 hS hA ⟨hx, hb, hml, hown, hts⟩ (ok_X1_waits l D Z o a b S T p1 p2 r  hf) gL_waits_X1_waits rfl rfl rfl hdv_X1_waits ⟨Nat.le_of_ble_eq_true rfl, Nat.le_of_ble_eq_true rfl⟩ hK (hP.sub (ws' := owl Z o a b S T) [0, 1, 2, 3, 4, 5, 6, 7, 8, 9, 10, 11, 12, 13, 14, 15, 16, 17, 18, 19, 20, 21, 22, 23, 24] rfl) (hD.sub (ws' := owl Z o a b S T) [0, 1, 2, 3, 4, 5, 6, 7, 8, 9, 10, 11, 12, 13, 14, 15, 16, 17, 18, 19, 20, 21, 22, 23, 24] (by decide) rfl) rfl rfl rfl rfl hl.1 rfl (Nat.le_of_ble_eq_true rfl) dL_waits_5 ⟨Nat.le_of_ble_eq_true rfl, Nat.le_of_ble_eq_true rfl⟩) hP hS hA (fun H locs hP hS => ?_)
  refine lv_i2l hx hb dL_waits_8 rfl ?_
  refine va_last hx hb hK hP hD hS 25 1 rfl rfl (vp_in_lit (by decide)) dL_waits_9 (fun H locs hP hD hS => ?_)
  have hP : va_P D vwCl (olw Z o a b S T q (vp_updL f 0 r.toInt64)) H := hP
  have hD : va_D A (olw Z o a b S T q (vp_updL f 0 r.toInt64)) := hD
  refine lv_goto (tgt := 17) hx hb dL_waits_10 (by decide) ?_
  refine lv_iconst (v := 0) hx hb dL_waits_17 (by decide) ?_
  exact zw_i hx hb hr hlk hP hD hS rfl rfl (Nat.le_of_ble_eq_true rfl) (Nat.le_of_ble_eq_true rfl) dL_waits_18
set_option maxHeartbeats 4000000 in
set_option maxRecDepth 100000 in
theorem er_L_waits (l : Launch) (htr : l.stackTraces = false) (D : va_G) (Z : Nat → ClassId) (o : Nat) (a b : Nat → Nat) (S T : RS) (q : Nat) (f : Nat → Int64) (p1 : Int32) (p2 : Int32) (E : String) (k : Int32) (hf : f_X1_waits S T p1 p2 = some (.error E)) (hk : (E = "java/lang/IndexOutOfBoundsException" ∧ k = 1)) : GWi l yL_waits wsL_waits rm_L_waits D Z yE [.ref o, .int p1, .int p2, .ref q] (olw Z o a b S T q f) (olw Z o a b S T q f) k 1 6 := by
  refine GWi.ofH (cc := cL_waits) (nL := 5) (ret := (some .int)) (hh := [(0, 10, 13, 13)]) (by decide +kernel) rfl (Nat.le_of_ble_eq_true rfl) ?_
  intro p e s m below meth c A hC hT hE hA hP hK hD hS ls hl
  obtain ⟨hx, hb, hr, hml, hown, hts, hlk, -⟩ := hC
  have hown : s.vm.findClass RL = some m.cls := hown
  have hl : lv_has ls 5 [(0, .ref o), (1, .int p1), (2, .int p2), (3, .ref q)] := hl
  refine lv_aload_n hx hb dL_waits_0 rfl (lv_at hl 3 rfl) ?_
  refine lv_iconst (v := 0) hx hb dL_waits_1 (by decide) ?_
  refine lv_aload_n hx hb dL_waits_2 rfl (lv_at hl 0 rfl) ?_
  refine lv_iload_n hx hb dL_waits_3 rfl (lv_at hl 1 rfl) ?_
  refine lv_iload_n hx hb dL_waits_4 rfl (lv_at hl 2 rfl) ?_
  refine zx_run (z_VX (As := [.int p1, .int p2]) (rest := [.int 0, .ref q]) (q0 := 0) (ci := 1) xE_ok hE.1 hS hA ⟨hx, hb, hml, hown, hts⟩ (er_X1_waits l htr D Z o a b S T p1 p2 E hf) gL_waits_X1_waits rfl rfl rfl hdv_X1_waits ⟨Nat.le_of_ble_eq_true rfl, Nat.le_of_ble_eq_true rfl⟩ hK (hP.sub (ws' := owl Z o a b S T) [0, 1, 2, 3, 4, 5, 6, 7, 8, 9, 10, 11, 12, 13, 14, 15, 16, 17, 18, 19, 20, 21, 22, 23, 24] rfl) (hD.sub (ws' := owl Z o a b S T) [0, 1, 2, 3, 4, 5, 6, 7, 8, 9, 10, 11, 12, 13, 14, 15, 16, 17, 18, 19, 20, 21, 22, 23, 24] (by decide) rfl) rfl rfl rfl rfl hl.1 rfl (Nat.le_of_ble_eq_true rfl) dL_waits_5 ⟨Nat.le_of_ble_eq_true rfl, Nat.le_of_ble_eq_true rfl⟩) hP hS hA (fun q9 ce H locs hP hS hce hcv hcl => ?_)
  obtain ⟨rfl, rfl⟩ := hk
  refine vx_catch (own := RL) (name := "java/lang/IndexOutOfBoundsException") (E := "java/lang/IndexOutOfBoundsException") hown [] (⟨0, 10, 13, 13⟩ : ExceptionTableEntry) [] (hT.trans rfl) (fun z hz => nomatch hz) (by decide) (by decide) (hts (.classLink RL 13 "java/lang/IndexOutOfBoundsException") (List.mem_of_getElem? (i := 1) rfl)) (va_Nw.use rfl (hE.1.2.2.2.2.2.1 _ (List.mem_of_getElem? (i := 1) rfl))) hce hcv hcl ?_
  refine lv_astore (lv' := [(4, .ref q9), (0, .ref o), (1, .int p1), (2, .int p2), (3, .ref q)]) hx hb dL_waits_13 hl (by decide) rfl (fun ls hl => ?_)
  refine lv_iconst (v := 1) hx hb dL_waits_15 (by decide) ?_
  exact zw_i hx hb hr hlk hP hD hS rfl rfl (Nat.le_of_ble_eq_true rfl) (Nat.le_of_ble_eq_true rfl) dL_waits_16
abbrev rm_L_slot : Room := { frames := 8, cells := 1, slots := 6, locals := 132 }
theorem hds_L_slot : yL_slot.cls ≠ "java/lang/invoke/MethodHandle" ∧ yL_slot.cls ≠ "java/lang/invoke/VarHandle" ∧ (parseMethodDescriptor yL_slot.desc).map (fun d => d.parameters.length) = some 3 := by decide +kernel
set_option maxHeartbeats 4000000 in
set_option maxRecDepth 100000 in
theorem ok_L_slot (l : Launch) (D : va_G) (Z : Nat → ClassId) (o : Nat) (a b : Nat → Nat) (S T : RS) (q : Nat) (f : Nat → Int64) (p1 : Int32) (r : Int32) (hf : f_X1_slot S T p1 = some (.ok r)) : GWi l yL_slot wsL_slot rm_L_slot D Z yE [.ref o, .int p1, .ref q] (olw Z o a b S T q f) (olw Z o a b S T q (vp_updL f 0 r.toInt64)) 0 1 6 := by
  refine GWi.ofH (cc := cL_slot) (nL := 4) (ret := (some .int)) (hh := [(0, 9, 12, 13)]) (by decide +kernel) rfl (Nat.le_of_ble_eq_true rfl) ?_
  intro p e s m below meth c A hC hT hE hA hP hK hD hS ls hl
  obtain ⟨hx, hb, hr, hml, hown, hts, hlk, -⟩ := hC
  have hown : s.vm.findClass RL = some m.cls := hown
  have hl : lv_has ls 4 [(0, .ref o), (1, .int p1), (2, .ref q)] := hl
  refine lv_aload_n hx hb dL_slot_0 rfl (lv_at hl 2 rfl) ?_
  refine lv_iconst (v := 0) hx hb dL_slot_1 (by decide) ?_
  refine lv_aload_n hx hb dL_slot_2 rfl (lv_at hl 0 rfl) ?_
  refine lv_iload_n hx hb dL_slot_3 rfl (lv_at hl 1 rfl) ?_
  refine zc_i (z_VG (As := [.int p1]) (rest := [.int 0, .ref q]) (q0 := 0) (ci := 1) xE_ok hE.1 hS hA ⟨hx, hb, hml, hown, hts⟩ (ok_X1_slot l D Z o a b S T p1 r  hf) gL_slot_X1_slot rfl rfl rfl hdv_X1_slot ⟨Nat.le_of_ble_eq_true rfl, Nat.le_of_ble_eq_true rfl⟩ hK (hP.sub (ws' := owl Z o a b S T) [0, 1, 2, 3, 4, 5, 6, 7, 8, 9, 10, 11, 12, 13, 14, 15, 16, 17, 18, 19, 20, 21, 22, 23, 24] rfl) (hD.sub (ws' := owl Z o a b S T) [0, 1, 2, 3, 4, 5, 6, 7, 8, 9, 10, 11, 12, 13, 14, 15, 16, 17, 18, 19, 20, 21, 22, 23, 24] (by decide) rfl) rfl rfl rfl rfl hl.1 rfl (Nat.le_of_ble_eq_true rfl) dL_slot_4 ⟨Nat.le_of_ble_eq_true rfl, Nat.le_of_ble_eq_true rfl⟩) hP hS hA (fun H locs hP hS => ?_)
  refine lv_i2l hx hb dL_slot_7 rfl ?_
  refine va_last hx hb hK hP hD hS 25 1 rfl rfl (vp_in_lit (by decide)) dL_slot_8 (fun H locs hP hD hS => ?_)
  have hP : va_P D vwCl (olw Z o a b S T q (vp_updL f 0 r.toInt64)) H := hP
  have hD : va_D A (olw Z o a b S T q (vp_updL f 0 r.toInt64)) := hD
  refine lv_goto (tgt := 15) hx hb dL_slot_9 (by decide) ?_
  refine lv_iconst (v := 0) hx hb dL_slot_15 (by decide) ?_
  exact zw_i hx hb hr hlk hP hD hS rfl rfl (Nat.le_of_ble_eq_true rfl) (Nat.le_of_ble_eq_true rfl) dL_slot_16
set_option maxHeartbeats 4000000 in
set_option maxRecDepth 100000 in
theorem er_L_slot (l : Launch) (htr : l.stackTraces = false) (D : va_G) (Z : Nat → ClassId) (o : Nat) (a b : Nat → Nat) (S T : RS) (q : Nat) (f : Nat → Int64) (p1 : Int32) (E : String) (k : Int32) (hf : f_X1_slot S T p1 = some (.error E)) (hk : (E = "java/lang/IndexOutOfBoundsException" ∧ k = 1)) : GWi l yL_slot wsL_slot rm_L_slot D Z yE [.ref o, .int p1, .ref q] (olw Z o a b S T q f) (olw Z o a b S T q f) k 1 6 := by
  refine GWi.ofH (cc := cL_slot) (nL := 4) (ret := (some .int)) (hh := [(0, 9, 12, 13)]) (by decide +kernel) rfl (Nat.le_of_ble_eq_true rfl) ?_
  intro p e s m below meth c A hC hT hE hA hP hK hD hS ls hl
  obtain ⟨hx, hb, hr, hml, hown, hts, hlk, -⟩ := hC
  have hown : s.vm.findClass RL = some m.cls := hown
  have hl : lv_has ls 4 [(0, .ref o), (1, .int p1), (2, .ref q)] := hl
  refine lv_aload_n hx hb dL_slot_0 rfl (lv_at hl 2 rfl) ?_
  refine lv_iconst (v := 0) hx hb dL_slot_1 (by decide) ?_
  refine lv_aload_n hx hb dL_slot_2 rfl (lv_at hl 0 rfl) ?_
  refine lv_iload_n hx hb dL_slot_3 rfl (lv_at hl 1 rfl) ?_
  refine zx_run (z_VX (As := [.int p1]) (rest := [.int 0, .ref q]) (q0 := 0) (ci := 1) xE_ok hE.1 hS hA ⟨hx, hb, hml, hown, hts⟩ (er_X1_slot l htr D Z o a b S T p1 E hf) gL_slot_X1_slot rfl rfl rfl hdv_X1_slot ⟨Nat.le_of_ble_eq_true rfl, Nat.le_of_ble_eq_true rfl⟩ hK (hP.sub (ws' := owl Z o a b S T) [0, 1, 2, 3, 4, 5, 6, 7, 8, 9, 10, 11, 12, 13, 14, 15, 16, 17, 18, 19, 20, 21, 22, 23, 24] rfl) (hD.sub (ws' := owl Z o a b S T) [0, 1, 2, 3, 4, 5, 6, 7, 8, 9, 10, 11, 12, 13, 14, 15, 16, 17, 18, 19, 20, 21, 22, 23, 24] (by decide) rfl) rfl rfl rfl rfl hl.1 rfl (Nat.le_of_ble_eq_true rfl) dL_slot_4 ⟨Nat.le_of_ble_eq_true rfl, Nat.le_of_ble_eq_true rfl⟩) hP hS hA (fun q9 ce H locs hP hS hce hcv hcl => ?_)
  obtain ⟨rfl, rfl⟩ := hk
  refine vx_catch (own := RL) (name := "java/lang/IndexOutOfBoundsException") (E := "java/lang/IndexOutOfBoundsException") hown [] (⟨0, 9, 12, 13⟩ : ExceptionTableEntry) [] (hT.trans rfl) (fun z hz => nomatch hz) (by decide) (by decide) (hts (.classLink RL 13 "java/lang/IndexOutOfBoundsException") (List.mem_of_getElem? (i := 1) rfl)) (va_Nw.use rfl (hE.1.2.2.2.2.2.1 _ (List.mem_of_getElem? (i := 1) rfl))) hce hcv hcl ?_
  refine lv_astore_n (lv' := [(3, .ref q9), (0, .ref o), (1, .int p1), (2, .ref q)]) hx hb dL_slot_12 rfl hl (by decide) rfl (fun ls hl => ?_)
  refine lv_iconst (v := 1) hx hb dL_slot_13 (by decide) ?_
  exact zw_i hx hb hr hlk hP hD hS rfl rfl (Nat.le_of_ble_eq_true rfl) (Nat.le_of_ble_eq_true rfl) dL_slot_14
abbrev rm_L_count : Room := { frames := 8, cells := 1, slots := 6, locals := 134 }
theorem hds_L_count : yL_count.cls ≠ "java/lang/invoke/MethodHandle" ∧ yL_count.cls ≠ "java/lang/invoke/VarHandle" ∧ (parseMethodDescriptor yL_count.desc).map (fun d => d.parameters.length) = some 3 := by decide +kernel
set_option maxHeartbeats 4000000 in
set_option maxRecDepth 100000 in
theorem ok_L_count (l : Launch) (D : va_G) (Z : Nat → ClassId) (o : Nat) (a b : Nat → Nat) (S T : RS) (q : Nat) (f : Nat → Int64) (p1 : Int32) (r : Int32) (hf : f_X1_count S T p1 = some (.ok r)) : GWi l yL_count wsL_count rm_L_count D Z yE [.ref o, .int p1, .ref q] (olw Z o a b S T q f) (olw Z o a b S T q (vp_updL f 0 r.toInt64)) 0 1 6 := by
  refine GWi.ofH (cc := cL_count) (nL := 4) (ret := (some .int)) (hh := [(0, 9, 12, 13)]) (by decide +kernel) rfl (Nat.le_of_ble_eq_true rfl) ?_
  intro p e s m below meth c A hC hT hE hA hP hK hD hS ls hl
  obtain ⟨hx, hb, hr, hml, hown, hts, hlk, -⟩ := hC
  have hown : s.vm.findClass RL = some m.cls := hown
  have hl : lv_has ls 4 [(0, .ref o), (1, .int p1), (2, .ref q)] := hl
  refine lv_aload_n hx hb dL_count_0 rfl (lv_at hl 2 rfl) ?_
  refine lv_iconst (v := 0) hx hb dL_count_1 (by decide) ?_
  refine lv_aload_n hx hb dL_count_2 rfl (lv_at hl 0 rfl) ?_
  refine lv_iload_n hx hb dL_count_3 rfl (lv_at hl 1 rfl) ?_
  refine zc_i (z_VG (As := [.int p1]) (rest := [.int 0, .ref q]) (q0 := 0) (ci := 1) xE_ok hE.1 hS hA ⟨hx, hb, hml, hown, hts⟩ (ok_X1_count l D Z o a b S T p1 r  hf) gL_count_X1_count rfl rfl rfl hdv_X1_count ⟨Nat.le_of_ble_eq_true rfl, Nat.le_of_ble_eq_true rfl⟩ hK (hP.sub (ws' := owl Z o a b S T) [0, 1, 2, 3, 4, 5, 6, 7, 8, 9, 10, 11, 12, 13, 14, 15, 16, 17, 18, 19, 20, 21, 22, 23, 24] rfl) (hD.sub (ws' := owl Z o a b S T) [0, 1, 2, 3, 4, 5, 6, 7, 8, 9, 10, 11, 12, 13, 14, 15, 16, 17, 18, 19, 20, 21, 22, 23, 24] (by decide) rfl) rfl rfl rfl rfl hl.1 rfl (Nat.le_of_ble_eq_true rfl) dL_count_4 ⟨Nat.le_of_ble_eq_true rfl, Nat.le_of_ble_eq_true rfl⟩) hP hS hA (fun H locs hP hS => ?_)
  refine lv_i2l hx hb dL_count_7 rfl ?_
  refine va_last hx hb hK hP hD hS 25 1 rfl rfl (vp_in_lit (by decide)) dL_count_8 (fun H locs hP hD hS => ?_)
  have hP : va_P D vwCl (olw Z o a b S T q (vp_updL f 0 r.toInt64)) H := hP
  have hD : va_D A (olw Z o a b S T q (vp_updL f 0 r.toInt64)) := hD
  refine lv_goto (tgt := 15) hx hb dL_count_9 (by decide) ?_
  refine lv_iconst (v := 0) hx hb dL_count_15 (by decide) ?_
  exact zw_i hx hb hr hlk hP hD hS rfl rfl (Nat.le_of_ble_eq_true rfl) (Nat.le_of_ble_eq_true rfl) dL_count_16
set_option maxHeartbeats 4000000 in
set_option maxRecDepth 100000 in
theorem er_L_count (l : Launch) (htr : l.stackTraces = false) (D : va_G) (Z : Nat → ClassId) (o : Nat) (a b : Nat → Nat) (S T : RS) (q : Nat) (f : Nat → Int64) (p1 : Int32) (E : String) (k : Int32) (hf : f_X1_count S T p1 = some (.error E)) (hk : (E = "java/lang/IndexOutOfBoundsException" ∧ k = 1)) : GWi l yL_count wsL_count rm_L_count D Z yE [.ref o, .int p1, .ref q] (olw Z o a b S T q f) (olw Z o a b S T q f) k 1 6 := by
  refine GWi.ofH (cc := cL_count) (nL := 4) (ret := (some .int)) (hh := [(0, 9, 12, 13)]) (by decide +kernel) rfl (Nat.le_of_ble_eq_true rfl) ?_
  intro p e s m below meth c A hC hT hE hA hP hK hD hS ls hl
  obtain ⟨hx, hb, hr, hml, hown, hts, hlk, -⟩ := hC
  have hown : s.vm.findClass RL = some m.cls := hown
  have hl : lv_has ls 4 [(0, .ref o), (1, .int p1), (2, .ref q)] := hl
  refine lv_aload_n hx hb dL_count_0 rfl (lv_at hl 2 rfl) ?_
  refine lv_iconst (v := 0) hx hb dL_count_1 (by decide) ?_
  refine lv_aload_n hx hb dL_count_2 rfl (lv_at hl 0 rfl) ?_
  refine lv_iload_n hx hb dL_count_3 rfl (lv_at hl 1 rfl) ?_
  refine zx_run (z_VX (As := [.int p1]) (rest := [.int 0, .ref q]) (q0 := 0) (ci := 1) xE_ok hE.1 hS hA ⟨hx, hb, hml, hown, hts⟩ (er_X1_count l htr D Z o a b S T p1 E hf) gL_count_X1_count rfl rfl rfl hdv_X1_count ⟨Nat.le_of_ble_eq_true rfl, Nat.le_of_ble_eq_true rfl⟩ hK (hP.sub (ws' := owl Z o a b S T) [0, 1, 2, 3, 4, 5, 6, 7, 8, 9, 10, 11, 12, 13, 14, 15, 16, 17, 18, 19, 20, 21, 22, 23, 24] rfl) (hD.sub (ws' := owl Z o a b S T) [0, 1, 2, 3, 4, 5, 6, 7, 8, 9, 10, 11, 12, 13, 14, 15, 16, 17, 18, 19, 20, 21, 22, 23, 24] (by decide) rfl) rfl rfl rfl rfl hl.1 rfl (Nat.le_of_ble_eq_true rfl) dL_count_4 ⟨Nat.le_of_ble_eq_true rfl, Nat.le_of_ble_eq_true rfl⟩) hP hS hA (fun q9 ce H locs hP hS hce hcv hcl => ?_)
  obtain ⟨rfl, rfl⟩ := hk
  refine vx_catch (own := RL) (name := "java/lang/IndexOutOfBoundsException") (E := "java/lang/IndexOutOfBoundsException") hown [] (⟨0, 9, 12, 13⟩ : ExceptionTableEntry) [] (hT.trans rfl) (fun z hz => nomatch hz) (by decide) (by decide) (hts (.classLink RL 13 "java/lang/IndexOutOfBoundsException") (List.mem_of_getElem? (i := 1) rfl)) (va_Nw.use rfl (hE.1.2.2.2.2.2.1 _ (List.mem_of_getElem? (i := 1) rfl))) hce hcv hcl ?_
  refine lv_astore_n (lv' := [(3, .ref q9), (0, .ref o), (1, .int p1), (2, .ref q)]) hx hb dL_count_12 rfl hl (by decide) rfl (fun ls hl => ?_)
  refine lv_iconst (v := 1) hx hb dL_count_13 (by decide) ?_
  exact zw_i hx hb hr hlk hP hD hS rfl rfl (Nat.le_of_ble_eq_true rfl) (Nat.le_of_ble_eq_true rfl) dL_count_14
abbrev rm_L_pass : Room := { frames := 8, cells := 1, slots := 6, locals := 158 }
theorem hds_L_pass : yL_pass.cls ≠ "java/lang/invoke/MethodHandle" ∧ yL_pass.cls ≠ "java/lang/invoke/VarHandle" ∧ (parseMethodDescriptor yL_pass.desc).map (fun d => d.parameters.length) = some 3 := by decide +kernel
set_option maxHeartbeats 4000000 in
set_option maxRecDepth 100000 in
theorem ok_L_pass (l : Launch) (D : va_G) (Z : Nat → ClassId) (o : Nat) (a b : Nat → Nat) (S T : RS) (q : Nat) (f : Nat → Int64) (p1 : Int32) (r : Int32) (S' T' : RS) (hf : f_X1_pass S T p1 = some (.ok (r, S', T'))) : GWi l yL_pass wsL_pass rm_L_pass D Z yE [.ref o, .int p1, .ref q] (olw Z o a b S T q f) (olw Z o a b S' T' q (vp_updL f 0 r.toInt64)) 0 1 6 := by
  refine GWi.ofH (cc := cL_pass) (nL := 4) (ret := (some .int)) (hh := [(0, 9, 12, 24)]) (by decide +kernel) rfl (Nat.le_of_ble_eq_true rfl) ?_
  intro p e s m below meth c A hC hT hE hA hP hK hD hS ls hl
  obtain ⟨hx, hb, hr, hml, hown, hts, hlk, -⟩ := hC
  have hown : s.vm.findClass RL = some m.cls := hown
  have hl : lv_has ls 4 [(0, .ref o), (1, .int p1), (2, .ref q)] := hl
  refine lv_aload_n hx hb dL_pass_0 rfl (lv_at hl 2 rfl) ?_
  refine lv_iconst (v := 0) hx hb dL_pass_1 (by decide) ?_
  refine lv_aload_n hx hb dL_pass_2 rfl (lv_at hl 0 rfl) ?_
  refine lv_iload_n hx hb dL_pass_3 rfl (lv_at hl 1 rfl) ?_
  refine zc_mi zI_out (z_VG (As := [.int p1]) (rest := [.int 0, .ref q]) (q0 := 0) (ci := 1) xE_ok hE.1 hS hA ⟨hx, hb, hml, hown, hts⟩ (ok_X1_pass l D Z o a b S T p1 r S' T' hf) gL_pass_X1_pass rfl rfl rfl hdv_X1_pass ⟨Nat.le_of_ble_eq_true rfl, Nat.le_of_ble_eq_true rfl⟩ hK (hP.sub (ws' := owl Z o a b S T) [0, 1, 2, 3, 4, 5, 6, 7, 8, 9, 10, 11, 12, 13, 14, 15, 16, 17, 18, 19, 20, 21, 22, 23, 24] rfl) (hD.sub (ws' := owl Z o a b S T) [0, 1, 2, 3, 4, 5, 6, 7, 8, 9, 10, 11, 12, 13, 14, 15, 16, 17, 18, 19, 20, 21, 22, 23, 24] (by decide) rfl) rfl rfl rfl rfl hl.1 rfl (Nat.le_of_ble_eq_true rfl) dL_pass_4 ⟨Nat.le_of_ble_eq_true rfl, Nat.le_of_ble_eq_true rfl⟩) hP hD hS hA (fun H locs hP hD hS => ?_)
  refine lv_i2l hx hb dL_pass_7 rfl ?_
  refine va_last hx hb hK hP hD hS 25 1 rfl rfl (vp_in_lit (by decide)) dL_pass_8 (fun H locs hP hD hS => ?_)
  have hP : va_P D vwCl (olw Z o a b S' T' q (vp_updL f 0 r.toInt64)) H := hP
  have hD : va_D A (olw Z o a b S' T' q (vp_updL f 0 r.toInt64)) := hD
  refine lv_goto (tgt := 15) hx hb dL_pass_9 (by decide) ?_
  refine lv_iconst (v := 0) hx hb dL_pass_15 (by decide) ?_
  exact zw_i hx hb hr hlk hP hD hS rfl rfl (Nat.le_of_ble_eq_true rfl) (Nat.le_of_ble_eq_true rfl) dL_pass_16
set_option maxHeartbeats 4000000 in
set_option maxRecDepth 100000 in
theorem er_L_pass (l : Launch) (htr : l.stackTraces = false) (D : va_G) (Z : Nat → ClassId) (o : Nat) (a b : Nat → Nat) (S T : RS) (q : Nat) (f : Nat → Int64) (p1 : Int32) (E : String) (k : Int32) (hf : f_X1_pass S T p1 = some (.error E)) (hk : (E = "java/lang/IllegalArgumentException" ∧ k = 1)) : GWi l yL_pass wsL_pass rm_L_pass D Z yE [.ref o, .int p1, .ref q] (olw Z o a b S T q f) (olw Z o a b S T q f) k 1 6 := by
  refine GWi.ofH (cc := cL_pass) (nL := 4) (ret := (some .int)) (hh := [(0, 9, 12, 24)]) (by decide +kernel) rfl (Nat.le_of_ble_eq_true rfl) ?_
  intro p e s m below meth c A hC hT hE hA hP hK hD hS ls hl
  obtain ⟨hx, hb, hr, hml, hown, hts, hlk, -⟩ := hC
  have hown : s.vm.findClass RL = some m.cls := hown
  have hl : lv_has ls 4 [(0, .ref o), (1, .int p1), (2, .ref q)] := hl
  refine lv_aload_n hx hb dL_pass_0 rfl (lv_at hl 2 rfl) ?_
  refine lv_iconst (v := 0) hx hb dL_pass_1 (by decide) ?_
  refine lv_aload_n hx hb dL_pass_2 rfl (lv_at hl 0 rfl) ?_
  refine lv_iload_n hx hb dL_pass_3 rfl (lv_at hl 1 rfl) ?_
  refine zx_run (z_VX (As := [.int p1]) (rest := [.int 0, .ref q]) (q0 := 0) (ci := 1) xE_ok hE.1 hS hA ⟨hx, hb, hml, hown, hts⟩ (er_X1_pass l htr D Z o a b S T p1 E hf) gL_pass_X1_pass rfl rfl rfl hdv_X1_pass ⟨Nat.le_of_ble_eq_true rfl, Nat.le_of_ble_eq_true rfl⟩ hK (hP.sub (ws' := owl Z o a b S T) [0, 1, 2, 3, 4, 5, 6, 7, 8, 9, 10, 11, 12, 13, 14, 15, 16, 17, 18, 19, 20, 21, 22, 23, 24] rfl) (hD.sub (ws' := owl Z o a b S T) [0, 1, 2, 3, 4, 5, 6, 7, 8, 9, 10, 11, 12, 13, 14, 15, 16, 17, 18, 19, 20, 21, 22, 23, 24] (by decide) rfl) rfl rfl rfl rfl hl.1 rfl (Nat.le_of_ble_eq_true rfl) dL_pass_4 ⟨Nat.le_of_ble_eq_true rfl, Nat.le_of_ble_eq_true rfl⟩) hP hS hA (fun q9 ce H locs hP hS hce hcv hcl => ?_)
  obtain ⟨rfl, rfl⟩ := hk
  refine vx_catch (own := RL) (name := "java/lang/IllegalArgumentException") (E := "java/lang/IllegalArgumentException") hown [] (⟨0, 9, 12, 24⟩ : ExceptionTableEntry) [] (hT.trans rfl) (fun z hz => nomatch hz) (by decide) (by decide) (hts (.classLink RL 24 "java/lang/IllegalArgumentException") (List.mem_of_getElem? (i := 1) rfl)) (va_Nw.use rfl (hE.1.2.2.2.2.2.1 _ (List.mem_of_getElem? (i := 2) rfl))) hce hcv hcl ?_
  refine lv_astore_n (lv' := [(3, .ref q9), (0, .ref o), (1, .int p1), (2, .ref q)]) hx hb dL_pass_12 rfl hl (by decide) rfl (fun ls hl => ?_)
  refine lv_iconst (v := 1) hx hb dL_pass_13 (by decide) ?_
  exact zw_i hx hb hr hlk hP hD hS rfl rfl (Nat.le_of_ble_eq_true rfl) (Nat.le_of_ble_eq_true rfl) dL_pass_14
abbrev rm_L_when : Room := { frames := 8, cells := 1, slots := 6, locals := 158 }
theorem hds_L_when : yL_when.cls ≠ "java/lang/invoke/MethodHandle" ∧ yL_when.cls ≠ "java/lang/invoke/VarHandle" ∧ (parseMethodDescriptor yL_when.desc).map (fun d => d.parameters.length) = some 3 := by decide +kernel
set_option maxHeartbeats 4000000 in
set_option maxRecDepth 100000 in
theorem ok_L_when (l : Launch) (D : va_G) (Z : Nat → ClassId) (o : Nat) (a b : Nat → Nat) (S T : RS) (q : Nat) (f : Nat → Int64) (p1 : Int32) (r : Int32) (S' T' : RS) (hf : f_X1_when S T p1 = some (.ok (r, S', T'))) : GWi l yL_when wsL_when rm_L_when D Z yE [.ref o, .int p1, .ref q] (olw Z o a b S T q f) (olw Z o a b S' T' q (vp_updL f 0 r.toInt64)) 0 1 6 := by
  refine GWi.ofH (cc := cL_when) (nL := 4) (ret := (some .int)) (hh := [(0, 9, 12, 13)]) (by decide +kernel) rfl (Nat.le_of_ble_eq_true rfl) ?_
  intro p e s m below meth c A hC hT hE hA hP hK hD hS ls hl
  obtain ⟨hx, hb, hr, hml, hown, hts, hlk, -⟩ := hC
  have hown : s.vm.findClass RL = some m.cls := hown
  have hl : lv_has ls 4 [(0, .ref o), (1, .int p1), (2, .ref q)] := hl
  refine lv_aload_n hx hb dL_when_0 rfl (lv_at hl 2 rfl) ?_
  refine lv_iconst (v := 0) hx hb dL_when_1 (by decide) ?_
  refine lv_aload_n hx hb dL_when_2 rfl (lv_at hl 0 rfl) ?_
  refine lv_iload_n hx hb dL_when_3 rfl (lv_at hl 1 rfl) ?_
  refine zc_mi zI_out (z_VG (As := [.int p1]) (rest := [.int 0, .ref q]) (q0 := 0) (ci := 1) xE_ok hE.1 hS hA ⟨hx, hb, hml, hown, hts⟩ (ok_X1_when l D Z o a b S T p1 r S' T' hf) gL_when_X1_when rfl rfl rfl hdv_X1_when ⟨Nat.le_of_ble_eq_true rfl, Nat.le_of_ble_eq_true rfl⟩ hK (hP.sub (ws' := owl Z o a b S T) [0, 1, 2, 3, 4, 5, 6, 7, 8, 9, 10, 11, 12, 13, 14, 15, 16, 17, 18, 19, 20, 21, 22, 23, 24] rfl) (hD.sub (ws' := owl Z o a b S T) [0, 1, 2, 3, 4, 5, 6, 7, 8, 9, 10, 11, 12, 13, 14, 15, 16, 17, 18, 19, 20, 21, 22, 23, 24] (by decide) rfl) rfl rfl rfl rfl hl.1 rfl (Nat.le_of_ble_eq_true rfl) dL_when_4 ⟨Nat.le_of_ble_eq_true rfl, Nat.le_of_ble_eq_true rfl⟩) hP hD hS hA (fun H locs hP hD hS => ?_)
  refine lv_i2l hx hb dL_when_7 rfl ?_
  refine va_last hx hb hK hP hD hS 25 1 rfl rfl (vp_in_lit (by decide)) dL_when_8 (fun H locs hP hD hS => ?_)
  have hP : va_P D vwCl (olw Z o a b S' T' q (vp_updL f 0 r.toInt64)) H := hP
  have hD : va_D A (olw Z o a b S' T' q (vp_updL f 0 r.toInt64)) := hD
  refine lv_goto (tgt := 15) hx hb dL_when_9 (by decide) ?_
  refine lv_iconst (v := 0) hx hb dL_when_15 (by decide) ?_
  exact zw_i hx hb hr hlk hP hD hS rfl rfl (Nat.le_of_ble_eq_true rfl) (Nat.le_of_ble_eq_true rfl) dL_when_16
set_option maxHeartbeats 4000000 in
set_option maxRecDepth 100000 in
theorem er_L_when (l : Launch) (htr : l.stackTraces = false) (D : va_G) (Z : Nat → ClassId) (o : Nat) (a b : Nat → Nat) (S T : RS) (q : Nat) (f : Nat → Int64) (p1 : Int32) (E : String) (k : Int32) (hf : f_X1_when S T p1 = some (.error E)) (hk : (E = "java/lang/IndexOutOfBoundsException" ∧ k = 1)) : GWi l yL_when wsL_when rm_L_when D Z yE [.ref o, .int p1, .ref q] (olw Z o a b S T q f) (olw Z o a b S T q f) k 1 6 := by
  refine GWi.ofH (cc := cL_when) (nL := 4) (ret := (some .int)) (hh := [(0, 9, 12, 13)]) (by decide +kernel) rfl (Nat.le_of_ble_eq_true rfl) ?_
  intro p e s m below meth c A hC hT hE hA hP hK hD hS ls hl
  obtain ⟨hx, hb, hr, hml, hown, hts, hlk, -⟩ := hC
  have hown : s.vm.findClass RL = some m.cls := hown
  have hl : lv_has ls 4 [(0, .ref o), (1, .int p1), (2, .ref q)] := hl
  refine lv_aload_n hx hb dL_when_0 rfl (lv_at hl 2 rfl) ?_
  refine lv_iconst (v := 0) hx hb dL_when_1 (by decide) ?_
  refine lv_aload_n hx hb dL_when_2 rfl (lv_at hl 0 rfl) ?_
  refine lv_iload_n hx hb dL_when_3 rfl (lv_at hl 1 rfl) ?_
  refine zx_run (z_VX (As := [.int p1]) (rest := [.int 0, .ref q]) (q0 := 0) (ci := 1) xE_ok hE.1 hS hA ⟨hx, hb, hml, hown, hts⟩ (er_X1_when l htr D Z o a b S T p1 E hf) gL_when_X1_when rfl rfl rfl hdv_X1_when ⟨Nat.le_of_ble_eq_true rfl, Nat.le_of_ble_eq_true rfl⟩ hK (hP.sub (ws' := owl Z o a b S T) [0, 1, 2, 3, 4, 5, 6, 7, 8, 9, 10, 11, 12, 13, 14, 15, 16, 17, 18, 19, 20, 21, 22, 23, 24] rfl) (hD.sub (ws' := owl Z o a b S T) [0, 1, 2, 3, 4, 5, 6, 7, 8, 9, 10, 11, 12, 13, 14, 15, 16, 17, 18, 19, 20, 21, 22, 23, 24] (by decide) rfl) rfl rfl rfl rfl hl.1 rfl (Nat.le_of_ble_eq_true rfl) dL_when_4 ⟨Nat.le_of_ble_eq_true rfl, Nat.le_of_ble_eq_true rfl⟩) hP hS hA (fun q9 ce H locs hP hS hce hcv hcl => ?_)
  obtain ⟨rfl, rfl⟩ := hk
  refine vx_catch (own := RL) (name := "java/lang/IndexOutOfBoundsException") (E := "java/lang/IndexOutOfBoundsException") hown [] (⟨0, 9, 12, 13⟩ : ExceptionTableEntry) [] (hT.trans rfl) (fun z hz => nomatch hz) (by decide) (by decide) (hts (.classLink RL 13 "java/lang/IndexOutOfBoundsException") (List.mem_of_getElem? (i := 1) rfl)) (va_Nw.use rfl (hE.1.2.2.2.2.2.1 _ (List.mem_of_getElem? (i := 1) rfl))) hce hcv hcl ?_
  refine lv_astore_n (lv' := [(3, .ref q9), (0, .ref o), (1, .int p1), (2, .ref q)]) hx hb dL_when_12 rfl hl (by decide) rfl (fun ls hl => ?_)
  refine lv_iconst (v := 1) hx hb dL_when_13 (by decide) ?_
  exact zw_i hx hb hr hlk hP hD hS rfl rfl (Nat.le_of_ble_eq_true rfl) (Nat.le_of_ble_eq_true rfl) dL_when_14
abbrev rm_L_takes : Room := { frames := 9, cells := 1, slots := 6, locals := 159 }
theorem hds_L_takes : yL_takes.cls ≠ "java/lang/invoke/MethodHandle" ∧ yL_takes.cls ≠ "java/lang/invoke/VarHandle" ∧ (parseMethodDescriptor yL_takes.desc).map (fun d => d.parameters.length) = some 4 := by decide +kernel
set_option maxHeartbeats 4000000 in
set_option maxRecDepth 100000 in
theorem ok_L_takes (l : Launch) (D : va_G) (Z : Nat → ClassId) (o : Nat) (a b : Nat → Nat) (S T : RS) (q : Nat) (f : Nat → Int64) (p1 : Int32) (p2 : Int32) (r : Int32) (S' T' : RS) (hf : f_X1_takes S T p1 p2 = some (.ok (r, S', T'))) : GWi l yL_takes wsL_takes rm_L_takes D Z yE [.ref o, .int p1, .int p2, .ref q] (olw Z o a b S T q f) (olw Z o a b S' T' q (vp_updL f 0 r.toInt64)) 0 1 6 := by
  refine GWi.ofH (cc := cL_takes) (nL := 5) (ret := (some .int)) (hh := [(0, 10, 13, 13), (0, 10, 17, 24)]) (by decide +kernel) rfl (Nat.le_of_ble_eq_true rfl) ?_
  intro p e s m below meth c A hC hT hE hA hP hK hD hS ls hl
  obtain ⟨hx, hb, hr, hml, hown, hts, hlk, -⟩ := hC
  have hown : s.vm.findClass RL = some m.cls := hown
  have hl : lv_has ls 5 [(0, .ref o), (1, .int p1), (2, .int p2), (3, .ref q)] := hl
  refine lv_aload_n hx hb dL_takes_0 rfl (lv_at hl 3 rfl) ?_
  refine lv_iconst (v := 0) hx hb dL_takes_1 (by decide) ?_
  refine lv_aload_n hx hb dL_takes_2 rfl (lv_at hl 0 rfl) ?_
  refine lv_iload_n hx hb dL_takes_3 rfl (lv_at hl 1 rfl) ?_
  refine lv_iload_n hx hb dL_takes_4 rfl (lv_at hl 2 rfl) ?_
  refine zc_mi zI_out (z_VG (As := [.int p1, .int p2]) (rest := [.int 0, .ref q]) (q0 := 0) (ci := 1) xE_ok hE.1 hS hA ⟨hx, hb, hml, hown, hts⟩ (ok_X1_takes l D Z o a b S T p1 p2 r S' T' hf) gL_takes_X1_takes rfl rfl rfl hdv_X1_takes ⟨Nat.le_of_ble_eq_true rfl, Nat.le_of_ble_eq_true rfl⟩ hK (hP.sub (ws' := owl Z o a b S T) [0, 1, 2, 3, 4, 5, 6, 7, 8, 9, 10, 11, 12, 13, 14, 15, 16, 17, 18, 19, 20, 21, 22, 23, 24] rfl) (hD.sub (ws' := owl Z o a b S T) [0, 1, 2, 3, 4, 5, 6, 7, 8, 9, 10, 11, 12, 13, 14, 15, 16, 17, 18, 19, 20, 21, 22, 23, 24] (by decide) rfl) rfl rfl rfl rfl hl.1 rfl (Nat.le_of_ble_eq_true rfl) dL_takes_5 ⟨Nat.le_of_ble_eq_true rfl, Nat.le_of_ble_eq_true rfl⟩) hP hD hS hA (fun H locs hP hD hS => ?_)
  refine lv_i2l hx hb dL_takes_8 rfl ?_
  refine va_last hx hb hK hP hD hS 25 1 rfl rfl (vp_in_lit (by decide)) dL_takes_9 (fun H locs hP hD hS => ?_)
  have hP : va_P D vwCl (olw Z o a b S' T' q (vp_updL f 0 r.toInt64)) H := hP
  have hD : va_D A (olw Z o a b S' T' q (vp_updL f 0 r.toInt64)) := hD
  refine lv_goto (tgt := 21) hx hb dL_takes_10 (by decide) ?_
  refine lv_iconst (v := 0) hx hb dL_takes_21 (by decide) ?_
  exact zw_i hx hb hr hlk hP hD hS rfl rfl (Nat.le_of_ble_eq_true rfl) (Nat.le_of_ble_eq_true rfl) dL_takes_22
set_option maxHeartbeats 4000000 in
set_option maxRecDepth 100000 in
theorem er_L_takes (l : Launch) (htr : l.stackTraces = false) (D : va_G) (Z : Nat → ClassId) (o : Nat) (a b : Nat → Nat) (S T : RS) (q : Nat) (f : Nat → Int64) (p1 : Int32) (p2 : Int32) (E : String) (k : Int32) (hf : f_X1_takes S T p1 p2 = some (.error E)) (hk : (E = "java/lang/IndexOutOfBoundsException" ∧ k = 1) ∨ (E = "java/lang/IllegalArgumentException" ∧ k = 2)) : GWi l yL_takes wsL_takes rm_L_takes D Z yE [.ref o, .int p1, .int p2, .ref q] (olw Z o a b S T q f) (olw Z o a b S T q f) k 1 6 := by
  refine GWi.ofH (cc := cL_takes) (nL := 5) (ret := (some .int)) (hh := [(0, 10, 13, 13), (0, 10, 17, 24)]) (by decide +kernel) rfl (Nat.le_of_ble_eq_true rfl) ?_
  intro p e s m below meth c A hC hT hE hA hP hK hD hS ls hl
  obtain ⟨hx, hb, hr, hml, hown, hts, hlk, -⟩ := hC
  have hown : s.vm.findClass RL = some m.cls := hown
  have hl : lv_has ls 5 [(0, .ref o), (1, .int p1), (2, .int p2), (3, .ref q)] := hl
  refine lv_aload_n hx hb dL_takes_0 rfl (lv_at hl 3 rfl) ?_
  refine lv_iconst (v := 0) hx hb dL_takes_1 (by decide) ?_
  refine lv_aload_n hx hb dL_takes_2 rfl (lv_at hl 0 rfl) ?_
  refine lv_iload_n hx hb dL_takes_3 rfl (lv_at hl 1 rfl) ?_
  refine lv_iload_n hx hb dL_takes_4 rfl (lv_at hl 2 rfl) ?_
  refine zx_run (z_VX (As := [.int p1, .int p2]) (rest := [.int 0, .ref q]) (q0 := 0) (ci := 1) xE_ok hE.1 hS hA ⟨hx, hb, hml, hown, hts⟩ (er_X1_takes l htr D Z o a b S T p1 p2 E hf) gL_takes_X1_takes rfl rfl rfl hdv_X1_takes ⟨Nat.le_of_ble_eq_true rfl, Nat.le_of_ble_eq_true rfl⟩ hK (hP.sub (ws' := owl Z o a b S T) [0, 1, 2, 3, 4, 5, 6, 7, 8, 9, 10, 11, 12, 13, 14, 15, 16, 17, 18, 19, 20, 21, 22, 23, 24] rfl) (hD.sub (ws' := owl Z o a b S T) [0, 1, 2, 3, 4, 5, 6, 7, 8, 9, 10, 11, 12, 13, 14, 15, 16, 17, 18, 19, 20, 21, 22, 23, 24] (by decide) rfl) rfl rfl rfl rfl hl.1 rfl (Nat.le_of_ble_eq_true rfl) dL_takes_5 ⟨Nat.le_of_ble_eq_true rfl, Nat.le_of_ble_eq_true rfl⟩) hP hS hA (fun q9 ce H locs hP hS hce hcv hcl => ?_)
  rcases hk with ⟨rfl, rfl⟩ | hk
  · skip
    refine vx_catch (own := RL) (name := "java/lang/IndexOutOfBoundsException") (E := "java/lang/IndexOutOfBoundsException") hown [] (⟨0, 10, 13, 13⟩ : ExceptionTableEntry) [(⟨0, 10, 17, 24⟩ : ExceptionTableEntry)] (hT.trans rfl) (fun z hz => nomatch hz) (by decide) (by decide) (hts (.classLink RL 13 "java/lang/IndexOutOfBoundsException") (List.mem_of_getElem? (i := 1) rfl)) (va_Nw.use rfl (hE.1.2.2.2.2.2.1 _ (List.mem_of_getElem? (i := 1) rfl))) hce hcv hcl ?_
    refine lv_astore (lv' := [(4, .ref q9), (0, .ref o), (1, .int p1), (2, .int p2), (3, .ref q)]) hx hb dL_takes_13 hl (by decide) rfl (fun ls hl => ?_)
    refine lv_iconst (v := 1) hx hb dL_takes_15 (by decide) ?_
    exact zw_i hx hb hr hlk hP hD hS rfl rfl (Nat.le_of_ble_eq_true rfl) (Nat.le_of_ble_eq_true rfl) dL_takes_16
  · obtain ⟨rfl, rfl⟩ := hk
    refine vx_catch (own := RL) (name := "java/lang/IllegalArgumentException") (E := "java/lang/IllegalArgumentException") hown [(⟨0, 10, 13, 13⟩ : ExceptionTableEntry)] (⟨0, 10, 17, 24⟩ : ExceptionTableEntry) [] (hT.trans rfl) (fun z hz => (List.mem_cons.mp hz).elim (fun h => by subst h; exact Or.inr ⟨by decide, "java/lang/IndexOutOfBoundsException", hts (.classLink RL 13 "java/lang/IndexOutOfBoundsException") (List.mem_of_getElem? (i := 1) rfl), hE.2 _ (List.mem_of_getElem? (i := 1) rfl)⟩) (fun hz => nomatch hz)) (by decide) (by decide) (hts (.classLink RL 24 "java/lang/IllegalArgumentException") (List.mem_of_getElem? (i := 2) rfl)) (va_Nw.use rfl (hE.1.2.2.2.2.2.1 _ (List.mem_of_getElem? (i := 2) rfl))) hce hcv hcl ?_
    refine lv_astore (lv' := [(4, .ref q9), (0, .ref o), (1, .int p1), (2, .int p2), (3, .ref q)]) hx hb dL_takes_17 hl (by decide) rfl (fun ls hl => ?_)
    refine lv_iconst (v := 2) hx hb dL_takes_19 (by decide) ?_
    exact zw_i hx hb hr hlk hP hD hS rfl rfl (Nat.le_of_ble_eq_true rfl) (Nat.le_of_ble_eq_true rfl) dL_takes_20
abbrev rm_L_answers : Room := { frames := 8, cells := 1, slots := 6, locals := 132 }
theorem hds_L_answers : yL_answers.cls ≠ "java/lang/invoke/MethodHandle" ∧ yL_answers.cls ≠ "java/lang/invoke/VarHandle" ∧ (parseMethodDescriptor yL_answers.desc).map (fun d => d.parameters.length) = some 3 := by decide +kernel
set_option maxHeartbeats 4000000 in
set_option maxRecDepth 100000 in
theorem ok_L_answers (l : Launch) (D : va_G) (Z : Nat → ClassId) (o : Nat) (a b : Nat → Nat) (S T : RS) (q : Nat) (f : Nat → Int64) (p1 : Int32) (r : Int32) (hf : f_X1_answers S T p1 = some (.ok r)) : GWi l yL_answers wsL_answers rm_L_answers D Z yE [.ref o, .int p1, .ref q] (olw Z o a b S T q f) (olw Z o a b S T q (vp_updL f 0 r.toInt64)) 0 1 6 := by
  refine GWi.ofH (cc := cL_answers) (nL := 4) (ret := (some .int)) (hh := [(0, 9, 12, 13)]) (by decide +kernel) rfl (Nat.le_of_ble_eq_true rfl) ?_
  intro p e s m below meth c A hC hT hE hA hP hK hD hS ls hl
  obtain ⟨hx, hb, hr, hml, hown, hts, hlk, -⟩ := hC
  have hown : s.vm.findClass RL = some m.cls := hown
  have hl : lv_has ls 4 [(0, .ref o), (1, .int p1), (2, .ref q)] := hl
  refine lv_aload_n hx hb dL_answers_0 rfl (lv_at hl 2 rfl) ?_
  refine lv_iconst (v := 0) hx hb dL_answers_1 (by decide) ?_
  refine lv_aload_n hx hb dL_answers_2 rfl (lv_at hl 0 rfl) ?_
  refine lv_iload_n hx hb dL_answers_3 rfl (lv_at hl 1 rfl) ?_
  refine zc_i (z_VG (As := [.int p1]) (rest := [.int 0, .ref q]) (q0 := 0) (ci := 1) xE_ok hE.1 hS hA ⟨hx, hb, hml, hown, hts⟩ (ok_X1_answers l D Z o a b S T p1 r  hf) gL_answers_X1_answers rfl rfl rfl hdv_X1_answers ⟨Nat.le_of_ble_eq_true rfl, Nat.le_of_ble_eq_true rfl⟩ hK (hP.sub (ws' := owl Z o a b S T) [0, 1, 2, 3, 4, 5, 6, 7, 8, 9, 10, 11, 12, 13, 14, 15, 16, 17, 18, 19, 20, 21, 22, 23, 24] rfl) (hD.sub (ws' := owl Z o a b S T) [0, 1, 2, 3, 4, 5, 6, 7, 8, 9, 10, 11, 12, 13, 14, 15, 16, 17, 18, 19, 20, 21, 22, 23, 24] (by decide) rfl) rfl rfl rfl rfl hl.1 rfl (Nat.le_of_ble_eq_true rfl) dL_answers_4 ⟨Nat.le_of_ble_eq_true rfl, Nat.le_of_ble_eq_true rfl⟩) hP hS hA (fun H locs hP hS => ?_)
  refine lv_i2l hx hb dL_answers_7 rfl ?_
  refine va_last hx hb hK hP hD hS 25 1 rfl rfl (vp_in_lit (by decide)) dL_answers_8 (fun H locs hP hD hS => ?_)
  have hP : va_P D vwCl (olw Z o a b S T q (vp_updL f 0 r.toInt64)) H := hP
  have hD : va_D A (olw Z o a b S T q (vp_updL f 0 r.toInt64)) := hD
  refine lv_goto (tgt := 15) hx hb dL_answers_9 (by decide) ?_
  refine lv_iconst (v := 0) hx hb dL_answers_15 (by decide) ?_
  exact zw_i hx hb hr hlk hP hD hS rfl rfl (Nat.le_of_ble_eq_true rfl) (Nat.le_of_ble_eq_true rfl) dL_answers_16
set_option maxHeartbeats 4000000 in
set_option maxRecDepth 100000 in
theorem er_L_answers (l : Launch) (htr : l.stackTraces = false) (D : va_G) (Z : Nat → ClassId) (o : Nat) (a b : Nat → Nat) (S T : RS) (q : Nat) (f : Nat → Int64) (p1 : Int32) (E : String) (k : Int32) (hf : f_X1_answers S T p1 = some (.error E)) (hk : (E = "java/lang/IndexOutOfBoundsException" ∧ k = 1)) : GWi l yL_answers wsL_answers rm_L_answers D Z yE [.ref o, .int p1, .ref q] (olw Z o a b S T q f) (olw Z o a b S T q f) k 1 6 := by
  refine GWi.ofH (cc := cL_answers) (nL := 4) (ret := (some .int)) (hh := [(0, 9, 12, 13)]) (by decide +kernel) rfl (Nat.le_of_ble_eq_true rfl) ?_
  intro p e s m below meth c A hC hT hE hA hP hK hD hS ls hl
  obtain ⟨hx, hb, hr, hml, hown, hts, hlk, -⟩ := hC
  have hown : s.vm.findClass RL = some m.cls := hown
  have hl : lv_has ls 4 [(0, .ref o), (1, .int p1), (2, .ref q)] := hl
  refine lv_aload_n hx hb dL_answers_0 rfl (lv_at hl 2 rfl) ?_
  refine lv_iconst (v := 0) hx hb dL_answers_1 (by decide) ?_
  refine lv_aload_n hx hb dL_answers_2 rfl (lv_at hl 0 rfl) ?_
  refine lv_iload_n hx hb dL_answers_3 rfl (lv_at hl 1 rfl) ?_
  refine zx_run (z_VX (As := [.int p1]) (rest := [.int 0, .ref q]) (q0 := 0) (ci := 1) xE_ok hE.1 hS hA ⟨hx, hb, hml, hown, hts⟩ (er_X1_answers l htr D Z o a b S T p1 E hf) gL_answers_X1_answers rfl rfl rfl hdv_X1_answers ⟨Nat.le_of_ble_eq_true rfl, Nat.le_of_ble_eq_true rfl⟩ hK (hP.sub (ws' := owl Z o a b S T) [0, 1, 2, 3, 4, 5, 6, 7, 8, 9, 10, 11, 12, 13, 14, 15, 16, 17, 18, 19, 20, 21, 22, 23, 24] rfl) (hD.sub (ws' := owl Z o a b S T) [0, 1, 2, 3, 4, 5, 6, 7, 8, 9, 10, 11, 12, 13, 14, 15, 16, 17, 18, 19, 20, 21, 22, 23, 24] (by decide) rfl) rfl rfl rfl rfl hl.1 rfl (Nat.le_of_ble_eq_true rfl) dL_answers_4 ⟨Nat.le_of_ble_eq_true rfl, Nat.le_of_ble_eq_true rfl⟩) hP hS hA (fun q9 ce H locs hP hS hce hcv hcl => ?_)
  obtain ⟨rfl, rfl⟩ := hk
  refine vx_catch (own := RL) (name := "java/lang/IndexOutOfBoundsException") (E := "java/lang/IndexOutOfBoundsException") hown [] (⟨0, 9, 12, 13⟩ : ExceptionTableEntry) [] (hT.trans rfl) (fun z hz => nomatch hz) (by decide) (by decide) (hts (.classLink RL 13 "java/lang/IndexOutOfBoundsException") (List.mem_of_getElem? (i := 1) rfl)) (va_Nw.use rfl (hE.1.2.2.2.2.2.1 _ (List.mem_of_getElem? (i := 1) rfl))) hce hcv hcl ?_
  refine lv_astore_n (lv' := [(3, .ref q9), (0, .ref o), (1, .int p1), (2, .ref q)]) hx hb dL_answers_12 rfl hl (by decide) rfl (fun ls hl => ?_)
  refine lv_iconst (v := 1) hx hb dL_answers_13 (by decide) ?_
  exact zw_i hx hb hr hlk hP hD hS rfl rfl (Nat.le_of_ble_eq_true rfl) (Nat.le_of_ble_eq_true rfl) dL_answers_14
abbrev rm_L_foresee : Room := { frames := 8, cells := 1, slots := 6, locals := 158 }
theorem hds_L_foresee : yL_foresee.cls ≠ "java/lang/invoke/MethodHandle" ∧ yL_foresee.cls ≠ "java/lang/invoke/VarHandle" ∧ (parseMethodDescriptor yL_foresee.desc).map (fun d => d.parameters.length) = some 4 := by decide +kernel
set_option maxHeartbeats 4000000 in
set_option maxRecDepth 100000 in
theorem ok_L_foresee (l : Launch) (D : va_G) (Z : Nat → ClassId) (o : Nat) (a b : Nat → Nat) (S T : RS) (q : Nat) (f : Nat → Int64) (p1 : Int32) (p2 : Int32) (r : Int32) (S' T' : RS) (hf : f_X1_foresee S T p1 p2 = some (.ok (r, S', T'))) : GWi l yL_foresee wsL_foresee rm_L_foresee D Z yE [.ref o, .int p1, .int p2, .ref q] (olw Z o a b S T q f) (olw Z o a b S' T' q (vp_updL f 0 r.toInt64)) 0 1 6 := by
  refine GWi.ofH (cc := cL_foresee) (nL := 5) (ret := (some .int)) (hh := [(0, 10, 13, 24), (0, 10, 17, 13)]) (by decide +kernel) rfl (Nat.le_of_ble_eq_true rfl) ?_
  intro p e s m below meth c A hC hT hE hA hP hK hD hS ls hl
  obtain ⟨hx, hb, hr, hml, hown, hts, hlk, -⟩ := hC
  have hown : s.vm.findClass RL = some m.cls := hown
  have hl : lv_has ls 5 [(0, .ref o), (1, .int p1), (2, .int p2), (3, .ref q)] := hl
  refine lv_aload_n hx hb dL_foresee_0 rfl (lv_at hl 3 rfl) ?_
  refine lv_iconst (v := 0) hx hb dL_foresee_1 (by decide) ?_
  refine lv_aload_n hx hb dL_foresee_2 rfl (lv_at hl 0 rfl) ?_
  refine lv_iload_n hx hb dL_foresee_3 rfl (lv_at hl 1 rfl) ?_
  refine lv_iload_n hx hb dL_foresee_4 rfl (lv_at hl 2 rfl) ?_
  refine zc_mi zI_out (z_VG (As := [.int p1, .int p2]) (rest := [.int 0, .ref q]) (q0 := 0) (ci := 1) xE_ok hE.1 hS hA ⟨hx, hb, hml, hown, hts⟩ (ok_X1_foresee l D Z o a b S T p1 p2 r S' T' hf) gL_foresee_X1_foresee rfl rfl rfl hdv_X1_foresee ⟨Nat.le_of_ble_eq_true rfl, Nat.le_of_ble_eq_true rfl⟩ hK (hP.sub (ws' := owl Z o a b S T) [0, 1, 2, 3, 4, 5, 6, 7, 8, 9, 10, 11, 12, 13, 14, 15, 16, 17, 18, 19, 20, 21, 22, 23, 24] rfl) (hD.sub (ws' := owl Z o a b S T) [0, 1, 2, 3, 4, 5, 6, 7, 8, 9, 10, 11, 12, 13, 14, 15, 16, 17, 18, 19, 20, 21, 22, 23, 24] (by decide) rfl) rfl rfl rfl rfl hl.1 rfl (Nat.le_of_ble_eq_true rfl) dL_foresee_5 ⟨Nat.le_of_ble_eq_true rfl, Nat.le_of_ble_eq_true rfl⟩) hP hD hS hA (fun H locs hP hD hS => ?_)
  refine lv_i2l hx hb dL_foresee_8 rfl ?_
  refine va_last hx hb hK hP hD hS 25 1 rfl rfl (vp_in_lit (by decide)) dL_foresee_9 (fun H locs hP hD hS => ?_)
  have hP : va_P D vwCl (olw Z o a b S' T' q (vp_updL f 0 r.toInt64)) H := hP
  have hD : va_D A (olw Z o a b S' T' q (vp_updL f 0 r.toInt64)) := hD
  refine lv_goto (tgt := 21) hx hb dL_foresee_10 (by decide) ?_
  refine lv_iconst (v := 0) hx hb dL_foresee_21 (by decide) ?_
  exact zw_i hx hb hr hlk hP hD hS rfl rfl (Nat.le_of_ble_eq_true rfl) (Nat.le_of_ble_eq_true rfl) dL_foresee_22
set_option maxHeartbeats 4000000 in
set_option maxRecDepth 100000 in
theorem er_L_foresee (l : Launch) (htr : l.stackTraces = false) (D : va_G) (Z : Nat → ClassId) (o : Nat) (a b : Nat → Nat) (S T : RS) (q : Nat) (f : Nat → Int64) (p1 : Int32) (p2 : Int32) (E : String) (k : Int32) (hf : f_X1_foresee S T p1 p2 = some (.error E)) (hk : (E = "java/lang/IllegalArgumentException" ∧ k = 1) ∨ (E = "java/lang/IndexOutOfBoundsException" ∧ k = 2)) : GWi l yL_foresee wsL_foresee rm_L_foresee D Z yE [.ref o, .int p1, .int p2, .ref q] (olw Z o a b S T q f) (olw Z o a b S T q f) k 1 6 := by
  refine GWi.ofH (cc := cL_foresee) (nL := 5) (ret := (some .int)) (hh := [(0, 10, 13, 24), (0, 10, 17, 13)]) (by decide +kernel) rfl (Nat.le_of_ble_eq_true rfl) ?_
  intro p e s m below meth c A hC hT hE hA hP hK hD hS ls hl
  obtain ⟨hx, hb, hr, hml, hown, hts, hlk, -⟩ := hC
  have hown : s.vm.findClass RL = some m.cls := hown
  have hl : lv_has ls 5 [(0, .ref o), (1, .int p1), (2, .int p2), (3, .ref q)] := hl
  refine lv_aload_n hx hb dL_foresee_0 rfl (lv_at hl 3 rfl) ?_
  refine lv_iconst (v := 0) hx hb dL_foresee_1 (by decide) ?_
  refine lv_aload_n hx hb dL_foresee_2 rfl (lv_at hl 0 rfl) ?_
  refine lv_iload_n hx hb dL_foresee_3 rfl (lv_at hl 1 rfl) ?_
  refine lv_iload_n hx hb dL_foresee_4 rfl (lv_at hl 2 rfl) ?_
  refine zx_run (z_VX (As := [.int p1, .int p2]) (rest := [.int 0, .ref q]) (q0 := 0) (ci := 1) xE_ok hE.1 hS hA ⟨hx, hb, hml, hown, hts⟩ (er_X1_foresee l htr D Z o a b S T p1 p2 E hf) gL_foresee_X1_foresee rfl rfl rfl hdv_X1_foresee ⟨Nat.le_of_ble_eq_true rfl, Nat.le_of_ble_eq_true rfl⟩ hK (hP.sub (ws' := owl Z o a b S T) [0, 1, 2, 3, 4, 5, 6, 7, 8, 9, 10, 11, 12, 13, 14, 15, 16, 17, 18, 19, 20, 21, 22, 23, 24] rfl) (hD.sub (ws' := owl Z o a b S T) [0, 1, 2, 3, 4, 5, 6, 7, 8, 9, 10, 11, 12, 13, 14, 15, 16, 17, 18, 19, 20, 21, 22, 23, 24] (by decide) rfl) rfl rfl rfl rfl hl.1 rfl (Nat.le_of_ble_eq_true rfl) dL_foresee_5 ⟨Nat.le_of_ble_eq_true rfl, Nat.le_of_ble_eq_true rfl⟩) hP hS hA (fun q9 ce H locs hP hS hce hcv hcl => ?_)
  rcases hk with ⟨rfl, rfl⟩ | hk
  · skip
    refine vx_catch (own := RL) (name := "java/lang/IllegalArgumentException") (E := "java/lang/IllegalArgumentException") hown [] (⟨0, 10, 13, 24⟩ : ExceptionTableEntry) [(⟨0, 10, 17, 13⟩ : ExceptionTableEntry)] (hT.trans rfl) (fun z hz => nomatch hz) (by decide) (by decide) (hts (.classLink RL 24 "java/lang/IllegalArgumentException") (List.mem_of_getElem? (i := 1) rfl)) (va_Nw.use rfl (hE.1.2.2.2.2.2.1 _ (List.mem_of_getElem? (i := 2) rfl))) hce hcv hcl ?_
    refine lv_astore (lv' := [(4, .ref q9), (0, .ref o), (1, .int p1), (2, .int p2), (3, .ref q)]) hx hb dL_foresee_13 hl (by decide) rfl (fun ls hl => ?_)
    refine lv_iconst (v := 1) hx hb dL_foresee_15 (by decide) ?_
    exact zw_i hx hb hr hlk hP hD hS rfl rfl (Nat.le_of_ble_eq_true rfl) (Nat.le_of_ble_eq_true rfl) dL_foresee_16
  · obtain ⟨rfl, rfl⟩ := hk
    refine vx_catch (own := RL) (name := "java/lang/IndexOutOfBoundsException") (E := "java/lang/IndexOutOfBoundsException") hown [(⟨0, 10, 13, 24⟩ : ExceptionTableEntry)] (⟨0, 10, 17, 13⟩ : ExceptionTableEntry) [] (hT.trans rfl) (fun z hz => (List.mem_cons.mp hz).elim (fun h => by subst h; exact Or.inr ⟨by decide, "java/lang/IllegalArgumentException", hts (.classLink RL 24 "java/lang/IllegalArgumentException") (List.mem_of_getElem? (i := 1) rfl), hE.2 _ (List.mem_of_getElem? (i := 3) rfl)⟩) (fun hz => nomatch hz)) (by decide) (by decide) (hts (.classLink RL 13 "java/lang/IndexOutOfBoundsException") (List.mem_of_getElem? (i := 2) rfl)) (va_Nw.use rfl (hE.1.2.2.2.2.2.1 _ (List.mem_of_getElem? (i := 1) rfl))) hce hcv hcl ?_
    refine lv_astore (lv' := [(4, .ref q9), (0, .ref o), (1, .int p1), (2, .int p2), (3, .ref q)]) hx hb dL_foresee_17 hl (by decide) rfl (fun ls hl => ?_)
    refine lv_iconst (v := 2) hx hb dL_foresee_19 (by decide) ?_
    exact zw_i hx hb hr hlk hP hD hS rfl rfl (Nat.le_of_ble_eq_true rfl) (Nat.le_of_ble_eq_true rfl) dL_foresee_20
