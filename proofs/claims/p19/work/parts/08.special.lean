-- contracts with one more thing about the tables and the statics
def XOK (X : (Nat → Prop) → State → Prop) : Prop :=
  (∀ (A : Nat → Prop) (U : State) (g : JFrame) (mk : MethodId) (a : Array Value), X A U → X A (U.calling g mk a)) ∧
  ∀ (A A1 : Nat → Prop) (s U : State) (H : Heap) (locs : List Loc), X A s → va_S A s.heap H locs → (∀ q, A1 q → A q) → U.heap = H → s.WarmedH U.vm → X A1 U
def gPre (D : va_G) (Z : Nat → ClassId) (X : (Nat → Prop) → State → Prop) (w0 : va_W) (sz : Nat) : State → Prop := fun U => zPre D Z w0 sz U ∧ X (va_A w0 sz) U
theorem g_blind {D : va_G} {Z : Nat → ClassId} {X : (Nat → Prop) → State → Prop} {av : List Value} {w0 : va_W} {sz : Nat} (hX : XOK X) : FrameBlind (va_Pc av (gPre D Z X w0 sz)) := fun a U g mk q => by
  obtain ⟨q0, ⟨q1, qP, qK, qD⟩, qE⟩ := q
  exact ⟨q0, ⟨q1, qP, va_K.moved (u := U) (U := U.calling g mk a) (Vm.Alike.refl U.vm) qK, qD⟩, hX.1 _ _ _ _ _ qE⟩
def GWv (l : Launch) (y : MethodName) (ws : List Cond) (rm : Room) (D : va_G) (Z : Nat → ClassId) (X : (Nat → Prop) → State → Prop) (av : List Value) (w0 w1 : va_W) (mc ms : Nat) : Prop :=
  ∀ sz : Nat, Met l y ws rm (va_Pc av (gPre D Z X w0 sz)) (zMv D (va_A w0 sz) w1) mc ms (va_A w0 sz)
def GWi (l : Launch) (y : MethodName) (ws : List Cond) (rm : Room) (D : va_G) (Z : Nat → ClassId) (X : (Nat → Prop) → State → Prop) (av : List Value) (w0 w1 : va_W) (r : Int32) (mc ms : Nat) : Prop :=
  ∀ sz : Nat, Met l y ws rm (va_Pc av (gPre D Z X w0 sz)) (zMi D (va_A w0 sz) w1 r) mc ms (va_A w0 sz)
def GWl (l : Launch) (y : MethodName) (ws : List Cond) (rm : Room) (D : va_G) (Z : Nat → ClassId) (X : (Nat → Prop) → State → Prop) (av : List Value) (w0 w1 : va_W) (r : Int64) (mc ms : Nat) : Prop :=
  ∀ sz : Nat, Met l y ws rm (va_Pc av (gPre D Z X w0 sz)) (zMl D (va_A w0 sz) w1 r) mc ms (va_A w0 sz)
abbrev gRW (l : Launch) (y : MethodName) (cc : ByteArray) (nL : Nat) (ret : Option FieldType) (ws : List Cond) (rm : Room) (D : va_G) (Z : Nat → ClassId) (X : (Nat → Prop) → State → Prop) (av : List Value) (w0 : va_W) (mc ms : Nat) (Qc : (Nat → Prop) → Array Value → State → Outcome → State → Prop) : Prop :=
  ∀ (p : Program) (e : Env) (s : State) (m : MethodId) (below : List Frame) (meth : Method) (c : Code) (A : Nat → Prop), Cx p s m av.toArray meth c cc y.cls y.name nL ret ws → X A s → (∀ q : Nat, s.heap.size ≤ q → A q) → va_P D vwCl w0 s.heap → zK D Z s → va_D A w0 → va_S A s.heap s.heap [] → ∀ ls : Array Slot, lv_has ls nL (lv_args 0 av) → W p l e rm s m av.toArray below meth c s.heap [] 0 0 (MQ below (Qc A) av.toArray s mc ms A) (F0 m 0 ls [])
section PGG
variable {l : Launch} {y : MethodName} {ws ws' : List Cond} {rm : Room} {cc : ByteArray} {nL : Nat} {ret : Option FieldType} {av : List Value} {D : va_G} {Z : Nat → ClassId} {X : (Nat → Prop) → State → Prop} {w0 w1 : va_W} {mc ms : Nat}
theorem GWv.of (hy : plainFor y = true) (hw : ws = Cond.code y cc nL ret :: ws') (hn : (lg_sl av).length ≤ nL) (body : gRW l y cc nL ret ws rm D Z X av w0 mc ms (fun A => zMv D A w1)) : GWv l y ws rm D Z X av w0 w1 mc ms := fun sz => by
  refine z_open hy hw hn ?_
  intro p e s m below meth c C ⟨⟨hsz, hP, hK, hD⟩, hE⟩ ls hl
  subst hsz
  exact body p e s m below meth c (va_A w0 s.heap.size) C hE (fun _ h => Or.inr h) hP hK hD.self va_S.rf ls hl
theorem GWi.of {r : Int32} (hy : plainFor y = true) (hw : ws = Cond.code y cc nL ret :: ws') (hn : (lg_sl av).length ≤ nL) (body : gRW l y cc nL ret ws rm D Z X av w0 mc ms (fun A => zMi D A w1 r)) : GWi l y ws rm D Z X av w0 w1 r mc ms := fun sz => by
  refine z_open hy hw hn ?_
  intro p e s m below meth c C ⟨⟨hsz, hP, hK, hD⟩, hE⟩ ls hl
  subst hsz
  exact body p e s m below meth c (va_A w0 s.heap.size) C hE (fun _ h => Or.inr h) hP hK hD.self va_S.rf ls hl
theorem GWl.of {r : Int64} (hy : plainFor y = true) (hw : ws = Cond.code y cc nL ret :: ws') (hn : (lg_sl av).length ≤ nL) (body : gRW l y cc nL ret ws rm D Z X av w0 mc ms (fun A => zMl D A w1 r)) : GWl l y ws rm D Z X av w0 w1 r mc ms := fun sz => by
  refine z_open hy hw hn ?_
  intro p e s m below meth c C ⟨⟨hsz, hP, hK, hD⟩, hE⟩ ls hl
  subst hsz
  exact body p e s m below meth c (va_A w0 s.heap.size) C hE (fun _ h => Or.inr h) hP hK hD.self va_S.rf ls hl
end PGG
section PGGC
variable {p : Program} {l : Launch} {e : Env} {R : Room} {s : State} {m : MethodId} {args : Array Value} {below : List Frame} {meth : Method} {c : Code} {H : Heap} {locs : List Loc} {cells slots : Nat} {Q : State → Prop} {cc : ByteArray} {pc : Nat} {ls : Array Slot} {D : va_G} {Z : Nat → ClassId} {X : (Nat → Prop) → State → Prop} {w w0 w1 w2 wr : va_W} {A : Nat → Prop} {H0 : Heap} {mc ms nL n index maxL : Nat}
variable {y : MethodName} {bytes : ByteArray} {ret : Option FieldType} {wsy ws' Ts : List Cond} {rm : Room} {own C host : String} {b : Addr} {As rest st0 : List Value}
theorem g_pre {av : List Value} (hX : XOK X) (hE : X A s) (hS : va_S A s.heap H locs) (hF : ∀ q, va_A w0 H.size q → A q) (hK : zK D Z s) (hP : va_P D vwCl w0 H) (hD : va_D A w0) : ∀ U : State, U.heap = H → s.WarmedH U.vm → va_Pc av (gPre D Z X w0 H.size) av.toArray U :=
  fun U hU hW => ⟨rfl, ⟨by rw [hU], by rw [hU]; exact hP, va_K.moved hW.alike hK, hD.weaken (fun _ _ _ _ => trivial)⟩, hX.2 A _ s U H locs hE hS hF hU hW⟩
theorem z_hF {w0 : va_W} (hD : va_D A w0) (hS : va_S A H0 H locs) (hA : ∀ q, H0.size ≤ q → A q) : ∀ q, va_A w0 H.size q → A q := fun q h => h.elim (fun ⟨k, e, h⟩ => hD.2 k (q, e) h) (fun h => hA q (Nat.le_trans hS.1 h))
theorem z_VG {Qd : Nat → Array Value → State → Outcome → State → Prop} {fd : Nat → Addr → Prop} {q0 ci : Nat} {fs : List Value} {q : vw_C} (hX : XOK X) (hE : X A s) (hS : va_S A s.heap H locs) (hA : ∀ q, s.heap.size ≤ q → A q) (S : CallFix p m c cc nL s args Ts own) (hM : ∀ sz : Nat, Met l y wsy rm (va_Pc (.ref b :: As) (gPre D Z X w0 sz)) (Qd sz) mc ms (fd sz)) (hg : GoodIn Ts (wsV own index C y wsy)) (hw : wsy = Cond.code y bytes maxL ret :: ws') (hrc : rm.cells = mc) (hrs : rm.slots = ms)
    (hd : y.cls = C ∧ y.cls ≠ "java/lang/invoke/MethodHandle" ∧ y.cls ≠ "java/lang/invoke/VarHandle" ∧ (parseMethodDescriptor y.desc).map (fun d => d.parameters.length) = some n) (hR : rm.frames + 1 ≤ R.frames ∧ 8 + (maxL + 11) + rm.locals ≤ R.locals)
    (hK : zK D Z s) (hP : va_P D vwCl w0 H) (hD : va_D A w0) (hr : w0[q0]? = some (b, .inr (ci, fs))) (hc : vwCl[ci]? = some q) (hq : q.1 = C) (hn : As.length = n) (hsz : ls.size = nL) (hst : st0 = As.reverse ++ .ref b :: rest) (hroom : (rest.map fun v => v.category).sum ≤ 8) (hdg : decode cc pc = .ok (.invokevirtual index, 3)) (hf : cells + mc ≤ R.cells ∧ slots + ms ≤ R.slots) :
    va_Run p l e R s m args below meth c H locs cells slots mc ms (F0 m pc ls st0) rest (Qd H.size (Value.ref b :: As).toArray) (fd H.size) := by
  subst hq
  exact va_runV S (hM H.size) (cwV n S.2.2.2.2 hg hw hrc hrs hd hR) ⟨g_blind hX, va_recv hK hP hc hr, g_pre hX hE hS (z_hF hD hS hA) hK hP hD⟩ rfl hn hsz hst (lv_room hroom) hdg hf
end PGGC
-- what the reference's copies need of the tables
def mAO (U : State) : Prop := (Cond.arrayOver (.array .int)).before #[] U = true
theorem mAO.moved {u U : State} (hvm : u.vm.Alike U.vm) (h : mAO u) : mAO U := by
  obtain ⟨comp, c, k, h1, h2, h3, h4, h5⟩ := arrayOverA_spec h
  obtain ⟨k', hk', he⟩ := hvm.2.2 _ _ h3
  have hi : (U.vm.classes.findIdx? fun (x : Class) => match x.kind with | .array component _ => component == comp | _ => false) = some c := by
    rw [hvm.findIdx?_eq _ (fun _ => rfl)]
    exact h2
  have hkind : k'.kind = .array comp (.array .int) := by rw [he]; exact h4
  have f1 : U.vm.findClass (FieldType.array .int).toString = some comp := by rw [hvm.findClass]; exact h1
  have f2 : U.vm.findClass ("[" ++ (FieldType.array .int).toString) = some c := by rw [hvm.findClass]; exact h5
  unfold mAO Cond.before Cond.holds
  simp only [Cond.value]
  rw [f1, Option.bind_some]
  refine (congrArg (fun o : Option Nat => (o.bind (fun c => (U.vm.classes[c]?).map fun (k : Class) => match k.kind with | .array _ ty => decide (ty = FieldType.array .int) && decide (U.vm.findClass ("[" ++ (FieldType.array .int).toString) = some c) | _ => false) == some true)) hi).trans ?_
  simp [hk', hkind, f2]
def mE : (Nat → Prop) → State → Prop := fun _ U => va_Nw (.castable "[I" "java/lang/Cloneable") U ∧ mAO U
theorem mE_ok : XOK mE := ⟨fun A U g mk a h => ⟨va_Nw.same rfl (u := U) (U := U.calling g mk a) rfl h.1, mAO.moved (Vm.Alike.refl U.vm) h.2⟩, fun A A1 s U H locs h _ _ _ hW => ⟨va_Nw.warmC hW h.1, mAO.moved hW.alike h.2⟩⟩
theorem z_assign (vm : Vm) (c : ClassId) : vm.assignable c c = true := by
  show Vm.assignableAux vm 256 c c = true
  unfold Vm.assignableAux
  simp only [beq_self_eq_true, Bool.true_or]
/-- the class of the rows of rows: its kind -/
theorem mE_kind {D : va_G} {Z : Nat → ClassId} {s : State} (hK : zK D Z s) (h : mAO s) : ∃ kA kI : Class, s.vm.classes[Z 2]? = some kA ∧ kA.kind = .array (Z 0) (.array .int) ∧ s.vm.classes[Z 0]? = some kI := by
  obtain ⟨comp, c, k, h1, h2, h3, h4, h5⟩ := arrayOverA_spec h
  have e1 : s.vm.findClass ("[" ++ FieldType.int.toString) = some (Z 0) := (hK.2 0 (Z 0, .int) rfl).2
  have e2 : s.vm.findClass ("[" ++ (FieldType.array .int).toString) = some (Z 2) := (hK.2 2 (Z 2, .array .int) rfl).2
  have e3 : c = Z 2 := Option.some.inj (h5.symm.trans e2)
  have e4 : comp = Z 0 := Option.some.inj (h1.symm.trans (show s.vm.findClass (FieldType.array .int).toString = some (Z 0) from e1))
  subst e3
  subst e4
  obtain ⟨kI, hkI, -⟩ := Vm.findClass_spec h1
  exact ⟨k, kI, h3, h4, hkI⟩
section PGROWS
variable {p : Program} {l : Launch} {e : Env} {R : Room} {s : State} {m : MethodId} {args : Array Value} {below : List Frame} {meth : Method} {c : Code} {H : Heap} {locs : List Loc} {cells slots : Nat} {Q : State → Prop} {cc : ByteArray} {pc : Nat} {ls : Array Slot} {rest : List Value} {D : va_G} {Z : Nat → ClassId} {A : Nat → Prop} {ws : va_W} {H0 : Heap}
theorem z_newA {N1 : Nat} {n : Int32} {own : String} {index : Nat} (hx : p.tables.exec = Jvm.exec) (hb : c.code = cc) (hown : s.vm.findClass own = some m.cls) (hcl : (Cond.classLink own index "[I").before args s = true) (hao : mAO s) (hK : zK D Z s) (hP : va_P D vwCl ws H) (hD : va_D A ws) (hS : va_S A H0 H locs) (hA : ∀ q, H0.size ≤ q → A q)
    (hn : ¬ n < 0) (hN : n.toNatClampNeg = N1) (hbytes : N1 * 4 ≤ 536870912) (hcells : cells + 1 ≤ R.cells) (hslots : slots + N1 ≤ R.slots) (hdg : decode cc pc = .ok (.anewarray index, 3))
    (kk : ∀ (q : Nat) (H1 : Heap), va_P D vwCl (ws ++ [(q, .inl (Z 2, N1, .inr (.inr (.inr (.inr (fun _ => none))))))]) H1 → va_D A (ws ++ [(q, .inl (Z 2, N1, .inr (.inr (.inr (.inr (fun _ => none))))))]) → va_S A H0 H1 locs → W p l e R s m args below meth c H1 locs (cells + 1) (slots + N1) Q (F0 m (pc + 3) ls (.ref q :: rest))) : W p l e R s m args below meth c H locs cells slots Q (F0 m pc ls (.int n :: rest)) := by
  subst hN
  refine W.anewA (t := .int) hx hb hown hcl hao rfl hdg rfl hn hbytes hcells hslots fun cA kA comp f1 f2 f3 f4 => ?_
  have e2 : s.vm.findClass ("[" ++ (FieldType.array .int).toString) = some (Z 2) := (hK.2 2 (Z 2, .array .int) rfl).2
  have e3 : cA = Z 2 := Option.some.inj (f1.symm.trans e2)
  subst e3
  generalize hH1 : H.push ({ cls := Z 2, slots := Array.replicate n.toNatClampNeg .null, vm := .none } : Cell) = H1
  have z1 : H1.size = H.size + 1 := by rw [← hH1, Array.size_push]
  have e1 : H1[H.size]? = some (arrV (Z 2) n.toNatClampNeg (fun _ => .null)) := by rw [← hH1, Array.getElem?_push_size, ← arrV_new]
  have o1 : ∀ q : Nat, q < H.size → H1[q]? = H[q]? := fun q hq => by rw [← hH1, Array.getElem?_push, if_neg (Nat.ne_of_lt hq)]
  have hk : ∀ (k : Nat) (x : Nat × va_E), ws[k]? = some x → H1[x.1]? = H[x.1]? := fun k x hx => o1 x.1 ((hP k x hx).lt)
  refine kk H.size H1 ((hP.kept hk).app (fun k x hx => ?_)) (hD.push hP rfl (hA _ hS.1)) ⟨Nat.le_trans hS.1 (by omega), fun x h1 h2 => (o1 x (Nat.lt_of_lt_of_le h1 hS.1)).trans (hS.2.1 x h1 h2), hS.2.2⟩
  match k, hx with
  | 0, hx =>
    cases hx
    show H1[H.size]? = some (vp_cell _ _)
    rw [vp_cell_q, e1]
    rfl
  | k + 1, hx => simp at hx
theorem z_astA {q0 qk : Nat} {a v n n1 : Nat} {f : Nat → Option Nat} {g : Nat → Int32} {i : Int32} (hx : p.tables.exec = Jvm.exec) (hb : c.code = cc) (hao : mAO s) (hK : zK D Z s) (hP : va_P D vwCl ws H) (hD : va_D A ws) (hS : va_S A H0 H locs) (ha : ws[q0]? = some (a, .inl (Z 2, n, .inr (.inr (.inr (.inr f)))))) (hv : ws[qk]? = some (v, .inl (Z 0, n1, .inl g))) (hin : vp_in i n) (hdg : decode cc pc = .ok (.aastore, 1))
    (kk : ∀ (H1 : Heap) (locs1 : List Loc), va_P D vwCl (ws.set q0 (a, .inl (Z 2, n, .inr (.inr (.inr (.inr (va_up f i.toNatClampNeg (some v)))))))) H1 → va_D A (ws.set q0 (a, .inl (Z 2, n, .inr (.inr (.inr (.inr (va_up f i.toNatClampNeg (some v)))))))) → va_S A H0 H1 locs1 → W p l e R s m args below meth c H1 locs1 cells slots Q (F0 m (pc + 1) ls rest)) : W p l e R s m args below meth c H locs cells slots Q (F0 m pc ls (.ref v :: .int i :: .ref a :: rest)) := by
  have hlt : i.toNatClampNeg < n := Nat.not_le.mp fun q => hin (Or.inr q)
  have h0 : ¬ i < 0 := fun q => hin (Or.inl q)
  obtain ⟨kA, kI, k1, k2, k3⟩ := mE_kind hK hao
  have hcv : H[v]? = some (vp_cell (Z 0) (n1, .inl g)) := hP qk _ hv
  refine W.aast hx hb (hP q0 _ ha) (fun q h => by cases h) (fun h => by cases h) k1 k2 rfl k3 ⟨h0, by show _ < (arrV _ _ _).slots.size; rw [arrV_size]; exact hlt⟩ hcv (fun q h => by cases h) k3 (z_assign _ _) rfl rfl hdg fun H1 e z oq => ?_
  refine kk H1 _ (hP.set hD ha ?_ oq) (hD.set ha) (hS.put z oq (hD.2 q0 _ ha))
  show H1[a]? = some (vp_cell _ _)
  rw [e]
  show some ((vp_cell (Z 2) (n, .inr (.inr (.inr (.inr f))))).setSlot i.toNatClampNeg (.ref v)) = _
  rw [vp_cell_q, vp_cell_q, arrV_store]
  congr 2
  funext q
  by_cases hq : q = i.toNatClampNeg
  · subst hq
    simp [updV, va_up, va_rf]
  · simp [updV, va_up, hq]
theorem z_aldA {q0 : Nat} {a n : Nat} {f : Nat → Option Nat} {i : Int32} {v : Value} (hx : p.tables.exec = Jvm.exec) (hb : c.code = cc) (hK : zK D Z s) (hP : va_P D vwCl ws H) (ha : ws[q0]? = some (a, .inl (Z 2, n, .inr (.inr (.inr (.inr f)))))) (hin : vp_in i n) (hv : va_rf (f i.toNatClampNeg) = v) (hdg : decode cc pc = .ok (.aaload, 1))
    (kk : W p l e R s m args below meth c H locs cells slots Q (F0 m (pc + 1) ls (v :: rest))) : W p l e R s m args below meth c H locs cells slots Q (F0 m pc ls (.int i :: .ref a :: rest)) := by
  subst hv
  have hlt : i.toNatClampNeg < n := Nat.not_le.mp fun q => hin (Or.inr q)
  exact W.aald (v := va_rf (f i.toNatClampNeg)) (ty := .array .int) hx hb (hP q0 _ ha) ((hK.2 2 _ rfl).1 n (fun j => va_rf (f j))) rfl (fun q => by cases q) (by show ¬ (i < 0 ∨ (arrV _ _ _).slots.size ≤ _); rw [arrV_size]; exact hin) (by show (arrV _ _ _).slots[_]? = _; rw [arrV_read _ _ hlt]) rfl rfl hdg kk
/-- a clone of a row of ints, cast back -/
theorem z_clone {q0 : Nat} {a n : Nat} {f : Nat → Int32} {own : String} {index ix : Nat} {Ts : List Cond} (hx : p.tables.exec = Jvm.exec) (hb : c.code = cc) (hml : c.maxLocals = ls.size) (hown : s.vm.findClass own = some m.cls) (hts : ∀ w ∈ Ts, w.before args s = true)
    (w1 : Cond.methodLink own index ⟨"[I", "clone", "()Ljava/lang/Object;"⟩ ∈ Ts) (w2 : Cond.sameMethod "[I" "java/lang/Object" "clone" "()Ljava/lang/Object;" ∈ Ts) (w3 : Cond.native ⟨"java/lang/Object", "clone", "()Ljava/lang/Object;"⟩ ∈ Ts) (w4 : Cond.instanceMethod ⟨"java/lang/Object", "clone", "()Ljava/lang/Object;"⟩ ∈ Ts) (w5 : Cond.selects "[I" ⟨"[I", "clone", "()Ljava/lang/Object;"⟩ ⟨"java/lang/Object", "clone", "()Ljava/lang/Object;"⟩ ∈ Ts) (w6 : Cond.classLink own ix "[I" ∈ Ts) (hcl : va_Nw (.castable "[I" "java/lang/Cloneable") s)
    (hK : zK D Z s) (hP : va_P D vwCl ws H) (hD : va_D A ws) (hS : va_S A H0 H locs) (hA : ∀ q, H0.size ≤ q → A q) (ha : ws[q0]? = some (a, .inl (Z 0, n, .inl f)))
    (hframes : 1 ≤ R.frames) (hlocals : (rest.map fun v => v.category).sum + 14 ≤ R.locals) (hcells : cells + 1 ≤ R.cells) (hslots : slots + n ≤ R.slots) (hdg : decode cc pc = .ok (.invokevirtual index, 3)) (hdg2 : decode cc (pc + 3) = .ok (.checkcast ix, 3))
    (kk : ∀ (q : Nat) (H1 : Heap), va_P D vwCl (ws ++ [(q, .inl (Z 0, n, .inl f))]) H1 → va_D A (ws ++ [(q, .inl (Z 0, n, .inl f))]) → va_S A H0 H1 locs → W p l e R s m args below meth c H1 locs (cells + 1) (slots + n) Q (F0 m (pc + 3 + 3) ls (.ref q :: rest))) : W p l e R s m args below meth c H locs cells slots Q (F0 m pc ls (.ref a :: rest)) := by
  have hnm : s.vm.findClass "[I" = some (Z 0) := (hK.2 0 (Z 0, .int) rfl).2
  refine va_clone hx hb hml hown (hts _ w1) (hts _ w2) (hts _ w3) (hts _ w4) (hts _ w5) hcl hK hP hD hS hA q0 0 ha rfl hnm (fun i v h => ?_) hframes hlocals hcells hslots hdg (fun q H1 hK1 hP1 hD1 hS1 => ?_)
  · rw [vp_cell_i] at h
    simp only [arrV, Array.getElem?_ofFn] at h
    split at h
    · cases h; rfl
    · cases h
  · refine va_castA hx hb hown (hts _ w6) hP1 ws.length (x := (n, .inl f)) (cA := Z 0) (by simp) hnm hdg2 ?_
    exact kk q H1 hP1 hD1 hS1
theorem vp_cell_ext {cA : ClassId} {n : Nat} {f g : Nat → Int32} (h : ∀ j, j < n → f j = g j) : vp_cell cA (n, .inl f) = vp_cell cA (n, .inl g) := by
  rw [vp_cell_i, vp_cell_i]
  unfold arrV
  congr 1
  apply congrArg
  funext j
  show Value.int (f j.val) = Value.int (g j.val)
  rw [h j.val j.isLt]
/-- a row's contents matter in its places alone -/
theorem va_P.ext {k : Nat} {a n : Nat} {cA : ClassId} {f g : Nat → Int32} (hP : va_P D vwCl ws H) (hk : ws[k]? = some (a, .inl (cA, n, .inl f))) (h : ∀ j, j < n → f j = g j) : va_P D vwCl (ws.set k (a, .inl (cA, n, .inl g))) H := by
  intro j q hq
  by_cases hj : j = k
  · subst hj
    rw [List.getElem?_set_self (List.getElem?_eq_some_iff.mp hk).1] at hq
    cases hq
    have h0 : H[a]? = some (vp_cell cA (n, .inl f)) := hP j _ hk
    show H[a]? = some (vp_cell cA (n, .inl g))
    rw [h0, vp_cell_ext h]
  · rw [List.getElem?_set_ne (Ne.symm hj)] at hq
    exact hP j q hq
theorem va_cpy_all {f g : Nat → Int32} {n : Nat} : ∀ j, j < n → va_cpy f g 0 0 n j = f j := fun j hj => by
  unfold va_cpy
  rw [if_pos ⟨Nat.zero_le _, by omega⟩]
  congr 1
  omega
end PGROWS
