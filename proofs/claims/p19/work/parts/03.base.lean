-- pure glue
def ob {α β : Type} (x : Option α) (k : α → Option β) : Option β := match x with | none => none | some v => k v
theorem ob_some {α β : Type} {x : Option α} {k : α → Option β} {r : β} (h : ob x k = some r) : ∃ v, x = some v ∧ k v = some r := by
  cases x with
  | none => cases h
  | some v => exact ⟨v, rfl, h⟩
theorem ob_v {α β : Type} {v : α} {k : α → Option β} : ob (some v) k = k v := rfl
def lt {α β : Type} (x : α) (k : α → β) : β := k x
theorem lt_ex {α β : Type} {x : α} {k : α → β} {r : β} (h : lt x k = r) : ∃ z, z = x ∧ k z = r := ⟨x, rfl, h⟩
theorem if_t {α : Type} {q : Prop} {dq : Decidable q} {a b r : α} (h : ite q a b = r) (hc : q) : a = r := (if_pos hc).symm.trans h
theorem if_f {α : Type} {q : Prop} {dq : Decidable q} {a b r : α} (h : ite q a b = r) (hc : ¬ q) : b = r := (if_neg hc).symm.trans h
theorem if_g {α : Type} {q : Prop} {dq : Decidable q} {b : Option α} {r : α} (h : ite q none b = some r) : ¬ q ∧ b = some r := by
  by_cases hc : q
  · rw [if_pos hc] at h; cases h
  · rw [if_neg hc] at h; exact ⟨hc, h⟩
theorem no_r {α : Type} {r : α} {P : Prop} (h : (none : Option α) = some r) : P := by cases h
theorem pr1 {α β : Type} {a a' : α} {b b' : β} (h : some (a, b) = some (a', b')) : a = a' := (Prod.mk.inj (Option.some.inj h)).1
theorem pr2 {α β : Type} {a a' : α} {b b' : β} (h : some (a, b) = some (a', b')) : b = b' := (Prod.mk.inj (Option.some.inj h)).2
def FU : Nat := 2000
-- the tables that every contract speaks of
abbrev zT (Z : Nat → ClassId) : List (ClassId × FieldType) := [(Z 0, .int), (Z 1, .object "PodGuidewayLaw$Pod"), (Z 2, .array .int), (Z 3, .array (.array .int))]
abbrev zK (D : va_G) (Z : Nat → ClassId) (U : State) : Prop := va_K D vwCl (zT Z) U
def zPre (D : va_G) (Z : Nat → ClassId) (w0 : va_W) (sz : Nat) : State → Prop := fun U => U.heap.size = sz ∧ va_P D vwCl w0 U.heap ∧ zK D Z U ∧ va_D (fun _ => True) w0
def zPost (D : va_G) (A : Nat → Prop) (w1 : va_W) : Unit → State → Prop := fun _ t => va_P D vwCl w1 t.heap ∧ va_D A w1
abbrev zQi (r : Int32) (sz : Nat) : Array Value → State → Outcome → State → Prop := va_Qi (fun (r' : Int32) (_ : Unit) => r' = r) (fun _ _ => True) (fun q => sz ≤ q)
abbrev zQz (r : Int32) (sz : Nat) : Array Value → State → Outcome → State → Prop := va_Qi (fun (r' : Int32) (_ : Unit) => r' = r ∧ narrow .boolean (.int r') = .int r') (fun _ _ => True) (fun q => sz ≤ q)
abbrev zQl (r : Int64) (sz : Nat) : Array Value → State → Outcome → State → Prop := va_Ql (fun (r' : Int64) (_ : Unit) => r' = r) (fun _ _ => True) (fun q => sz ≤ q)
abbrev zMv (D : va_G) (A : Nat → Prop) (w1 : va_W) : Array Value → State → Outcome → State → Prop := va_Qv (fun (_ : Unit) => True) (zPost D A w1) A
abbrev zMi (D : va_G) (A : Nat → Prop) (w1 : va_W) (r : Int32) : Array Value → State → Outcome → State → Prop := va_Qi (fun (r' : Int32) (_ : Unit) => r' = r) (zPost D A w1) A
abbrev zMl (D : va_G) (A : Nat → Prop) (w1 : va_W) (r : Int64) : Array Value → State → Outcome → State → Prop := va_Ql (fun (r' : Int64) (_ : Unit) => r' = r) (zPost D A w1) A
def ROi (l : Launch) (y : MethodName) (ws : List Cond) (rm : Room) (D : va_G) (Z : Nat → ClassId) (av : List Value) (w0 : va_W) (r : Int32) : Prop :=
  ∀ sz : Nat, Met l y ws rm (va_Pc av (zPre D Z w0 sz)) (zQi r sz) 0 0 (fun q => sz ≤ q)
def ROz (l : Launch) (y : MethodName) (ws : List Cond) (rm : Room) (D : va_G) (Z : Nat → ClassId) (av : List Value) (w0 : va_W) (r : Int32) : Prop :=
  ∀ sz : Nat, Met l y ws rm (va_Pc av (zPre D Z w0 sz)) (zQz r sz) 0 0 (fun q => sz ≤ q)
def ROl (l : Launch) (y : MethodName) (ws : List Cond) (rm : Room) (D : va_G) (Z : Nat → ClassId) (av : List Value) (w0 : va_W) (r : Int64) : Prop :=
  ∀ sz : Nat, Met l y ws rm (va_Pc av (zPre D Z w0 sz)) (zQl r sz) 0 0 (fun q => sz ≤ q)
def RWv (l : Launch) (y : MethodName) (ws : List Cond) (rm : Room) (D : va_G) (Z : Nat → ClassId) (av : List Value) (w0 w1 : va_W) (mc ms : Nat) : Prop :=
  ∀ sz : Nat, Met l y ws rm (va_Pc av (zPre D Z w0 sz)) (zMv D (va_A w0 sz) w1) mc ms (va_A w0 sz)
def RWi (l : Launch) (y : MethodName) (ws : List Cond) (rm : Room) (D : va_G) (Z : Nat → ClassId) (av : List Value) (w0 w1 : va_W) (r : Int32) (mc ms : Nat) : Prop :=
  ∀ sz : Nat, Met l y ws rm (va_Pc av (zPre D Z w0 sz)) (zMi D (va_A w0 sz) w1 r) mc ms (va_A w0 sz)
def RWl (l : Launch) (y : MethodName) (ws : List Cond) (rm : Room) (D : va_G) (Z : Nat → ClassId) (av : List Value) (w0 w1 : va_W) (r : Int64) (mc ms : Nat) : Prop :=
  ∀ sz : Nat, Met l y ws rm (va_Pc av (zPre D Z w0 sz)) (zMl D (va_A w0 sz) w1 r) mc ms (va_A w0 sz)
/-- what a body has at hand -/
def Cx (p : Program) (s : State) (m : MethodId) (args : Array Value) (meth : Method) (c : Code) (cc : ByteArray) (own nm : String) (nL : Nat) (ret : Option FieldType) (ws : List Cond) : Prop :=
  p.tables.exec = Jvm.exec ∧ c.code = cc ∧ meth.sig.returnType = ret ∧ c.maxLocals = nL ∧ s.vm.findClass own = some m.cls ∧ (∀ w ∈ ws, w.before args s = true) ∧ meth.locks = false ∧ meth.name = nm
theorem z_blind {D : va_G} {Z : Nat → ClassId} {av : List Value} {w0 : va_W} {sz : Nat} : FrameBlind (va_Pc av (zPre D Z w0 sz)) := fun a U g mk q => by
  obtain ⟨q0, q1, qP, qK, qD⟩ := q
  exact ⟨q0, q1, qP, va_K.moved (u := U) (U := U.calling g mk a) (Vm.Alike.refl U.vm) qK, qD⟩
theorem z_fm {α : Type} {ws w0 : List α} {is : List Nat} (h : is.map (fun i => ws[i]?) = w0.map some) : is.filterMap (fun i => ws[i]?) = w0 := by
  have h2 : (is.map (fun i => ws[i]?)).filterMap id = (w0.map some).filterMap id := by rw [h]
  rw [List.filterMap_map, List.filterMap_map] at h2
  simpa using h2
theorem Met.ofWF {l : Launch} {y : MethodName} {ws ws' : List Cond} {rm : Room} {Pc : Array Value → State → Prop} {Qc : Array Value → State → Outcome → State → Prop} {mc ms : Nat} {free : Addr → Prop} {cc : ByteArray} {maxL : Nat} {ret : Option FieldType}
    (hy : plainFor y = true) (hw : ws = Cond.code y cc maxL ret :: ws')
    (body : ∀ p e s m args below meth c s₁, BodyLoose p l y (headSpec ws rm) cc maxL ret e s m args below meth c s₁ → c.maxLocals = maxL → Pc args s →
      W p l e (headSpec ws rm).room s m args below meth c s.heap [] 0 0 (MQ below Qc args s mc ms free) (entryFrame m args maxL)) : Met l y ws rm Pc Qc mc ms free := by
  refine MetFree.of_bodySF (code := cc) (maxLocals := maxL) (ret := ret) hy ?_ ?_
  · intro args s m h hn
    obtain ⟨meth, c, h1, h2, h3, h4, h5, h6, -, -⟩ := Cond.code_spec hn (atoms_spec (ws := ws) h _ (by rw [hw]; exact List.mem_cons_self))
    exact ⟨meth, c, h1, h2, h3, h4, h5, h6⟩
  · intro p e s m args below meth c s₁ B hml hP _
    obtain ⟨t, a1, o, b1, b2, b3⟩ := body p e s m args below meth c s₁ B hml hP s₁ (by rw [B.state]; rfl) (Stand.of_body B)
    exact ⟨t, o, a1, b1, b2, b3⟩
section PGOPEN
variable {l : Launch} {y : MethodName} {ws ws' : List Cond} {rm : Room} {cc : ByteArray} {nL : Nat} {ret : Option FieldType} {av : List Value} {D : va_G} {Z : Nat → ClassId} {w0 w1 : va_W} {mc ms : Nat}
theorem z_open {B : State → Prop} {Qc : Array Value → State → Outcome → State → Prop} {free : Addr → Prop} (hy : plainFor y = true) (hw : ws = Cond.code y cc nL ret :: ws') (hn : (lg_sl av).length ≤ nL)
    (body : ∀ (p : Program) (e : Env) (s : State) (m : MethodId) (below : List Frame) (meth : Method) (c : Code), Cx p s m av.toArray meth c cc y.cls y.name nL ret ws → B s → ∀ ls : Array Slot, lv_has ls nL (lv_args 0 av) → W p l e rm s m av.toArray below meth c s.heap [] 0 0 (MQ below Qc av.toArray s mc ms free) (F0 m 0 ls [])) : Met l y ws rm (va_Pc av B) Qc mc ms free := by
  refine Met.ofWF (cc := cc) (maxL := nL) (ret := ret) hy hw ?_
  intro p e s m args below meth c s₁ Bd hml hv
  obtain ⟨rfl, hB⟩ := hv
  have hl := lv_entry av (n := nL) hn
  rw [lg_entry_eq]
  generalize (lg_sl av ++ List.replicate (nL - (lg_sl av).length) Slot.unset).toArray = ls at hl ⊢
  exact body p e s m below meth c ⟨Bd.exec, Bd.bytes, Bd.returns, hml, findClass_of_methodNamed Bd.named, atoms_spec (ws := ws) Bd.pre, Bd.notSynchronized, (name_of_methodNamed Bd.named Bd.method).1⟩ hB ls hl
abbrev zRO (l : Launch) (y : MethodName) (cc : ByteArray) (nL : Nat) (ret : Option FieldType) (ws : List Cond) (rm : Room) (D : va_G) (Z : Nat → ClassId) (av : List Value) (w0 : va_W) (Qc : Nat → Array Value → State → Outcome → State → Prop) : Prop :=
  ∀ (p : Program) (e : Env) (s : State) (m : MethodId) (below : List Frame) (meth : Method) (c : Code), Cx p s m av.toArray meth c cc y.cls y.name nL ret ws → (∀ q : Nat, s.heap.size ≤ q → (fun q : Nat => s.heap.size ≤ q) q) → va_P D vwCl w0 s.heap → zK D Z s → va_D (fun _ => True) w0 → va_S (fun q : Nat => s.heap.size ≤ q) s.heap s.heap [] → ∀ ls : Array Slot, lv_has ls nL (lv_args 0 av) → W p l e rm s m av.toArray below meth c s.heap [] 0 0 (MQ below (Qc s.heap.size) av.toArray s 0 0 (fun q => s.heap.size ≤ q)) (F0 m 0 ls [])
abbrev zRW (l : Launch) (y : MethodName) (cc : ByteArray) (nL : Nat) (ret : Option FieldType) (ws : List Cond) (rm : Room) (D : va_G) (Z : Nat → ClassId) (av : List Value) (w0 : va_W) (mc ms : Nat) (Qc : (Nat → Prop) → Array Value → State → Outcome → State → Prop) : Prop :=
  ∀ (p : Program) (e : Env) (s : State) (m : MethodId) (below : List Frame) (meth : Method) (c : Code) (A : Nat → Prop), Cx p s m av.toArray meth c cc y.cls y.name nL ret ws → (∀ q : Nat, s.heap.size ≤ q → A q) → va_P D vwCl w0 s.heap → zK D Z s → va_D A w0 → va_S A s.heap s.heap [] → ∀ ls : Array Slot, lv_has ls nL (lv_args 0 av) → W p l e rm s m av.toArray below meth c s.heap [] 0 0 (MQ below (Qc A) av.toArray s mc ms A) (F0 m 0 ls [])
theorem ROi.of {r : Int32} (hy : plainFor y = true) (hw : ws = Cond.code y cc nL ret :: ws') (hn : (lg_sl av).length ≤ nL) (body : zRO l y cc nL ret ws rm D Z av w0 (zQi r)) : ROi l y ws rm D Z av w0 r := fun sz => by
  refine z_open hy hw hn ?_
  intro p e s m below meth c C ⟨hsz, hP, hK, hD⟩ ls hl
  subst hsz
  exact body p e s m below meth c C (fun _ h => h) hP hK hD va_S.rf ls hl
theorem ROz.of {r : Int32} (hy : plainFor y = true) (hw : ws = Cond.code y cc nL ret :: ws') (hn : (lg_sl av).length ≤ nL) (body : zRO l y cc nL ret ws rm D Z av w0 (zQz r)) : ROz l y ws rm D Z av w0 r := fun sz => by
  refine z_open hy hw hn ?_
  intro p e s m below meth c C ⟨hsz, hP, hK, hD⟩ ls hl
  subst hsz
  exact body p e s m below meth c C (fun _ h => h) hP hK hD va_S.rf ls hl
theorem ROl.of {r : Int64} (hy : plainFor y = true) (hw : ws = Cond.code y cc nL ret :: ws') (hn : (lg_sl av).length ≤ nL) (body : zRO l y cc nL ret ws rm D Z av w0 (zQl r)) : ROl l y ws rm D Z av w0 r := fun sz => by
  refine z_open hy hw hn ?_
  intro p e s m below meth c C ⟨hsz, hP, hK, hD⟩ ls hl
  subst hsz
  exact body p e s m below meth c C (fun _ h => h) hP hK hD va_S.rf ls hl
theorem RWv.of (hy : plainFor y = true) (hw : ws = Cond.code y cc nL ret :: ws') (hn : (lg_sl av).length ≤ nL) (body : zRW l y cc nL ret ws rm D Z av w0 mc ms (fun A => zMv D A w1)) : RWv l y ws rm D Z av w0 w1 mc ms := fun sz => by
  refine z_open hy hw hn ?_
  intro p e s m below meth c C ⟨hsz, hP, hK, hD⟩ ls hl
  subst hsz
  exact body p e s m below meth c (va_A w0 s.heap.size) C (fun _ h => Or.inr h) hP hK hD.self va_S.rf ls hl
theorem RWi.of {r : Int32} (hy : plainFor y = true) (hw : ws = Cond.code y cc nL ret :: ws') (hn : (lg_sl av).length ≤ nL) (body : zRW l y cc nL ret ws rm D Z av w0 mc ms (fun A => zMi D A w1 r)) : RWi l y ws rm D Z av w0 w1 r mc ms := fun sz => by
  refine z_open hy hw hn ?_
  intro p e s m below meth c C ⟨hsz, hP, hK, hD⟩ ls hl
  subst hsz
  exact body p e s m below meth c (va_A w0 s.heap.size) C (fun _ h => Or.inr h) hP hK hD.self va_S.rf ls hl
theorem RWl.of {r : Int64} (hy : plainFor y = true) (hw : ws = Cond.code y cc nL ret :: ws') (hn : (lg_sl av).length ≤ nL) (body : zRW l y cc nL ret ws rm D Z av w0 mc ms (fun A => zMl D A w1 r)) : RWl l y ws rm D Z av w0 w1 r mc ms := fun sz => by
  refine z_open hy hw hn ?_
  intro p e s m below meth c C ⟨hsz, hP, hK, hD⟩ ls hl
  subst hsz
  exact body p e s m below meth c (va_A w0 s.heap.size) C (fun _ h => Or.inr h) hP hK hD.self va_S.rf ls hl
end PGOPEN
section PGRET
variable {p : Program} {l : Launch} {e : Env} {R : Room} {s : State} {m : MethodId} {args : Array Value} {below : List Frame} {meth : Method} {c : Code} {H : Heap} {locs : List Loc} {cells slots : Nat} {Q : State → Prop} {cc : ByteArray} {pc : Nat} {ls : Array Slot} {D : va_G} {w w1 : va_W} {A : Nat → Prop} {mc ms : Nat}
theorem zr_i {v r : Int32} (hx : p.tables.exec = Jvm.exec) (hb : c.code = cc) (hr : meth.sig.returnType = some .int) (hlk : meth.locks = false) (hS : va_S (fun q : Nat => s.heap.size ≤ q) s.heap H locs) (hv : v = r) (hdg : decode cc pc = .ok (.ireturn, 1)) : W p l e R s m args below meth c H locs 0 0 (MQ below (zQi r s.heap.size) args s 0 0 (fun q => s.heap.size ≤ q)) (F0 m pc ls [.int v]) := by
  subst hv
  exact W.iret hx hb hr (fun t ht hW => ⟨⟨v, (), rfl, rfl, trivial⟩, hS.F ht⟩) hS.2.2 hdg hlk
theorem zr_z {v r : Int32} (hx : p.tables.exec = Jvm.exec) (hb : c.code = cc) (hr : meth.sig.returnType = some .boolean) (hlk : meth.locks = false) (hS : va_S (fun q : Nat => s.heap.size ≤ q) s.heap H locs) (hv : v = r) (hn : narrow .boolean (.int v) = .int v) (hdg : decode cc pc = .ok (.ireturn, 1)) : W p l e R s m args below meth c H locs 0 0 (MQ below (zQz r s.heap.size) args s 0 0 (fun q => s.heap.size ≤ q)) (F0 m pc ls [.int v]) := by
  subst hv
  exact W.zret hx hb hr hn (fun t ht hW => ⟨⟨v, (), rfl, ⟨rfl, hn⟩, trivial⟩, hS.F ht⟩) hS.2.2 hdg hlk
theorem zr_l {v r : Int64} (hx : p.tables.exec = Jvm.exec) (hb : c.code = cc) (hr : meth.sig.returnType = some .long) (hlk : meth.locks = false) (hS : va_S (fun q : Nat => s.heap.size ≤ q) s.heap H locs) (hv : v = r) (hdg : decode cc pc = .ok (.lreturn, 1)) : W p l e R s m args below meth c H locs 0 0 (MQ below (zQl r s.heap.size) args s 0 0 (fun q => s.heap.size ≤ q)) (F0 m pc ls [.long v]) := by
  subst hv
  exact W.lret hx hb hr (fun t ht hW => ⟨⟨v, (), rfl, rfl, trivial⟩, hS.F ht⟩) hS.2.2 hdg hlk
theorem zw_v (hx : p.tables.exec = Jvm.exec) (hb : c.code = cc) (hr : meth.sig.returnType = none) (hlk : meth.locks = false) (hP : va_P D vwCl w H) (hD : va_D A w) (hS : va_S A s.heap H locs) (hw : w = w1) (h1 : cells ≤ mc) (h2 : slots ≤ ms) (hdg : decode cc pc = .ok (.return_, 1)) : W p l e R s m args below meth c H locs cells slots (MQ below (zMv D A w1) args s mc ms A) (F0 m pc ls []) := by
  subst hw
  refine W.widen h1 h2 ?_
  exact W.vret hx hb hr (fun t ht hW => ⟨⟨(), rfl, trivial, by rw [ht]; exact hP, hD⟩, hS.F ht⟩) hS.2.2 hdg hlk
theorem zw_i {v r : Int32} (hx : p.tables.exec = Jvm.exec) (hb : c.code = cc) (hr : meth.sig.returnType = some .int) (hlk : meth.locks = false) (hP : va_P D vwCl w H) (hD : va_D A w) (hS : va_S A s.heap H locs) (hw : w = w1) (hv : v = r) (h1 : cells ≤ mc) (h2 : slots ≤ ms) (hdg : decode cc pc = .ok (.ireturn, 1)) : W p l e R s m args below meth c H locs cells slots (MQ below (zMi D A w1 r) args s mc ms A) (F0 m pc ls [.int v]) := by
  subst hw
  subst hv
  refine W.widen h1 h2 ?_
  exact W.iret hx hb hr (fun t ht hW => ⟨⟨v, (), rfl, rfl, by rw [ht]; exact hP, hD⟩, hS.F ht⟩) hS.2.2 hdg hlk
theorem zw_l {v r : Int64} (hx : p.tables.exec = Jvm.exec) (hb : c.code = cc) (hr : meth.sig.returnType = some .long) (hlk : meth.locks = false) (hP : va_P D vwCl w H) (hD : va_D A w) (hS : va_S A s.heap H locs) (hw : w = w1) (hv : v = r) (h1 : cells ≤ mc) (h2 : slots ≤ ms) (hdg : decode cc pc = .ok (.lreturn, 1)) : W p l e R s m args below meth c H locs cells slots (MQ below (zMl D A w1 r) args s mc ms A) (F0 m pc ls [.long v]) := by
  subst hw
  subst hv
  refine W.widen h1 h2 ?_
  exact W.lret hx hb hr (fun t ht hW => ⟨⟨v, (), rfl, rfl, by rw [ht]; exact hP, hD⟩, hS.F ht⟩) hS.2.2 hdg hlk
end PGRET
section PGCALL
variable {p : Program} {l : Launch} {e : Env} {R : Room} {s : State} {m : MethodId} {args : Array Value} {below : List Frame} {meth : Method} {c : Code} {H : Heap} {locs : List Loc} {cells slots : Nat} {Q : State → Prop} {cc : ByteArray} {pc : Nat} {ls : Array Slot} {D : va_G} {Z : Nat → ClassId} {w w0 w1 wr w2 : va_W} {A A0 : Nat → Prop} {H0 : Heap} {mc ms nL n index maxL : Nat} {a : Array Value}
variable {y : MethodName} {bytes : ByteArray} {ret : Option FieldType} {wsy ws' Ts : List Cond} {rm : Room} {own C host : String} {b : Addr} {As rest st0 : List Value} {Qc : Array Value → State → Outcome → State → Prop} {free : Addr → Prop}
theorem z_pre {av : List Value} (hK : zK D Z s) (hP : va_P D vwCl w0 H) (hD : va_D A w0) : ∀ U : State, U.heap = H → s.WarmedH U.vm → va_Pc av (zPre D Z w0 H.size) av.toArray U :=
  fun U hU hW => ⟨rfl, by rw [hU], by rw [hU]; exact hP, va_K.moved hW.alike hK, hD.weaken (fun _ _ _ _ => trivial)⟩
theorem z_VD {Qd : Nat → Array Value → State → Outcome → State → Prop} {fd : Nat → Addr → Prop} {q0 ci : Nat} {fs : List Value} {q : vw_C} (S : CallFix p m c cc nL s args Ts own) (hM : ∀ sz : Nat, Met l y wsy rm (va_Pc (.ref b :: As) (zPre D Z w0 sz)) (Qd sz) mc ms (fd sz)) (hg : GoodIn Ts (wsV own index C y wsy)) (hw : wsy = Cond.code y bytes maxL ret :: ws') (hrc : rm.cells = mc) (hrs : rm.slots = ms)
    (hd : y.cls = C ∧ y.cls ≠ "java/lang/invoke/MethodHandle" ∧ y.cls ≠ "java/lang/invoke/VarHandle" ∧ (parseMethodDescriptor y.desc).map (fun d => d.parameters.length) = some n) (hR : rm.frames + 1 ≤ R.frames ∧ 8 + (maxL + 11) + rm.locals ≤ R.locals)
    (hK : zK D Z s) (hP : va_P D vwCl w0 H) (hD : va_D A w0) (hr : w0[q0]? = some (b, .inr (ci, fs))) (hc : vwCl[ci]? = some q) (hq : q.1 = C) (hn : As.length = n) (hsz : ls.size = nL) (hst : st0 = As.reverse ++ .ref b :: rest) (hroom : (rest.map fun v => v.category).sum ≤ 8) (hdg : decode cc pc = .ok (.invokevirtual index, 3)) (hf : cells + mc ≤ R.cells ∧ slots + ms ≤ R.slots) :
    va_Run p l e R s m args below meth c H locs cells slots mc ms (F0 m pc ls st0) rest (Qd H.size (Value.ref b :: As).toArray) (fd H.size) := by
  subst hq
  exact va_runV S (hM H.size) (cwV n S.2.2.2.2 hg hw hrc hrs hd hR) ⟨z_blind, va_recv hK hP hc hr, z_pre hK hP hD⟩ rfl hn hsz hst (lv_room hroom) hdg hf
/-- a static method -/
theorem z_SD {Qd : Nat → Array Value → State → Outcome → State → Prop} {fd : Nat → Addr → Prop} (S : CallFix p m c cc nL s args Ts own) (hM : ∀ sz : Nat, Met l y wsy rm (va_Pc As (zPre D Z w0 sz)) (Qd sz) mc ms (fd sz)) (hg : GoodIn Ts (va_wsS own index y wsy)) (hw : wsy = Cond.code y bytes maxL ret :: ws') (hrc : rm.cells = mc) (hrs : rm.slots = ms)
    (hd : y.cls ≠ "java/lang/invoke/MethodHandle" ∧ y.cls ≠ "java/lang/invoke/VarHandle" ∧ (parseMethodDescriptor y.desc).map (fun d => d.parameters.length) = some n) (hR : rm.frames + 1 ≤ R.frames ∧ 8 + (maxL + 11) + rm.locals ≤ R.locals)
    (hK : zK D Z s) (hP : va_P D vwCl w0 H) (hD : va_D A w0) (hn : As.length = n) (hsz : ls.size = nL) (hst : st0 = As.reverse ++ rest) (hroom : (rest.map fun v => v.category).sum ≤ 8) (hdg : decode cc pc = .ok (.invokestatic index, 3)) (hf : cells + mc ≤ R.cells ∧ slots + ms ≤ R.slots) :
    va_Run p l e R s m args below meth c H locs cells slots mc ms (F0 m pc ls st0) rest (Qd H.size As.toArray) (fd H.size) :=
  va_runS S (hM H.size) (va_cwS n S.2.2.2.2 hg hw hrc hrs hd hR) ⟨z_blind, z_pre hK hP hD⟩ rfl hn hsz hst (lv_room hroom) hdg hf
/-- behind a call that reads alone: the world is as it was -/
theorem zc_i {r : Int32} (hr : va_Run p l e R s m args below meth c H locs cells slots 0 0 (F0 m pc ls st0) rest (zQi r H.size a) (fun q => H.size ≤ q)) (hP : va_P D vwCl w H) (hS : va_S A H0 H locs) (hA : ∀ q, H0.size ≤ q → A q)
    (kk : ∀ (H1 : Heap) (locs1 : List Loc), va_P D vwCl w H1 → va_S A H0 H1 locs1 → W p l e R s m args below meth c H1 locs1 cells slots Q (F0 m (pc + 3) ls (.int r :: rest))) : W p l e R s m args below meth c H locs cells slots Q (F0 m pc ls st0) := by
  refine va_calli hr hS (fun q h1 h2 => absurd h2 (Nat.not_le.mpr h1)) (fun q h => hA q (Nat.le_trans hS.1 h)) (fun r' u t H1 locs1 _ _ hp _ _ hk hS1 => ?_)
  subst hp
  exact kk H1 locs1 (hP.kept (fun k q hq => hk q.1 (hP k q hq).lt (Nat.not_le.mpr (hP k q hq).lt))) hS1
theorem zc_z {r : Int32} (hr : va_Run p l e R s m args below meth c H locs cells slots 0 0 (F0 m pc ls st0) rest (zQz r H.size a) (fun q => H.size ≤ q)) (hP : va_P D vwCl w H) (hS : va_S A H0 H locs) (hA : ∀ q, H0.size ≤ q → A q)
    (kk : ∀ (H1 : Heap) (locs1 : List Loc), narrow .boolean (.int r) = .int r → va_P D vwCl w H1 → va_S A H0 H1 locs1 → W p l e R s m args below meth c H1 locs1 cells slots Q (F0 m (pc + 3) ls (.int r :: rest))) : W p l e R s m args below meth c H locs cells slots Q (F0 m pc ls st0) := by
  refine va_calli hr hS (fun q h1 h2 => absurd h2 (Nat.not_le.mpr h1)) (fun q h => hA q (Nat.le_trans hS.1 h)) (fun r' u t H1 locs1 _ _ hp _ _ hk hS1 => ?_)
  obtain ⟨hp, hn⟩ := hp
  subst hp
  exact kk H1 locs1 hn (hP.kept (fun k q hq => hk q.1 (hP k q hq).lt (Nat.not_le.mpr (hP k q hq).lt))) hS1
theorem zc_l {r : Int64} (hr : va_Run p l e R s m args below meth c H locs cells slots 0 0 (F0 m pc ls st0) rest (zQl r H.size a) (fun q => H.size ≤ q)) (hP : va_P D vwCl w H) (hS : va_S A H0 H locs) (hA : ∀ q, H0.size ≤ q → A q)
    (kk : ∀ (H1 : Heap) (locs1 : List Loc), va_P D vwCl w H1 → va_S A H0 H1 locs1 → W p l e R s m args below meth c H1 locs1 cells slots Q (F0 m (pc + 3) ls (.long r :: rest))) : W p l e R s m args below meth c H locs cells slots Q (F0 m pc ls st0) := by
  refine va_calll hr hS (fun q h1 h2 => absurd h2 (Nat.not_le.mpr h1)) (fun q h => hA q (Nat.le_trans hS.1 h)) (fun r' u t H1 locs1 _ _ hp _ _ hk hS1 => ?_)
  subst hp
  exact kk H1 locs1 (hP.kept (fun k q hq => hk q.1 (hP k q hq).lt (Nat.not_le.mpr (hP k q hq).lt))) hS1
/-- how a callee's world lies in the caller's: its cells at the places isC, the others at isR, the new list put together in the order perm -/
def zIn (w w0 w1 w2 wr : va_W) (isC isR perm : List Nat) : Prop := isC.map (fun i => w[i]?) = w0.map some ∧ isR.map (fun i => w[i]?) = wr.map some ∧ va_nd isR = true ∧ va_nd isC = true ∧ (∀ i ∈ isR, i ∉ isC) ∧ perm.map (fun i => (wr ++ w1)[i]?) = w2.map some ∧ va_nd perm = true
theorem z_back {isC isR perm : List Nat} {H1 : Heap} (hI : zIn w w0 w1 w2 wr isC isR perm) (hP : va_P D vwCl w H) (hD : va_D A w) (hF : ∀ q, va_A w0 H.size q → A q) (hk : ∀ q : Nat, q < H.size → ¬ va_A w0 H.size q → H1[q]? = H[q]?) (h1 : va_P D vwCl w1 H1) (h2 : va_D (va_A w0 H.size) w1) : va_P D vwCl w2 H1 ∧ va_D A w2 := by
  obtain ⟨iC, iR, nR, -, dis, pe, np⟩ := hI
  obtain ⟨j1, j2⟩ := va_join hP hD isC isR iC iR nR dis hk hF h1 h2
  exact ⟨j1.sub perm (z_fm pe), j2.sub perm np pe⟩
theorem z_free {isC isR perm : List Nat} (hI : zIn w w0 w1 w2 wr isC isR perm) (hD : va_D A w) (hS : va_S A H0 H locs) (hA : ∀ q, H0.size ≤ q → A q) : ∀ q, va_A w0 H.size q → A q := va_free hD hS hA isC hI.1
theorem zc_mv {isC isR perm : List Nat} (hI : zIn w w0 w1 w2 wr isC isR perm) (hr : va_Run p l e R s m args below meth c H locs cells slots mc ms (F0 m pc ls st0) rest (zMv D (va_A w0 H.size) w1 a) (va_A w0 H.size)) (hP : va_P D vwCl w H) (hD : va_D A w) (hS : va_S A H0 H locs) (hA : ∀ q, H0.size ≤ q → A q)
    (kk : ∀ (H1 : Heap) (locs1 : List Loc), va_P D vwCl w2 H1 → va_D A w2 → va_S A H0 H1 locs1 → W p l e R s m args below meth c H1 locs1 (cells + mc) (slots + ms) Q (F0 m (pc + 3) ls rest)) : W p l e R s m args below meth c H locs cells slots Q (F0 m pc ls st0) := by
  have hF := z_free hI hD hS hA
  refine va_callv hr hS (fun q _ h => hF q h) hF (fun u t H1 locs1 ht _ _ hB _ hk hS1 => ?_)
  obtain ⟨hP1, hD1⟩ := hB
  rw [ht] at hP1
  obtain ⟨j1, j2⟩ := z_back hI hP hD hF hk hP1 hD1
  exact kk H1 locs1 j1 j2 hS1
theorem zc_mi {r : Int32} {isC isR perm : List Nat} (hI : zIn w w0 w1 w2 wr isC isR perm) (hr : va_Run p l e R s m args below meth c H locs cells slots mc ms (F0 m pc ls st0) rest (zMi D (va_A w0 H.size) w1 r a) (va_A w0 H.size)) (hP : va_P D vwCl w H) (hD : va_D A w) (hS : va_S A H0 H locs) (hA : ∀ q, H0.size ≤ q → A q)
    (kk : ∀ (H1 : Heap) (locs1 : List Loc), va_P D vwCl w2 H1 → va_D A w2 → va_S A H0 H1 locs1 → W p l e R s m args below meth c H1 locs1 (cells + mc) (slots + ms) Q (F0 m (pc + 3) ls (.int r :: rest))) : W p l e R s m args below meth c H locs cells slots Q (F0 m pc ls st0) := by
  have hF := z_free hI hD hS hA
  refine va_calli hr hS (fun q _ h => hF q h) hF (fun r' u t H1 locs1 ht _ hp hB _ hk hS1 => ?_)
  subst hp
  obtain ⟨hP1, hD1⟩ := hB
  rw [ht] at hP1
  obtain ⟨j1, j2⟩ := z_back hI hP hD hF hk hP1 hD1
  exact kk H1 locs1 j1 j2 hS1
theorem zc_ml {r : Int64} {isC isR perm : List Nat} (hI : zIn w w0 w1 w2 wr isC isR perm) (hr : va_Run p l e R s m args below meth c H locs cells slots mc ms (F0 m pc ls st0) rest (zMl D (va_A w0 H.size) w1 r a) (va_A w0 H.size)) (hP : va_P D vwCl w H) (hD : va_D A w) (hS : va_S A H0 H locs) (hA : ∀ q, H0.size ≤ q → A q)
    (kk : ∀ (H1 : Heap) (locs1 : List Loc), va_P D vwCl w2 H1 → va_D A w2 → va_S A H0 H1 locs1 → W p l e R s m args below meth c H1 locs1 (cells + mc) (slots + ms) Q (F0 m (pc + 3) ls (.long r :: rest))) : W p l e R s m args below meth c H locs cells slots Q (F0 m pc ls st0) := by
  have hF := z_free hI hD hS hA
  refine va_calll hr hS (fun q _ h => hF q h) hF (fun r' u t H1 locs1 ht _ hp hB _ hk hS1 => ?_)
  subst hp
  obtain ⟨hP1, hD1⟩ := hB
  rw [ht] at hP1
  obtain ⟨j1, j2⟩ := z_back hI hP hD hF hk hP1 hD1
  exact kk H1 locs1 j1 j2 hS1
end PGCALL
section PGCALL2
variable {p : Program} {l : Launch} {e : Env} {R : Room} {s : State} {m : MethodId} {args : Array Value} {below : List Frame} {meth : Method} {c : Code} {H : Heap} {locs : List Loc} {cells slots : Nat} {Q : State → Prop} {pc : Nat} {ls : Array Slot} {D : va_G} {w w0 w1 : va_W} {A : Nat → Prop} {H0 : Heap} {mc ms : Nat} {a : Array Value} {rest st0 : List Value}
/-- the callee's world is the caller's whole world -/
theorem zc_mv0 (hr : va_Run p l e R s m args below meth c H locs cells slots mc ms (F0 m pc ls st0) rest (zMv D (va_A w0 H.size) w1 a) (va_A w0 H.size)) (hD : va_D A w0) (hS : va_S A H0 H locs) (hA : ∀ q, H0.size ≤ q → A q)
    (kk : ∀ (H1 : Heap) (locs1 : List Loc), va_P D vwCl w1 H1 → va_D A w1 → va_S A H0 H1 locs1 → W p l e R s m args below meth c H1 locs1 (cells + mc) (slots + ms) Q (F0 m (pc + 3) ls rest)) : W p l e R s m args below meth c H locs cells slots Q (F0 m pc ls st0) := by
  have hF : ∀ q, va_A w0 H.size q → A q := fun q h => h.elim (fun ⟨k, e, h⟩ => hD.2 k (q, e) h) (fun h => hA q (Nat.le_trans hS.1 h))
  refine va_callv hr hS (fun q _ h => hF q h) hF (fun u t H1 locs1 ht _ _ hB _ hk hS1 => ?_)
  obtain ⟨hP1, hD1⟩ := hB
  rw [ht] at hP1
  exact kk H1 locs1 hP1 (hD1.weaken (fun _ q _ h => hF q.1 h)) hS1
theorem zc_mi0 {r : Int32} (hr : va_Run p l e R s m args below meth c H locs cells slots mc ms (F0 m pc ls st0) rest (zMi D (va_A w0 H.size) w1 r a) (va_A w0 H.size)) (hD : va_D A w0) (hS : va_S A H0 H locs) (hA : ∀ q, H0.size ≤ q → A q)
    (kk : ∀ (H1 : Heap) (locs1 : List Loc), va_P D vwCl w1 H1 → va_D A w1 → va_S A H0 H1 locs1 → W p l e R s m args below meth c H1 locs1 (cells + mc) (slots + ms) Q (F0 m (pc + 3) ls (.int r :: rest))) : W p l e R s m args below meth c H locs cells slots Q (F0 m pc ls st0) := by
  have hF : ∀ q, va_A w0 H.size q → A q := fun q h => h.elim (fun ⟨k, e, h⟩ => hD.2 k (q, e) h) (fun h => hA q (Nat.le_trans hS.1 h))
  refine va_calli hr hS (fun q _ h => hF q h) hF (fun r' u t H1 locs1 ht _ hp hB _ hk hS1 => ?_)
  subst hp
  obtain ⟨hP1, hD1⟩ := hB
  rw [ht] at hP1
  exact kk H1 locs1 hP1 (hD1.weaken (fun _ q _ h => hF q.1 h)) hS1
theorem zc_ml0 {r : Int64} (hr : va_Run p l e R s m args below meth c H locs cells slots mc ms (F0 m pc ls st0) rest (zMl D (va_A w0 H.size) w1 r a) (va_A w0 H.size)) (hD : va_D A w0) (hS : va_S A H0 H locs) (hA : ∀ q, H0.size ≤ q → A q)
    (kk : ∀ (H1 : Heap) (locs1 : List Loc), va_P D vwCl w1 H1 → va_D A w1 → va_S A H0 H1 locs1 → W p l e R s m args below meth c H1 locs1 (cells + mc) (slots + ms) Q (F0 m (pc + 3) ls (.long r :: rest))) : W p l e R s m args below meth c H locs cells slots Q (F0 m pc ls st0) := by
  have hF : ∀ q, va_A w0 H.size q → A q := fun q h => h.elim (fun ⟨k, e, h⟩ => hD.2 k (q, e) h) (fun h => hA q (Nat.le_trans hS.1 h))
  refine va_calll hr hS (fun q _ h => hF q h) hF (fun r' u t H1 locs1 ht _ hp hB _ hk hS1 => ?_)
  subst hp
  obtain ⟨hP1, hD1⟩ := hB
  rw [ht] at hP1
  exact kk H1 locs1 hP1 (hD1.weaken (fun _ q _ h => hF q.1 h)) hS1
/-- one cell of the world is the callee's -/
theorem zc_mv1 {k b : Nat} {e0 e1 : va_E} (hk0 : w[k]? = some (b, e0)) (hr : va_Run p l e R s m args below meth c H locs cells slots mc ms (F0 m pc ls st0) rest (zMv D (va_A [(b, e0)] H.size) [(b, e1)] a) (va_A [(b, e0)] H.size)) (hP : va_P D vwCl w H) (hD : va_D A w) (hS : va_S A H0 H locs) (hA : ∀ q, H0.size ≤ q → A q)
    (kk : ∀ (H1 : Heap) (locs1 : List Loc), va_P D vwCl (w.set k (b, e1)) H1 → va_D A (w.set k (b, e1)) → va_S A H0 H1 locs1 → W p l e R s m args below meth c H1 locs1 (cells + mc) (slots + ms) Q (F0 m (pc + 3) ls rest)) : W p l e R s m args below meth c H locs cells slots Q (F0 m pc ls st0) := by
  have hF : ∀ q, va_A [(b, e0)] H.size q → A q := va_free hD hS hA [k] (by simp [hk0])
  refine va_callv hr hS (fun q _ h => hF q h) hF (fun u t H1 locs1 ht _ _ hB _ hk hS1 => ?_)
  obtain ⟨hP1, -⟩ := hB
  rw [ht] at hP1
  refine kk H1 locs1 (fun j q hq => ?_) (hD.set hk0) hS1
  have hlen := (List.getElem?_eq_some_iff.mp hk0).1
  by_cases hj : j = k
  · subst hj
    rw [List.getElem?_set_self hlen] at hq
    cases hq
    exact hP1 0 _ rfl
  · rw [List.getElem?_set_ne (Ne.symm hj)] at hq
    have hlt := (hP j q hq).lt
    refine (hP j q hq).kept (hk q.1 hlt (fun h => ?_))
    rcases h with ⟨i, e, h⟩ | h
    · cases i with
      | zero => rw [List.getElem?_cons_zero] at h; exact hj (hD.1 j k q (b, e0) hq hk0 (congrArg Prod.fst (Option.some.inj h)).symm)
      | succ i => simp at h
    · exact absurd h (Nat.not_le.mpr hlt)
/-- two cells are the callee's; it changes the second -/
theorem zc_mv2 {k0 k b0 b : Nat} {f0 e0 e1 : va_E} (hk00 : w[k0]? = some (b0, f0)) (hk0 : w[k]? = some (b, e0)) (hr : va_Run p l e R s m args below meth c H locs cells slots mc ms (F0 m pc ls st0) rest (zMv D (va_A [(b0, f0), (b, e0)] H.size) [(b0, f0), (b, e1)] a) (va_A [(b0, f0), (b, e0)] H.size)) (hP : va_P D vwCl w H) (hD : va_D A w) (hS : va_S A H0 H locs) (hA : ∀ q, H0.size ≤ q → A q)
    (kk : ∀ (H1 : Heap) (locs1 : List Loc), va_P D vwCl (w.set k (b, e1)) H1 → va_D A (w.set k (b, e1)) → va_S A H0 H1 locs1 → W p l e R s m args below meth c H1 locs1 (cells + mc) (slots + ms) Q (F0 m (pc + 3) ls rest)) : W p l e R s m args below meth c H locs cells slots Q (F0 m pc ls st0) := by
  have hF : ∀ q, va_A [(b0, f0), (b, e0)] H.size q → A q := va_free hD hS hA [k0, k] (by simp [hk0, hk00])
  refine va_callv hr hS (fun q _ h => hF q h) hF (fun u t H1 locs1 ht _ _ hB _ hk hS1 => ?_)
  obtain ⟨hP1, -⟩ := hB
  rw [ht] at hP1
  refine kk H1 locs1 (fun j q hq => ?_) (hD.set hk0) hS1
  have hlen := (List.getElem?_eq_some_iff.mp hk0).1
  by_cases hj : j = k
  · subst hj
    rw [List.getElem?_set_self hlen] at hq
    cases hq
    exact hP1 1 _ rfl
  · rw [List.getElem?_set_ne (Ne.symm hj)] at hq
    have hlt := (hP j q hq).lt
    by_cases hj0 : j = k0
    · subst hj0
      have e9 : q = (b0, f0) := Option.some.inj (hq.symm.trans hk00)
      subst e9
      exact hP1 0 _ rfl
    · refine (hP j q hq).kept (hk q.1 hlt (fun h => ?_))
      rcases h with ⟨i, e, h⟩ | h
      · match i, h with
        | 0, h => exact hj0 (hD.1 j k0 q (b0, f0) hq hk00 (congrArg Prod.fst (Option.some.inj h)).symm)
        | 1, h => exact hj (hD.1 j k q (b, e0) hq hk0 (congrArg Prod.fst (Option.some.inj h)).symm)
        | i + 2, h => simp at h
      · exact absurd h (Nat.not_le.mpr hlt)
end PGCALL2
-- the ring: its six numbers, its eleven rows
abbrev RS : Type := (Nat → Int32) × (Nat → Nat → Int32)
def sI (S : RS) (k : Nat) (x : Int32) : RS := (va_up S.1 k x, S.2)
def sR (S : RS) (k : Nat) (f : Nat → Int32) : RS := (S.1, va_up S.2 k f)
def rwl (Z : Nat → ClassId) (a : Nat → Nat) (S : RS) : va_W := [(a 0, .inr (0, [.int (S.1 0), .int (S.1 1), .int (S.1 2), .int (S.1 3), .int (S.1 4), .int (S.1 5), .ref (a 1), .ref (a 2), .ref (a 3), .ref (a 4), .ref (a 5), .ref (a 6), .ref (a 7), .ref (a 8), .ref (a 9), .ref (a 10), .ref (a 11)])),
  (a 1, .inl (Z 0, 24, .inl (S.2 0))), (a 2, .inl (Z 0, 18, .inl (S.2 1))), (a 3, .inl (Z 0, 6, .inl (S.2 2))), (a 4, .inl (Z 0, 6, .inl (S.2 3))), (a 5, .inl (Z 0, 6, .inl (S.2 4))), (a 6, .inl (Z 0, 54, .inl (S.2 5))), (a 7, .inl (Z 0, 54, .inl (S.2 6))), (a 8, .inl (Z 0, 54, .inl (S.2 7))), (a 9, .inl (Z 0, 12, .inl (S.2 8))), (a 10, .inl (Z 0, 12, .inl (S.2 9))), (a 11, .inl (Z 0, 12, .inl (S.2 10)))]
-- more glue
def ob2 {α β γ : Type} (x : Option (α × β)) (k : α → β → Option γ) : Option γ := match x with | none => none | some v => k v.1 v.2
theorem ob2_some {α β γ : Type} {x : Option (α × β)} {k : α → β → Option γ} {r : γ} (h : ob2 x k = some r) : ∃ a b, x = some (a, b) ∧ k a b = some r := by
  cases x with
  | none => cases h
  | some v => exact ⟨v.1, v.2, rfl, h⟩
theorem vp_in_lit {i : Int32} {n : Nat} (h : ¬ (i < 0 ∨ n ≤ i.toNatClampNeg)) : vp_in i n := h
abbrev cpbad (sp dp n : Int32) (n0 n1 : Nat) : Prop := sp < 0 ∨ dp < 0 ∨ n < 0 ∨ n0 < sp.toNatClampNeg + n.toNatClampNeg ∨ n1 < dp.toNatClampNeg + n.toNatClampNeg
theorem cp_1 {sp dp n : Int32} {n0 n1 : Nat} (h : ¬ cpbad sp dp n n0 n1) : ¬ sp < 0 := fun q => h (Or.inl q)
theorem cp_2 {sp dp n : Int32} {n0 n1 : Nat} (h : ¬ cpbad sp dp n n0 n1) : ¬ dp < 0 := fun q => h (Or.inr (Or.inl q))
theorem cp_3 {sp dp n : Int32} {n0 n1 : Nat} (h : ¬ cpbad sp dp n n0 n1) : ¬ n < 0 := fun q => h (Or.inr (Or.inr (Or.inl q)))
theorem cp_4 {sp dp n : Int32} {n0 n1 : Nat} (h : ¬ cpbad sp dp n n0 n1) : sp.toNatClampNeg + n.toNatClampNeg ≤ n0 := Nat.not_lt.mp fun q => h (Or.inr (Or.inr (Or.inr (Or.inl q))))
theorem cp_5 {sp dp n : Int32} {n0 n1 : Nat} (h : ¬ cpbad sp dp n n0 n1) : dp.toNatClampNeg + n.toNatClampNeg ≤ n1 := Nat.not_lt.mp fun q => h (Or.inr (Or.inr (Or.inr (Or.inr q))))
theorem i32_ne {x : Int32} {k : Int32} {j : Int} (h : ¬ x = k) (hk : k.toInt = j) : x.toInt ≠ j := fun q => h (Int32.toInt_inj.mp (q.trans hk.symm))
theorem sw_out5 {x : Int32} (h0 : ¬ x = 0) (h1 : ¬ x = 1) (h2 : ¬ x = 2) (h3 : ¬ x = 3) (h4 : ¬ x = 4) : x.toInt < 0 ∨ 4 < x.toInt := by
  have e0 := i32_ne (j := 0) h0 (by decide)
  have e1 := i32_ne (j := 1) h1 (by decide)
  have e2 := i32_ne (j := 2) h2 (by decide)
  have e3 := i32_ne (j := 3) h3 (by decide)
  have e4 := i32_ne (j := 4) h4 (by decide)
  omega
theorem sw_out6 {x : Int32} (h0 : ¬ x = 0) (h1 : ¬ x = 1) (h2 : ¬ x = 2) (h3 : ¬ x = 3) (h4 : ¬ x = 4) (h5 : ¬ x = 5) : x.toInt < 0 ∨ 5 < x.toInt := by
  have e5 := i32_ne (j := 5) h5 (by decide)
  rcases sw_out5 h0 h1 h2 h3 h4 with q | q <;> omega
theorem sw_out8 {x : Int32} (h0 : ¬ x = 0) (h1 : ¬ x = 1) (h2 : ¬ x = 2) (h3 : ¬ x = 3) (h4 : ¬ x = 4) (h5 : ¬ x = 5) (h6 : ¬ x = 6) (h7 : ¬ x = 7) : x.toInt < 0 ∨ 7 < x.toInt := by
  have e6 := i32_ne (j := 6) h6 (by decide)
  have e7 := i32_ne (j := 7) h7 (by decide)
  rcases sw_out6 h0 h1 h2 h3 h4 h5 with q | q <;> omega
section PGNEW
variable {p : Program} {l : Launch} {e : Env} {R : Room} {s : State} {m : MethodId} {args : Array Value} {below : List Frame} {meth : Method} {c : Code} {H : Heap} {locs : List Loc} {cells slots : Nat} {Q : State → Prop} {cc : ByteArray} {pc : Nat} {ls : Array Slot} {rest : List Value} {D : va_G} {Z : Nat → ClassId} {A : Nat → Prop} {ws : va_W} {H0 : Heap}
/-- a new row of ints: of the kind that is known already -/
theorem z_newa {N1 : Nat} {n : Int32} (hx : p.tables.exec = Jvm.exec) (hb : c.code = cc) (harr : (Cond.arrayClass .int).before args s = true) (hK : zK D Z s) (hP : va_P D vwCl ws H) (hD : va_D A ws) (hS : va_S A H0 H locs) (hA : ∀ q, H0.size ≤ q → A q)
    (hn : ¬ n < 0) (hN : n.toNatClampNeg = N1) (hbytes : N1 * 4 ≤ 536870912) (hcells : cells + 1 ≤ R.cells) (hslots : slots + N1 ≤ R.slots) (hdg : decode cc pc = .ok (.newarray .int, 2))
    (kk : ∀ (q : Nat) (H1 : Heap), va_P D vwCl (ws ++ [(q, .inl (Z 0, N1, .inl (fun _ => 0)))]) H1 → va_D A (ws ++ [(q, .inl (Z 0, N1, .inl (fun _ => 0)))]) → va_S A H0 H1 locs → W p l e R s m args below meth c H1 locs (cells + 1) (slots + N1) Q (F0 m (pc + 2) ls (.ref q :: rest))) : W p l e R s m args below meth c H locs cells slots Q (F0 m pc ls (.int n :: rest)) := by
  refine va_newa (atype := .int) (ty := .int) (N' := N1) (a0 := (N1, .inl (fun _ => 0))) hx hb harr rfl hK hP hD hS hA (fun _ => rfl) hn hN hbytes hcells hslots hdg (fun q cA H1 hK1 hP1 hD1 hS1 => ?_)
  have e1 : s.vm.findClass ("[" ++ FieldType.int.toString) = some cA := (hK1.2 4 (cA, .int) rfl).2
  have e2 : s.vm.findClass ("[" ++ FieldType.int.toString) = some (Z 0) := (hK.2 0 (Z 0, .int) rfl).2
  have e3 : cA = Z 0 := Option.some.inj (e1.symm.trans e2)
  subst e3
  exact kk q H1 hP1 hD1 hS1
end PGNEW
