def xNm : List (Nat × MethodName) := [(9, yX0_init), (34, yX0_stationAtPlace), (40, yX0_addStation), (51, yX0_firstBerth), (57, yX0_addPod), (64, yX0_waitingAt), (69, yX0_addRider), (75, yX0_berthOf), (78, yX0_goalOf), (85, yX0_setGoal), (88, yX0_placesOn), (95, yX0_tellPod), (98, yX0_tellStation), (106, yX0_tellRider), (109, yX0_podAtPlace), (112, yX0_tellCount), (118, yX0_arrivedInAll), (122, yX0_passMinute), (125, yX0_copyFrom), (133, yX0_stationThatAnswers), (136, yX0_waitingInAll), (139, yX0_waitedInAll)]
def xNf : List (Nat × String × String) := [(23, "stations", "I"), (46, "pods", "I")]
def xSt : List (Nat × String) := [(29, "there are 6 stations"), (38, "a station is there"), (49, "there are 12 pods"), (55, "no berth is free"), (67, "9 riders wait there"), (81, "the pod is not idle"), (83, "the pod is there"), (103, "no such rider"), (150, "no such place"), (152, "no such station"), (156, "both stations are the same"), (159, "no such pod"), (161, "nothing is told under this number"), (163, "minutes are not 1 to 100")]
def xCs : List String := ["java/lang/IllegalStateException", "java/lang/IndexOutOfBoundsException", "java/lang/IllegalArgumentException"]
def xDc : List String := ["java/lang/RuntimeException", "java/lang/Exception", "java/lang/Throwable"]
/-- what the class needs of the tables and the statics beside its world -/
def xE : (Nat → Prop) → State → Prop := fun A U =>
  vx_Zq Bundle.tN "UNASSIGNED_STACK" Bundle.steD A U U.heap ∧ vx_Zq Bundle.tN "SUPPRESSED_SENTINEL" Bundle.listD A U U.heap ∧ (∀ q ∈ xSt, ∃ sa : Nat, vk_R RX1 q.1 q.2 sa U) ∧ (∀ q ∈ xNm, va_Nw (.methodLinkNest RX1 q.1 q.2 RX1) U) ∧ (∀ q ∈ xNf, va_Nw (.fieldLinkNest RX1 q.1 RX0 q.2.1 q.2.2 RX1) U) ∧ (∀ E ∈ xCs, va_Nw (.castable E E) U) ∧ (∀ Y ∈ xDc, va_Nw (.declares (Bundle.initS Y)) U)
theorem xE_ok : XOK xE := by
  refine ⟨fun A U g mk a h => ?_, fun A A1 s U H locs h hS hF hU hW => ?_⟩
  · obtain ⟨h1, h2, h3, h4, h5, h6, h7⟩ := h
    exact ⟨vx_Zq.moved (u := U) (U := U.calling g mk a) (Vm.Alike.refl U.vm) h1, vx_Zq.moved (u := U) (U := U.calling g mk a) (Vm.Alike.refl U.vm) h2, fun q hq => by
      obtain ⟨sa, hs⟩ := h3 q hq
      exact ⟨sa, vk_R.same (u := U) (U := U.calling g mk a) rfl hs⟩, fun q hq => va_Nw.same rfl (u := U) (U := U.calling g mk a) rfl (h4 q hq), fun q hq => va_Nw.same rfl (u := U) (U := U.calling g mk a) rfl (h5 q hq), fun q hq => va_Nw.same rfl (u := U) (U := U.calling g mk a) rfl (h6 q hq), fun q hq => va_Nw.same rfl (u := U) (U := U.calling g mk a) rfl (h7 q hq)⟩
  · obtain ⟨h1, h2, h3, h4, h5, h6, h7⟩ := h
    subst hU
    exact ⟨vx_Zq.moved hW.alike ((h1.kept hS.2.1).narrow hF), vx_Zq.moved hW.alike ((h2.kept hS.2.1).narrow hF), fun q hq => by
      obtain ⟨sa, hs⟩ := h3 q hq
      exact ⟨sa, vk_R.warm hW hs⟩, fun q hq => va_Nw.warmM hW (h4 q hq), fun q hq => va_Nw.warmF hW (h5 q hq), fun q hq => va_Nw.warmC hW (h6 q hq), fun q hq => va_Nw.warmD hW (h7 q hq)⟩
-- results that are thrown
def obx {α : Type} (x : Option (Except String Unit)) (k : Option (Except String α)) : Option (Except String α) := match x with | none => none | some (.error E) => some (.error E) | some (.ok _) => k
theorem obx_ok {α : Type} {x : Option (Except String Unit)} {k : Option (Except String α)} {v : α} (h : obx x k = some (.ok v)) : x = some (.ok ()) ∧ k = some (.ok v) := by
  cases x with
  | none => cases h
  | some y => cases y with
    | error E => cases h
    | ok u => exact ⟨rfl, h⟩
theorem obx_er {α : Type} {x : Option (Except String Unit)} {k : Option (Except String α)} {E : String} (h : obx x k = some (.error E)) : x = some (.error E) ∨ (x = some (.ok ()) ∧ k = some (.error E)) := by
  cases x with
  | none => cases h
  | some y => cases y with
    | error E2 => cases h; exact Or.inl rfl
    | ok u => exact Or.inr ⟨rfl, h⟩
def okx {α : Type} (x : Option α) : Option (Except String α) := match x with | none => none | some v => some (.ok v)
theorem okx_ok {α : Type} {x : Option α} {v : α} (h : okx x = some (.ok v)) : x = some v := by
  cases x with
  | none => cases h
  | some y => cases h; rfl
theorem okx_er {α : Type} {x : Option α} {E : String} {P : Prop} (h : okx x = some (.error E)) : P := by
  cases x with
  | none => cases h
  | some y => cases h
theorem er_ok {α : Type} {E : String} {v : α} {P : Prop} (h : (some (.error E) : Option (Except String α)) = some (.ok v)) : P := by cases h
theorem ok_er {α : Type} {E : String} {v : α} {P : Prop} (h : (some (.ok v) : Option (Except String α)) = some (.error E)) : P := by cases h
theorem er_eq {α : Type} {E E2 : String} (h : (some (.error E) : Option (Except String α)) = some (.error E2)) : E = E2 := by cases h; rfl
theorem t3_1 {α β γ : Type} {a a' : α} {b b' : β} {c c' : γ} (h : some (a, b, c) = some (a', b', c')) : a = a' := by cases h; rfl
theorem t3_2 {α β γ : Type} {a a' : α} {b b' : β} {c c' : γ} (h : some (a, b, c) = some (a', b', c')) : b = b' := by cases h; rfl
theorem t3_3 {α β γ : Type} {a a' : α} {b b' : β} {c c' : γ} (h : some (a, b, c) = some (a', b', c')) : c = c' := by cases h; rfl
def ob3 {α β γ δ : Type} (x : Option (α × β × γ)) (k : α → β → γ → Option δ) : Option δ := match x with | none => none | some v => k v.1 v.2.1 v.2.2
theorem ob3_some {α β γ δ : Type} {x : Option (α × β × γ)} {k : α → β → γ → Option δ} {r : δ} (h : ob3 x k = some r) : ∃ a b c, x = some (a, b, c) ∧ k a b c = some r := by
  cases x with
  | none => cases h
  | some v => exact ⟨v.1, v.2.1, v.2.2, rfl, h⟩
-- the class: the ring now, the ring ahead
def owl (Z : Nat → ClassId) (o : Nat) (a b : Nat → Nat) (S T : RS) : va_W := (o, .inr (1, [.ref (a 0), .ref (b 0)])) :: (rwl Z a S ++ rwl Z b T)
theorem owl_eq {Z : Nat → ClassId} {o : Nat} {a b : Nat → Nat} {S S1 T T1 : RS} (h : S = S1) (h2 : T = T1) : owl Z o a b S T = owl Z o a b S1 T1 := by rw [h, h2]
theorem zI_now {Z : Nat → ClassId} {o : Nat} {a b : Nat → Nat} {S S1 T : RS} : zIn (owl Z o a b S T) (rwl Z a S) (rwl Z a S1) (owl Z o a b S1 T) ((o, .inr (1, [.ref (a 0), .ref (b 0)])) :: rwl Z b T) [1, 2, 3, 4, 5, 6, 7, 8, 9, 10, 11, 12] [0, 13, 14, 15, 16, 17, 18, 19, 20, 21, 22, 23, 24] [0, 13, 14, 15, 16, 17, 18, 19, 20, 21, 22, 23, 24, 1, 2, 3, 4, 5, 6, 7, 8, 9, 10, 11, 12] := ⟨rfl, rfl, by decide, by decide, by decide, rfl, by decide⟩
theorem zI_ahead {Z : Nat → ClassId} {o : Nat} {a b : Nat → Nat} {S T1 T : RS} : zIn (owl Z o a b S T) (rwl Z b T) (rwl Z b T1) (owl Z o a b S T1) ((o, .inr (1, [.ref (a 0), .ref (b 0)])) :: rwl Z a S) [13, 14, 15, 16, 17, 18, 19, 20, 21, 22, 23, 24] [0, 1, 2, 3, 4, 5, 6, 7, 8, 9, 10, 11, 12] [0, 1, 2, 3, 4, 5, 6, 7, 8, 9, 10, 11, 12, 13, 14, 15, 16, 17, 18, 19, 20, 21, 22, 23, 24] := ⟨rfl, rfl, by decide, by decide, by decide, rfl, by decide⟩
theorem zI_copy {Z : Nat → ClassId} {o : Nat} {a b : Nat → Nat} {S T1 T : RS} : zIn (owl Z o a b S T) (rwl Z b T ++ rwl Z a S) (rwl Z b T1 ++ rwl Z a S) (owl Z o a b S T1) [(o, .inr (1, [.ref (a 0), .ref (b 0)]))] [13, 14, 15, 16, 17, 18, 19, 20, 21, 22, 23, 24, 1, 2, 3, 4, 5, 6, 7, 8, 9, 10, 11, 12] [0] [0, 13, 14, 15, 16, 17, 18, 19, 20, 21, 22, 23, 24, 1, 2, 3, 4, 5, 6, 7, 8, 9, 10, 11, 12] := ⟨rfl, rfl, by decide, by decide, by decide, rfl, by decide⟩
-- reads alone, and throws
abbrev zQv (sz : Nat) : Array Value → State → Outcome → State → Prop := va_Qv (fun (_ : Unit) => True) (fun _ _ => True) (fun q => sz ≤ q)
abbrev zX (E : String) (sz : Nat) : String → State → State → Prop := vx_X (fun (_ : Unit) => True) (fun E2 _ _ => E2 = E) (fun q => sz ≤ q)
abbrev zNv : Array Value → State → Outcome → State → Prop := va_Qv (fun (_ : Unit) => False) (fun _ _ => True) (fun _ => True)
abbrev zNi : Array Value → State → Outcome → State → Prop := va_Qi (fun _ (_ : Unit) => False) (fun _ _ => True) (fun _ => True)
def GOv (l : Launch) (y : MethodName) (ws : List Cond) (rm : Room) (D : va_G) (Z : Nat → ClassId) (X : (Nat → Prop) → State → Prop) (av : List Value) (w0 : va_W) : Prop :=
  ∀ sz : Nat, Met l y ws rm (va_Pc av (gPre D Z X w0 sz)) (zQv sz) 0 0 (fun q => sz ≤ q)
def GOi (l : Launch) (y : MethodName) (ws : List Cond) (rm : Room) (D : va_G) (Z : Nat → ClassId) (X : (Nat → Prop) → State → Prop) (av : List Value) (w0 : va_W) (r : Int32) : Prop :=
  ∀ sz : Nat, Met l y ws rm (va_Pc av (gPre D Z X w0 sz)) (zQi r sz) 0 0 (fun q => sz ≤ q)
def GOl (l : Launch) (y : MethodName) (ws : List Cond) (rm : Room) (D : va_G) (Z : Nat → ClassId) (X : (Nat → Prop) → State → Prop) (av : List Value) (w0 : va_W) (r : Int64) : Prop :=
  ∀ sz : Nat, Met l y ws rm (va_Pc av (gPre D Z X w0 sz)) (zQl r sz) 0 0 (fun q => sz ≤ q)
def XTv (l : Launch) (y : MethodName) (ws : List Cond) (rm : Room) (D : va_G) (Z : Nat → ClassId) (X : (Nat → Prop) → State → Prop) (av : List Value) (w0 : va_W) (E : String) : Prop :=
  ∀ sz : Nat, vx_Met l y ws rm (va_Pc av (gPre D Z X w0 sz)) zNv (zX E sz) 1 6 (fun q => sz ≤ q)
def XTi (l : Launch) (y : MethodName) (ws : List Cond) (rm : Room) (D : va_G) (Z : Nat → ClassId) (X : (Nat → Prop) → State → Prop) (av : List Value) (w0 : va_W) (E : String) (mc ms : Nat) : Prop :=
  ∀ sz : Nat, vx_Met l y ws rm (va_Pc av (gPre D Z X w0 sz)) zNi (zX E sz) mc ms (fun q => sz ≤ q)
section PGX
variable {l : Launch} {y : MethodName} {ws ws' : List Cond} {rm : Room} {cc : ByteArray} {nL : Nat} {ret : Option FieldType} {av : List Value} {D : va_G} {Z : Nat → ClassId} {X : (Nat → Prop) → State → Prop} {w0 w1 : va_W} {mc ms : Nat}
theorem GOv.of (hy : plainFor y = true) (hw : ws = Cond.code y cc nL ret :: ws') (hn : (lg_sl av).length ≤ nL)
    (body : ∀ (p : Program) (e : Env) (s : State) (m : MethodId) (below : List Frame) (meth : Method) (c : Code) (A0 : Nat → Prop), Cx p s m av.toArray meth c cc y.cls y.name nL ret ws → X A0 s → (∀ q : Nat, s.heap.size ≤ q → A0 q) → (∀ q : Nat, s.heap.size ≤ q → (fun q : Nat => s.heap.size ≤ q) q) → va_P D vwCl w0 s.heap → zK D Z s → va_D A0 w0 → va_S (fun q : Nat => s.heap.size ≤ q) s.heap s.heap [] → ∀ ls : Array Slot, lv_has ls nL (lv_args 0 av) → W p l e rm s m av.toArray below meth c s.heap [] 0 0 (MQ below (zQv s.heap.size) av.toArray s 0 0 (fun q => s.heap.size ≤ q)) (F0 m 0 ls [])) : GOv l y ws rm D Z X av w0 := fun sz => by
  refine z_open hy hw hn ?_
  intro p e s m below meth c C ⟨⟨hsz, hP, hK, hD⟩, hE⟩ ls hl
  subst hsz
  exact body p e s m below meth c (va_A w0 s.heap.size) C hE (fun _ h => Or.inr h) (fun _ h => h) hP hK hD.self va_S.rf ls hl
theorem GOi.of {r : Int32} (hy : plainFor y = true) (hw : ws = Cond.code y cc nL ret :: ws') (hn : (lg_sl av).length ≤ nL)
    (body : ∀ (p : Program) (e : Env) (s : State) (m : MethodId) (below : List Frame) (meth : Method) (c : Code) (A0 : Nat → Prop), Cx p s m av.toArray meth c cc y.cls y.name nL ret ws → X A0 s → (∀ q : Nat, s.heap.size ≤ q → A0 q) → (∀ q : Nat, s.heap.size ≤ q → (fun q : Nat => s.heap.size ≤ q) q) → va_P D vwCl w0 s.heap → zK D Z s → va_D A0 w0 → va_S (fun q : Nat => s.heap.size ≤ q) s.heap s.heap [] → ∀ ls : Array Slot, lv_has ls nL (lv_args 0 av) → W p l e rm s m av.toArray below meth c s.heap [] 0 0 (MQ below (zQi r s.heap.size) av.toArray s 0 0 (fun q => s.heap.size ≤ q)) (F0 m 0 ls [])) : GOi l y ws rm D Z X av w0 r := fun sz => by
  refine z_open hy hw hn ?_
  intro p e s m below meth c C ⟨⟨hsz, hP, hK, hD⟩, hE⟩ ls hl
  subst hsz
  exact body p e s m below meth c (va_A w0 s.heap.size) C hE (fun _ h => Or.inr h) (fun _ h => h) hP hK hD.self va_S.rf ls hl
theorem GOl.of {r : Int64} (hy : plainFor y = true) (hw : ws = Cond.code y cc nL ret :: ws') (hn : (lg_sl av).length ≤ nL)
    (body : ∀ (p : Program) (e : Env) (s : State) (m : MethodId) (below : List Frame) (meth : Method) (c : Code) (A0 : Nat → Prop), Cx p s m av.toArray meth c cc y.cls y.name nL ret ws → X A0 s → (∀ q : Nat, s.heap.size ≤ q → A0 q) → (∀ q : Nat, s.heap.size ≤ q → (fun q : Nat => s.heap.size ≤ q) q) → va_P D vwCl w0 s.heap → zK D Z s → va_D A0 w0 → va_S (fun q : Nat => s.heap.size ≤ q) s.heap s.heap [] → ∀ ls : Array Slot, lv_has ls nL (lv_args 0 av) → W p l e rm s m av.toArray below meth c s.heap [] 0 0 (MQ below (zQl r s.heap.size) av.toArray s 0 0 (fun q => s.heap.size ≤ q)) (F0 m 0 ls [])) : GOl l y ws rm D Z X av w0 r := fun sz => by
  refine z_open hy hw hn ?_
  intro p e s m below meth c C ⟨⟨hsz, hP, hK, hD⟩, hE⟩ ls hl
  subst hsz
  exact body p e s m below meth c (va_A w0 s.heap.size) C hE (fun _ h => Or.inr h) (fun _ h => h) hP hK hD.self va_S.rf ls hl
theorem vx_open {B : State → Prop} {Qc : Array Value → State → Outcome → State → Prop} {XC : String → State → State → Prop} {free : Addr → Prop} (hy : plainName y.cls = true) (hw : ws = Cond.code y cc nL ret :: ws') (hn : (lg_sl av).length ≤ nL)
    (body : ∀ (p : Program) (e : Env) (s : State) (m : MethodId) (below : List Frame) (meth : Method) (c : Code), Cx p s m av.toArray meth c cc y.cls y.name nL ret ws → (∀ x ∈ c.exceptionTable.toList, False) → B s → ∀ ls : Array Slot, lv_has ls nL (lv_args 0 av) → W p l e rm s m av.toArray below meth c s.heap [] 0 0 (vx_MQ below Qc XC av.toArray s mc ms free) (F0 m 0 ls [])) : vx_Met l y ws rm (va_Pc av B) Qc XC mc ms free := by
  refine vx_ofW (cc := cc) (maxL := nL) (ret := ret) hy hw ?_
  intro p e s m args below meth c s₁ Bd hml hno hv
  obtain ⟨rfl, hB⟩ := hv
  have hl := lv_entry av (n := nL) hn
  rw [lg_entry_eq]
  generalize (lg_sl av ++ List.replicate (nL - (lg_sl av).length) Slot.unset).toArray = ls at hl ⊢
  exact body p e s m below meth c ⟨Bd.exec, Bd.bytes, Bd.returns, hml, findClass_of_methodNamed Bd.named, atoms_spec (ws := ws) Bd.pre, Bd.notSynchronized, (name_of_methodNamed Bd.named Bd.method).1⟩ hno hB ls hl
abbrev xBody (l : Launch) (y : MethodName) (cc : ByteArray) (nL : Nat) (ret : Option FieldType) (ws : List Cond) (rm : Room) (D : va_G) (Z : Nat → ClassId) (X : (Nat → Prop) → State → Prop) (av : List Value) (w0 : va_W) (mc ms : Nat) (Qc : Array Value → State → Outcome → State → Prop) (E : String) : Prop :=
  ∀ (p : Program) (e : Env) (s : State) (m : MethodId) (below : List Frame) (meth : Method) (c : Code) (A0 : Nat → Prop), Cx p s m av.toArray meth c cc y.cls y.name nL ret ws → (∀ x ∈ c.exceptionTable.toList, False) → X A0 s → (∀ q : Nat, s.heap.size ≤ q → A0 q) → (∀ q : Nat, s.heap.size ≤ q → (fun q : Nat => s.heap.size ≤ q) q) → va_P D vwCl w0 s.heap → zK D Z s → va_D A0 w0 → va_S (fun q : Nat => s.heap.size ≤ q) s.heap s.heap [] → ∀ ls : Array Slot, lv_has ls nL (lv_args 0 av) → W p l e rm s m av.toArray below meth c s.heap [] 0 0 (vx_MQ below Qc (zX E s.heap.size) av.toArray s mc ms (fun q => s.heap.size ≤ q)) (F0 m 0 ls [])
theorem XTv.of {E : String} (hy : plainName y.cls = true) (hw : ws = Cond.code y cc nL ret :: ws') (hn : (lg_sl av).length ≤ nL) (body : xBody l y cc nL ret ws rm D Z X av w0 1 6 zNv E) : XTv l y ws rm D Z X av w0 E := fun sz => by
  refine vx_open hy hw hn ?_
  intro p e s m below meth c C hno ⟨⟨hsz, hP, hK, hD⟩, hE⟩ ls hl
  subst hsz
  exact body p e s m below meth c (va_A w0 s.heap.size) C hno hE (fun _ h => Or.inr h) (fun _ h => h) hP hK hD.self va_S.rf ls hl
theorem XTi.of {E : String} (hy : plainName y.cls = true) (hw : ws = Cond.code y cc nL ret :: ws') (hn : (lg_sl av).length ≤ nL) (body : xBody l y cc nL ret ws rm D Z X av w0 mc ms zNi E) : XTi l y ws rm D Z X av w0 E mc ms := fun sz => by
  refine vx_open hy hw hn ?_
  intro p e s m below meth c C hno ⟨⟨hsz, hP, hK, hD⟩, hE⟩ ls hl
  subst hsz
  exact body p e s m below meth c (va_A w0 s.heap.size) C hno hE (fun _ h => Or.inr h) (fun _ h => h) hP hK hD.self va_S.rf ls hl
end PGX
section PGXC
variable {p : Program} {l : Launch} {e : Env} {R : Room} {s : State} {m : MethodId} {args : Array Value} {below : List Frame} {meth : Method} {c : Code} {H : Heap} {locs : List Loc} {cells slots : Nat} {Q : State → Prop} {cc : ByteArray} {pc : Nat} {ls : Array Slot} {D : va_G} {Z : Nat → ClassId} {X : (Nat → Prop) → State → Prop} {w w0 w1 w2 wr : va_W} {A : Nat → Prop} {H0 : Heap} {mc ms nL n index maxL : Nat} {a : Array Value}
variable {y : MethodName} {bytes : ByteArray} {ret : Option FieldType} {wsy ws' Ts : List Cond} {rm : Room} {own C host : String} {b : Addr} {As rest st0 : List Value}
theorem z_VN {Qd : Nat → Array Value → State → Outcome → State → Prop} {fd : Nat → Addr → Prop} {q0 ci : Nat} {fs : List Value} {q : vw_C} (S : CallFix p m c cc nL s args Ts own) (hM : ∀ sz : Nat, Met l y wsy rm (va_Pc (.ref b :: As) (zPre D Z w0 sz)) (Qd sz) mc ms (fd sz)) (hg : GoodIn Ts wsy) (hw : wsy = Cond.code y bytes maxL ret :: ws') (hrc : rm.cells = mc) (hrs : rm.slots = ms)
    (hl : va_Nw (.methodLinkNest own index y host) s) (hini : (Cond.initialized y.cls).before args s = true) (hinst : (Cond.instanceMethod y).before args s = true) (hsel : (Cond.selects C y y).before args s = true)
    (hd : y.cls = C ∧ y.cls ≠ "java/lang/invoke/MethodHandle" ∧ y.cls ≠ "java/lang/invoke/VarHandle" ∧ (parseMethodDescriptor y.desc).map (fun d => d.parameters.length) = some n) (hR : rm.frames + 1 ≤ R.frames ∧ 8 + (maxL + 11) + rm.locals ≤ R.locals)
    (hK : zK D Z s) (hP : va_P D vwCl w0 H) (hD : va_D A w0) (hr : w0[q0]? = some (b, .inr (ci, fs))) (hc : vwCl[ci]? = some q) (hq : q.1 = C) (hn : As.length = n) (hsz : ls.size = nL) (hst : st0 = As.reverse ++ .ref b :: rest) (hroom : (rest.map fun v => v.category).sum ≤ 8) (hdg : decode cc pc = .ok (.invokevirtual index, 3)) (hf : cells + mc ≤ R.cells ∧ slots + ms ≤ R.slots) :
    va_Run p l e R s m args below meth c H locs cells slots mc ms (F0 m pc ls st0) rest (Qd H.size (Value.ref b :: As).toArray) (fd H.size) := by
  subst hq
  exact va_runVN S (hM H.size) ⟨va_cnB n S.2.2.2.2 hg hw hrc hrs hl hini hd.2 hR, hinst, hsel⟩ ⟨z_blind, va_recv hK hP hc hr, z_pre hK hP hD⟩ rfl hn hsz hst (lv_room hroom) hdg hf
theorem va_S.up {A1 : Nat → Prop} (h : va_S A1 H0 H locs) (hA : ∀ q, A1 q → A q) : va_S A H0 H locs := ⟨h.1, fun q h1 h2 => h.2.1 q h1 (fun z => h2 (hA q z)), fun q hq => hA _ (h.2.2 q hq)⟩
/-- a call that reads alone, answers nothing -/
theorem zc_v (hr : va_Run p l e R s m args below meth c H locs cells slots mc ms (F0 m pc ls st0) rest (zQv H.size a) (fun q => H.size ≤ q)) (hP : va_P D vwCl w H) (hS : va_S A H0 H locs) (hA : ∀ q, H0.size ≤ q → A q)
    (kk : ∀ (H1 : Heap) (locs1 : List Loc), va_P D vwCl w H1 → va_S A H0 H1 locs1 → W p l e R s m args below meth c H1 locs1 (cells + mc) (slots + ms) Q (F0 m (pc + 3) ls rest)) : W p l e R s m args below meth c H locs cells slots Q (F0 m pc ls st0) := by
  refine va_callv hr hS (fun q h1 h2 => absurd h2 (Nat.not_le.mpr h1)) (fun q h => hA q (Nat.le_trans hS.1 h)) (fun u t H1 locs1 _ _ _ _ _ hk hS1 => ?_)
  exact kk H1 locs1 (hP.kept (fun k q hq => hk q.1 (hP k q hq).lt (Nat.not_le.mpr (hP k q hq).lt))) hS1
/-- an instance method of the own kind that throws -/
theorem z_VX {Qc : Array Value → State → Outcome → State → Prop} {XC : Nat → String → State → State → Prop} {fd : Nat → Addr → Prop} {q0 ci : Nat} {fs : List Value} {q : vw_C} (hX : XOK X) (hE : X A s) (hS : va_S A s.heap H locs) (hA : ∀ q, s.heap.size ≤ q → A q) (S : CallFix p m c cc nL s args Ts own) (hM : ∀ sz : Nat, vx_Met l y wsy rm (va_Pc (.ref b :: As) (gPre D Z X w0 sz)) Qc (XC sz) mc ms (fd sz)) (hg : GoodIn Ts (wsV own index C y wsy)) (hw : wsy = Cond.code y bytes maxL ret :: ws') (hrc : rm.cells = mc) (hrs : rm.slots = ms)
    (hd : y.cls = C ∧ y.cls ≠ "java/lang/invoke/MethodHandle" ∧ y.cls ≠ "java/lang/invoke/VarHandle" ∧ (parseMethodDescriptor y.desc).map (fun d => d.parameters.length) = some n) (hR : rm.frames + 1 ≤ R.frames ∧ 8 + (maxL + 11) + rm.locals ≤ R.locals)
    (hK : zK D Z s) (hP : va_P D vwCl w0 H) (hD : va_D A w0) (hr : w0[q0]? = some (b, .inr (ci, fs))) (hc : vwCl[ci]? = some q) (hq : q.1 = C) (hn : As.length = n) (hsz : ls.size = nL) (hst : st0 = As.reverse ++ .ref b :: rest) (hroom : (rest.map fun v => v.category).sum ≤ 8) (hdg : decode cc pc = .ok (.invokevirtual index, 3)) (hf : cells + mc ≤ R.cells ∧ slots + ms ≤ R.slots) :
    vx_Run p l e R s m args below meth c H locs cells slots mc ms (F0 m pc ls st0) rest (Qc (Value.ref b :: As).toArray) (XC H.size) (fd H.size) := by
  subst hq
  exact vx_runV S (hM H.size) (cwV n S.2.2.2.2 hg hw hrc hrs hd hR) ⟨g_blind hX, va_recv hK hP hc hr, g_pre hX hE hS (z_hF hD hS hA) hK hP hD⟩ rfl hn hsz hst (lv_room hroom) hdg hf
/-- a callee that throws for sure, in a method without handlers: the throw goes on -/
theorem zx_out {E : String} {Qx : Array Value → State → Outcome → State → Prop} (hno : ∀ x ∈ c.exceptionTable.toList, False) (hlk : meth.locks = false) (hr : vx_Run p l e R s m args below meth c H locs cells slots 1 6 (F0 m pc ls st0) rest (zNv a) (zX E H.size) (fun q => H.size ≤ q)) (hS : va_S (fun q : Nat => s.heap.size ≤ q) s.heap H locs) (h1 : cells + 1 ≤ mc) (h2 : slots + 6 ≤ ms) :
    W p l e R s m args below meth c H locs cells slots (vx_MQ below Qx (zX E s.heap.size) args s mc ms (fun q => s.heap.size ≤ q)) (F0 m pc ls st0) := by
  intro T hT X0
  rcases hr T hT X0 with ⟨v, st₀, t, T', L, h0, X', hL, e1, e2, ⟨⟨u, hv, hp, hb⟩, hF⟩, st⟩ | ⟨q, st₀, t, T', L, E2, ce, h0, X', hL, e1, e2, ⟨u, hp, hb, hF⟩, hce, hcv, hcl, st⟩
  · exact hp.elim
  · subst hb
    have hz : H.size ≤ T'.heap.size := by rw [e1, ← h0]; exact hF.1
    have hk : ∀ q : Nat, q < H.size → T'.heap[q]? = H[q]? := fun q h1 => by rw [e1, ← h0]; exact hF.2 q (by rw [h0]; exact h1) (Nat.not_le.mpr h1)
    obtain ⟨t2, a1, b1⟩ := vx_out (rest := rest) (pc := pc) (ls := ls) (Qc := Qx) (XC := zX E2 s.heap.size) (q := q) (ce := ce) (E := E2) (H := T'.heap) (locs := locs ++ L) (cells := cells + 1) (slots := slots + 6) (free := fun q => s.heap.size ≤ q) (mc := mc) (ms := ms) (fun x hx => (hno x hx).elim) hlk (by rw [e1]; exact hce) hcv hcl
      (fun t9 ht9 _ => ⟨(), trivial, rfl, by rw [ht9]; exact Nat.le_trans hS.1 hz, fun q h1 h2 => by rw [ht9, hk q (Nat.lt_of_lt_of_le h1 hS.1)]; exact hS.2.1 q h1 h2⟩)
      (fun z hz9 => (List.mem_append.mp hz9).elim (fun h => hS.2.2 z h) (fun h => Nat.le_trans hS.1 (hL z h))) h1 h2 T' rfl X'
    exact ⟨t2, st.trans a1, b1⟩
/-- throw new E("text") -/
theorem zx_throw {E text : String} {ik is ic : Nat} {Qx : Array Value → State → Outcome → State → Prop} {A0 : Nat → Prop} (hx : p.tables.exec = Jvm.exec) (hb : c.code = cc) (hl : l.stackTraces = false) (hown : s.vm.findClass RX1 = some m.cls) (hno : ∀ x ∈ c.exceptionTable.toList, False) (hlk : meth.locks = false) (hE : xE A0 s) (hA0 : ∀ q : Nat, s.heap.size ≤ q → A0 q)
    (hcls : Bundle.fit E = true) (hk : (Cond.classLink RX1 ik E).before args s = true) (hini : (Cond.initialized E).before args s = true) (hst : (is, text) ∈ xSt)
    (hat : ∀ w ∈ (vx_atS RX1 ic E ["java/lang/RuntimeException", "java/lang/Exception"]).filter goodWord, w.before args s = true) (hcs : E ∈ xCs) (hng : ∀ w ∈ (vx_atS RX1 ic E ["java/lang/RuntimeException", "java/lang/Exception"]).filter (fun w => !goodWord w), w ∈ [Cond.castable E E, Cond.declares (Bundle.initS "java/lang/RuntimeException"), Cond.declares (Bundle.initS "java/lang/Exception"), Cond.declares (Bundle.initS "java/lang/Throwable")])
    (hgood : ∀ w ∈ Cond.classLink RX1 ik E :: Cond.initialized E :: vx_atS RX1 ic E ["java/lang/RuntimeException", "java/lang/Exception"], vx_ot w = true)
    (hS : va_S (fun q : Nat => s.heap.size ≤ q) s.heap H locs) (hsize : ls.size = c.maxLocals)
    (d0 : decode cc pc = .ok (.new ik, 3)) (d3 : decode cc (pc + 3) = .ok (.dup, 1)) (d4 : decode cc (pc + 4) = .ok (.ldc is, 2)) (d6 : decode cc (pc + 6) = .ok (.invokespecial ic, 3)) (d9 : decode cc (pc + 9) = .ok (.athrow, 1))
    (hR1 : 5 < R.frames) (hR2 : (rest.map fun v => v.category).sum + 82 ≤ R.locals) (hR3 : cells + 1 ≤ R.cells) (hR4 : slots + 6 ≤ R.slots) (h1 : cells + 1 ≤ mc) (h2 : slots + 6 ≤ ms) :
    W p l e R s m args below meth c H locs cells slots (vx_MQ below Qx (zX E s.heap.size) args s mc ms (fun q => s.heap.size ≤ q)) (F0 m pc ls rest) := by
  obtain ⟨e1, e2, e3, -, -, e6, e7⟩ := hE
  obtain ⟨sa, hsa⟩ := e3 _ hst
  refine vx_throwS (A := fun q : Nat => s.heap.size ≤ q) (sa := sa) hx hb hl hown hcls (by decide +kernel) hk hini hsa (vx_hat hat hng (vx_c (va_Nw.use rfl (e6 E hcs)) (vx_c (va_Nw.use rfl (e7 _ (List.mem_of_getElem? (i := 0) rfl))) (vx_c (va_Nw.use rfl (e7 _ (List.mem_of_getElem? (i := 1) rfl))) (vx_c (va_Nw.use rfl (e7 _ (List.mem_of_getElem? (i := 2) rfl))) vx_n))))) hgood (e1.narrow hA0) (e2.narrow hA0) hS hsize d0 d3 d4 d6 d9 (fun x hx => (hno x hx).elim) hR1 hR2 hR3 hR4 hlk
    (fun t _ hz hk => ⟨(), trivial, rfl, Nat.le_trans hS.1 hz, fun q h1 h2 => by rw [hk q (Nat.lt_of_lt_of_le h1 hS.1)]; exact hS.2.1 q h1 h2⟩) hS.2.2 h1 h2
theorem zr_v (hx : p.tables.exec = Jvm.exec) (hb : c.code = cc) (hr : meth.sig.returnType = none) (hlk : meth.locks = false) (hS : va_S (fun q : Nat => s.heap.size ≤ q) s.heap H locs) (h1 : cells ≤ mc) (h2 : slots ≤ ms) (hdg : decode cc pc = .ok (.return_, 1)) : W p l e R s m args below meth c H locs cells slots (MQ below (zQv s.heap.size) args s mc ms (fun q => s.heap.size ≤ q)) (F0 m pc ls []) := by
  refine W.widen h1 h2 ?_
  exact W.vret hx hb hr (fun t ht hW => ⟨⟨(), rfl, trivial, trivial⟩, hS.F ht⟩) hS.2.2 hdg hlk
end PGXC

