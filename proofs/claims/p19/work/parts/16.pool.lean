-- a heap of any number of cells: the addresses, what lies there
abbrev PH : Type := List Nat × (Nat → va_E)
abbrev vQ (n : Nat) (f : Nat → Option Nat) : vp_A := (n, .inr (.inr (.inr (.inr f))))
def hw (X : va_W) (h : PH) : va_W := X ++ va_pl h.1 h.2
def hup (h : PH) (a : Nat) (e : va_E) : PH := (h.1, va_up h.2 a e)
def had (h : PH) (a : Nat) (e : va_E) : PH := (h.1 ++ [a], va_up h.2 a e)
-- what is done with it: each says what must be so, and goes on
def gI (h : PH) (c k a : Nat) (K : Int32 → Prop) : Prop := ∃ vs v, a ∈ h.1 ∧ h.2 a = .inr (c, vs) ∧ vs[k]? = some (.int v) ∧ K v
def gR (h : PH) (c k a : Nat) (K : Nat → Prop) : Prop := ∃ vs b, a ∈ h.1 ∧ h.2 a = .inr (c, vs) ∧ vs[k]? = some (.ref b) ∧ K b
def pV (h : PH) (c k a : Nat) (v : Value) (K : PH → Prop) : Prop := ∃ vs, a ∈ h.1 ∧ h.2 a = .inr (c, vs) ∧ k < vs.length ∧ K (hup h a (.inr (c, vs.set k v)))
def lI (Z : Nat → ClassId) (h : PH) (a : Nat) (K : Int32 → Prop) : Prop := ∃ n f, a ∈ h.1 ∧ h.2 a = .inl (Z 0, n, .inl f) ∧ K (nI n)
def lQ (Z : Nat → ClassId) (h : PH) (t a : Nat) (K : Int32 → Prop) : Prop := ∃ n f, a ∈ h.1 ∧ h.2 a = .inl (Z t, vQ n f) ∧ K (nI n)
def ldI (Z : Nat → ClassId) (h : PH) (a : Nat) (i : Int32) (K : Int32 → Prop) : Prop := ∃ n f, a ∈ h.1 ∧ h.2 a = .inl (Z 0, n, .inl f) ∧ vp_in i n ∧ K (f i.toNatClampNeg)
def sA (Z : Nat → ClassId) (h : PH) (a : Nat) (i x : Int32) (K : PH → Prop) : Prop := ∃ n f, a ∈ h.1 ∧ h.2 a = .inl (Z 0, n, .inl f) ∧ vp_in i n ∧ K (hup h a (.inl (Z 0, n, .inl (upd f i.toNatClampNeg x))))
def ldQ (Z : Nat → ClassId) (h : PH) (t a : Nat) (i : Int32) (K : Nat → Prop) : Prop := ∃ n f b, a ∈ h.1 ∧ h.2 a = .inl (Z t, vQ n f) ∧ vp_in i n ∧ f i.toNatClampNeg = some b ∧ K b
def sQ1 (Z : Nat → ClassId) (h : PH) (a : Nat) (i : Int32) (b : Nat) (K : PH → Prop) : Prop := ∃ n f, a ∈ h.1 ∧ h.2 a = .inl (Z 1, vQ n f) ∧ vp_in i n ∧ (∃ vs, b ∈ h.1 ∧ h.2 b = .inr (2, vs)) ∧ K (hup h a (.inl (Z 1, vQ n (va_up f i.toNatClampNeg (some b)))))
def sQ2 (Z : Nat → ClassId) (h : PH) (a : Nat) (i : Int32) (b : Nat) (K : PH → Prop) : Prop := ∃ n f, a ∈ h.1 ∧ h.2 a = .inl (Z 2, vQ n f) ∧ vp_in i n ∧ (∃ n1 g, b ∈ h.1 ∧ h.2 b = .inl (Z 0, n1, .inl g)) ∧ K (hup h a (.inl (Z 2, vQ n (va_up f i.toNatClampNeg (some b)))))
def sQ3 (Z : Nat → ClassId) (h : PH) (a : Nat) (i : Int32) (b : Nat) (K : PH → Prop) : Prop := ∃ n f, a ∈ h.1 ∧ h.2 a = .inl (Z 3, vQ n f) ∧ vp_in i n ∧ (∃ n1 g, b ∈ h.1 ∧ h.2 b = .inl (Z 2, vQ n1 g)) ∧ K (hup h a (.inl (Z 3, vQ n (va_up f i.toNatClampNeg (some b)))))
def nO (h : PH) (c : Nat) (vs : List Value) (K : Nat → PH → Prop) : Prop := ∀ q, q ∉ h.1 → K q (had h q (.inr (c, vs)))
def nA (Z : Nat → ClassId) (h : PH) (n : Int32) (cap : Nat) (K : Nat → PH → Prop) : Prop := ¬ n < 0 ∧ n.toNatClampNeg ≤ cap ∧ ∀ q, q ∉ h.1 → K q (had h q (.inl (Z 0, n.toNatClampNeg, .inl (fun _ => 0))))
def nQ (Z : Nat → ClassId) (h : PH) (t : Nat) (n : Int32) (cap : Nat) (K : Nat → PH → Prop) : Prop := ¬ n < 0 ∧ n.toNatClampNeg ≤ cap ∧ ∀ q, q ∉ h.1 → K q (had h q (.inl (Z t, vQ n.toNatClampNeg (fun _ => none))))
def opm (v : Option Nat) (A : Prop) (B : Nat → Prop) : Prop := match v with | none => A | some b => B b
def okP {α : Type} (x : Option (Except String α)) (k : α → Prop) : Prop := ∃ v, x = some (.ok v) ∧ k v
def obP {α : Type} (x : Option α) (k : α → Prop) : Prop := ∃ v, x = some v ∧ k v
def okP3 {α β γ : Type} (x : Option (Except String (α × β × γ))) (k : α → β → γ → Prop) : Prop := ∃ v u w, x = some (.ok (v, u, w)) ∧ k v u w
theorem opm_n {A : Prop} {B : Nat → Prop} (h : opm none A B) : A := h
theorem opm_s {A : Prop} {B : Nat → Prop} {b : Nat} (h : opm (some b) A B) : B b := h
theorem itP {q : Prop} {dq : Decidable q} {a b : Prop} (h : ite q a b) (hc : q) : a := by rw [if_pos hc] at h; exact h
theorem ifP {q : Prop} {dq : Decidable q} {a b : Prop} (h : ite q a b) (hc : ¬ q) : b := by rw [if_neg hc] at h; exact h
-- the words of the tables for rows of rows
def tAO (t : FieldType) (U : State) : Prop := (Cond.arrayOver (.array t)).before #[] U = true
theorem tAO.moved {t : FieldType} {u U : State} (hvm : u.vm.Alike U.vm) (h : tAO t u) : tAO t U := by
  obtain ⟨comp, c, k, h1, h2, h3, h4, h5⟩ := arrayOverA_spec h
  obtain ⟨k', hk', he⟩ := hvm.2.2 _ _ h3
  have hi : (U.vm.classes.findIdx? fun (x : Class) => match x.kind with | .array component _ => component == comp | _ => false) = some c := by
    rw [hvm.findIdx?_eq _ (fun _ => rfl)]
    exact h2
  have hkind : k'.kind = .array comp (.array t) := by rw [he]; exact h4
  have f1 : U.vm.findClass (FieldType.array t).toString = some comp := by rw [hvm.findClass]; exact h1
  have f2 : U.vm.findClass ("[" ++ (FieldType.array t).toString) = some c := by rw [hvm.findClass]; exact h5
  unfold tAO Cond.before Cond.holds
  simp only [Cond.value]
  rw [f1, Option.bind_some]
  refine (congrArg (fun o : Option Nat => (o.bind (fun c => (U.vm.classes[c]?).map fun (k : Class) => match k.kind with | .array _ ty => decide (ty = FieldType.array t) && decide (U.vm.findClass ("[" ++ (FieldType.array t).toString) = some c) | _ => false) == some true)) hi).trans ?_
  simp [hk', hkind, f2]
def oE : State → Prop := fun U => tAO .int U ∧ tAO (.array .int) U ∧ va_AO "PodGuidewayLaw$Pod" U ∧ va_Nw (.methodLinkNest RL 39 yX2_init RL) U ∧ va_Nw (.methodLinkNest RL 70 yX3_init RL) U
def pE : (Nat → Prop) → State → Prop := fun A U => xE A U ∧ oE U
theorem pE_ok : XOK pE := ⟨fun A U g mk a h => ⟨xE_ok.1 _ _ _ _ _ h.1, tAO.moved (Vm.Alike.refl U.vm) h.2.1, tAO.moved (Vm.Alike.refl U.vm) h.2.2.1, va_AO.moved (u := U) (U := U.calling g mk a) (Vm.Alike.refl U.vm) h.2.2.2.1, va_Nw.same rfl (u := U) (U := U.calling g mk a) rfl h.2.2.2.2.1, va_Nw.same rfl (u := U) (U := U.calling g mk a) rfl h.2.2.2.2.2⟩, fun A A1 s U H locs h hS hF hU hW => ⟨xE_ok.2 _ _ _ _ _ _ h.1 hS hF hU hW, tAO.moved hW.alike h.2.1, tAO.moved hW.alike h.2.2.1, va_AO.moved hW.alike h.2.2.2.1, va_Nw.warmM hW h.2.2.2.2.1, va_Nw.warmM hW h.2.2.2.2.2⟩⟩
-- the script that the law is given: it lies outside of what is written
def sE (bs L : Nat) (xs : Nat → Int32) : (Nat → Prop) → State → Prop := fun A U => pE A U ∧ va_X bs L xs U U.heap ∧ bs < U.heap.size ∧ ¬ A bs
theorem sE_ok {bs L : Nat} {xs : Nat → Int32} : XOK (sE bs L xs) := ⟨fun A U g mk a h => ⟨pE_ok.1 _ _ _ _ _ h.1, va_X.moved (u := U) (U := U.calling g mk a) (Vm.Alike.refl U.vm) h.2.1, h.2.2⟩, fun A A1 s U H locs h hS hF hU hW => ⟨pE_ok.2 _ _ _ _ _ _ h.1 hS hF hU hW, va_X.moved hW.alike (h.2.1.kept (by rw [hU]; exact hS.2.1 bs h.2.2.1 h.2.2.2)), by rw [hU]; exact Nat.lt_of_lt_of_le h.2.2.1 hS.1, fun q => h.2.2.2 (hF _ q)⟩⟩
theorem t_kind {D : va_G} {Z : Nat → ClassId} {s : State} {t : FieldType} {z z0 k k0 : Nat} (hK : zK D Z s) (h : tAO t s) (hz : (zT Z)[k]? = some (Z z, .array t)) (hz0 : (zT Z)[k0]? = some (Z z0, t)) (hne : ∀ C, t ≠ .object C) : ∃ kA kI : Class, s.vm.classes[Z z]? = some kA ∧ kA.kind = .array (Z z0) (.array t) ∧ s.vm.classes[Z z0]? = some kI := by
  obtain ⟨comp, c, kk, h1, h2, h3, h4, h5⟩ := arrayOverA_spec h
  have e1 : s.vm.findClass ("[" ++ t.toString) = some (Z z0) := by
    have := (hK.2 k0 _ hz0).2
    cases t with
    | object C => exact absurd rfl (hne C)
    | _ => exact this
  have e2 : s.vm.findClass ("[" ++ (FieldType.array t).toString) = some (Z z) := (hK.2 k _ hz).2
  have e3 : c = Z z := Option.some.inj (h5.symm.trans e2)
  have e4 : comp = Z z0 := Option.some.inj (h1.symm.trans (show s.vm.findClass (FieldType.array t).toString = some (Z z0) from e1))
  subst e3
  subst e4
  obtain ⟨kI, hkI, -⟩ := Vm.findClass_spec h1
  exact ⟨kk, kI, h3, h4, hkI⟩
section POOL
variable {p : Program} {l : Launch} {e : Env} {R : Room} {s : State} {m : MethodId} {args : Array Value} {below : List Frame} {meth : Method} {c : Code} {H : Heap} {locs : List Loc} {cells slots : Nat} {Q : State → Prop} {cc : ByteArray} {pc : Nat} {ls : Array Slot} {rest : List Value} {D : va_G} {Z : Nat → ClassId} {A : Nat → Prop} {X : va_W} {H0 : Heap} {h : PH} {a b : Nat} {i : Int32}
theorem hw_get (ha : a ∈ h.1) : ∃ k : Nat, (hw X h)[k]? = some (a, h.2 a) := va_pl_get ha
theorem hw_set {k : Nat} {e1 : va_E} (hD : va_D A (hw X h)) (ha : a ∈ h.1) (hk : (hw X h)[k]? = some (a, h.2 a)) : (hw X h).set k (a, e1) = hw X (hup h a e1) := va_pl_set hD ha hk
theorem hw_push {q : Nat} {e1 : va_E} (hq : q ∉ h.1) : hw X h ++ [(q, e1)] = hw X (had h q e1) := by
  unfold hw had
  rw [List.append_assoc, va_pl_push hq]
theorem hw_new {q : Nat} {e1 : va_E} (hD : va_D A (hw X h ++ [(q, e1)])) : q ∉ h.1 := va_pl_fresh2 hD
variable {own C : String} {T : u_T} {N ci index k : Nat} {Ts : List Cond}
theorem z_gI {K : Int32 → Prop} (hf : gI h ci k a K) (hx : p.tables.exec = Jvm.exec) (hb : c.code = cc) (hts : ∀ w ∈ Ts, w.before args s = true) (hin : ∀ w ∈ u_ws C T N, w ∈ Ts) (hown : s.vm.findClass own = some m.cls) (hK : zK D Z s) (hP : va_P D vwCl (hw X h) H) (hc : vwCl[ci]? = some (C, T, N)) (hk : k < N) (hlink : (Cond.fieldLink own index (T k).1 (T k).2.1 (T k).2.2.1).before args s = true) (hdg : decode cc pc = .ok (.getfield index, 3))
    (kk : ∀ v, K v → W p l e R s m args below meth c H locs cells slots Q (F0 m (pc + 3) ls (.int v :: rest))) : W p l e R s m args below meth c H locs cells slots Q (F0 m pc ls (.ref a :: rest)) := by
  obtain ⟨vs, v, ha, he, hv, hK2⟩ := hf
  obtain ⟨j, hj⟩ := hw_get (X := X) ha
  rw [he] at hj
  exact va_get hx hb hts hin hown hK hP j hj hc k hk hlink (fun _ h9 => h9) hv hdg (kk v hK2)
theorem z_gR {K : Nat → Prop} (hf : gR h ci k a K) (hx : p.tables.exec = Jvm.exec) (hb : c.code = cc) (hts : ∀ w ∈ Ts, w.before args s = true) (hin : ∀ w ∈ u_ws C T N, w ∈ Ts) (hown : s.vm.findClass own = some m.cls) (hK : zK D Z s) (hP : va_P D vwCl (hw X h) H) (hc : vwCl[ci]? = some (C, T, N)) (hk : k < N) (hlink : (Cond.fieldLink own index (T k).1 (T k).2.1 (T k).2.2.1).before args s = true) (hdg : decode cc pc = .ok (.getfield index, 3))
    (kk : ∀ b, K b → W p l e R s m args below meth c H locs cells slots Q (F0 m (pc + 3) ls (.ref b :: rest))) : W p l e R s m args below meth c H locs cells slots Q (F0 m pc ls (.ref a :: rest)) := by
  obtain ⟨vs, v, ha, he, hv, hK2⟩ := hf
  obtain ⟨j, hj⟩ := hw_get (X := X) ha
  rw [he] at hj
  exact va_get hx hb hts hin hown hK hP j hj hc k hk hlink (fun _ h9 => h9) hv hdg (kk v hK2)
theorem z_pV {K : PH → Prop} {v : Value} {ty : FieldType} (hf : pV h ci k a v K) (hx : p.tables.exec = Jvm.exec) (hb : c.code = cc) (hts : ∀ w ∈ Ts, w.before args s = true) (hin : ∀ w ∈ u_ws C T N, w ∈ Ts) (ty0 : Nat → FieldType) (hty : ∀ k, k < N → parseFieldDescriptor (T k).2.2.1 = some (ty0 k)) (hnm : ∀ a, a < N → ∀ b, b < N → a ≠ b → (T a).2.1 ≠ (T b).2.1) (hown : s.vm.findClass own = some m.cls) (hK : zK D Z s) (hP : va_P D vwCl (hw X h) H) (hD : va_D A (hw X h)) (hS : va_S A H0 H locs) (hc : vwCl[ci]? = some (C, T, N)) (hk : k < N) (hlink : (Cond.fieldLink own index (T k).1 (T k).2.1 (T k).2.2.1).before args s = true)
    (hfin : (T k).2.2.2 = false) (hd : parseFieldDescriptor (T k).2.2.1 = some ty) (hn : narrow ty v = v) (hfit : fits ty v = true) (hdg : decode cc pc = .ok (.putfield index, 3))
    (kk : ∀ (h1 : PH) (H1 : Heap) (locs1 : List Loc), K h1 → va_P D vwCl (hw X h1) H1 → va_D A (hw X h1) → va_S A H0 H1 locs1 → W p l e R s m args below meth c H1 locs1 cells slots Q (F0 m (pc + 3) ls rest)) : W p l e R s m args below meth c H locs cells slots Q (F0 m pc ls (v :: .ref a :: rest)) := by
  obtain ⟨vs, ha, he, hl, hK2⟩ := hf
  obtain ⟨j, hj⟩ := hw_get (X := X) ha
  have hj2 := hj
  rw [he] at hj
  refine va_put hx hb hts hin ty0 hty hnm hown hK hP hD hS j hj hc k hk hlink (fun _ h9 => h9) hfin hd hn hfit hl hdg (fun H1 locs1 hP1 hD1 hS1 => ?_)
  rw [hw_set hD ha hj2] at hP1 hD1
  exact kk _ H1 locs1 hK2 hP1 hD1 hS1
theorem z_lI {K : Int32 → Prop} (hf : lI Z h a K) (hx : p.tables.exec = Jvm.exec) (hb : c.code = cc) (hK : zK D Z s) (hP : va_P D vwCl (hw X h) H) (hdg : decode cc pc = .ok (.arraylength, 1))
    (kk : ∀ v, K v → W p l e R s m args below meth c H locs cells slots Q (F0 m (pc + 1) ls (.int v :: rest))) : W p l e R s m args below meth c H locs cells slots Q (F0 m pc ls (.ref a :: rest)) := by
  obtain ⟨n, f, ha, he, hK2⟩ := hf
  obtain ⟨j, hj⟩ := hw_get (X := X) ha
  rw [he] at hj
  exact va_alen hx hb hK hP j 0 hj rfl rfl hdg (kk _ hK2)
theorem z_lQ {K : Int32 → Prop} {t tz : Nat} {ty : FieldType} (hf : lQ Z h t a K) (hx : p.tables.exec = Jvm.exec) (hb : c.code = cc) (hK : zK D Z s) (hz : (zT Z)[tz]? = some (Z t, ty)) (hP : va_P D vwCl (hw X h) H) (hdg : decode cc pc = .ok (.arraylength, 1))
    (kk : ∀ v, K v → W p l e R s m args below meth c H locs cells slots Q (F0 m (pc + 1) ls (.int v :: rest))) : W p l e R s m args below meth c H locs cells slots Q (F0 m pc ls (.ref a :: rest)) := by
  obtain ⟨n, f, ha, he, hK2⟩ := hf
  obtain ⟨j, hj⟩ := hw_get (X := X) ha
  rw [he] at hj
  exact va_alen hx hb hK hP j tz hj hz rfl hdg (kk _ hK2)
theorem z_aI {K : Int32 → Prop} (hf : ldI Z h a i K) (hx : p.tables.exec = Jvm.exec) (hb : c.code = cc) (hK : zK D Z s) (hP : va_P D vwCl (hw X h) H) (hdg : decode cc pc = .ok (.iaload, 1))
    (kk : ∀ v, K v → W p l e R s m args below meth c H locs cells slots Q (F0 m (pc + 1) ls (.int v :: rest))) : W p l e R s m args below meth c H locs cells slots Q (F0 m pc ls (.int i :: .ref a :: rest)) := by
  obtain ⟨n, f, ha, he, hi, hK2⟩ := hf
  obtain ⟨j, hj⟩ := hw_get (X := X) ha
  rw [he] at hj
  exact va_iald hx hb hK hP j 0 hj rfl hi hdg (kk _ hK2)
theorem z_sA {K : PH → Prop} {x : Int32} (hf : sA Z h a i x K) (hx : p.tables.exec = Jvm.exec) (hb : c.code = cc) (hK : zK D Z s) (hP : va_P D vwCl (hw X h) H) (hD : va_D A (hw X h)) (hS : va_S A H0 H locs) (hdg : decode cc pc = .ok (.iastore, 1))
    (kk : ∀ (h1 : PH) (H1 : Heap) (locs1 : List Loc), K h1 → va_P D vwCl (hw X h1) H1 → va_D A (hw X h1) → va_S A H0 H1 locs1 → W p l e R s m args below meth c H1 locs1 cells slots Q (F0 m (pc + 1) ls rest)) : W p l e R s m args below meth c H locs cells slots Q (F0 m pc ls (.int x :: .int i :: .ref a :: rest)) := by
  obtain ⟨n, f, ha, he, hi, hK2⟩ := hf
  obtain ⟨j, hj⟩ := hw_get (X := X) ha
  have hj2 := hj
  rw [he] at hj
  refine va_iast hx hb hK hP hD hS j 0 hj rfl hi hdg (fun H1 locs1 hP1 hD1 hS1 => ?_)
  rw [hw_set hD ha hj2] at hP1 hD1
  exact kk _ H1 locs1 hK2 hP1 hD1 hS1
theorem z_aQ {K : Nat → Prop} {t tz : Nat} {ty : FieldType} (hf : ldQ Z h t a i K) (hx : p.tables.exec = Jvm.exec) (hb : c.code = cc) (hK : zK D Z s) (hz : (zT Z)[tz]? = some (Z t, ty)) (hr : ty.isReference = true) (hP : va_P D vwCl (hw X h) H) (hdg : decode cc pc = .ok (.aaload, 1))
    (kk : ∀ b, K b → W p l e R s m args below meth c H locs cells slots Q (F0 m (pc + 1) ls (.ref b :: rest))) : W p l e R s m args below meth c H locs cells slots Q (F0 m pc ls (.int i :: .ref a :: rest)) := by
  obtain ⟨n, f, b, ha, he, hi, hv, hK2⟩ := hf
  obtain ⟨j, hj⟩ := hw_get (X := X) ha
  rw [he] at hj
  have hlt : i.toNatClampNeg < n := Nat.not_le.mp fun q => hi (Or.inr q)
  have h9 := kk b hK2
  rw [show (Value.ref b) = va_rf (f i.toNatClampNeg) from by rw [hv]; rfl] at h9
  exact W.aald (v := va_rf (f i.toNatClampNeg)) (ty := ty) hx hb (hP j _ hj) ((hK.2 tz _ hz).1 n (fun j => va_rf (f j))) hr (fun q => by cases q) (by show ¬ (i < 0 ∨ (arrV _ _ _).slots.size ≤ _); rw [arrV_size]; exact hi) (by show (arrV _ _ _).slots[_]? = _; rw [arrV_read _ _ hlt]) rfl rfl hdg h9
theorem z_sQ1 {K : PH → Prop} (hf : sQ1 Z h a i b K) (hx : p.tables.exec = Jvm.exec) (hb : c.code = cc) (hK : zK D Z s) (hP : va_P D vwCl (hw X h) H) (hD : va_D A (hw X h)) (hS : va_S A H0 H locs) (hdg : decode cc pc = .ok (.aastore, 1))
    (kk : ∀ (h1 : PH) (H1 : Heap) (locs1 : List Loc), K h1 → va_P D vwCl (hw X h1) H1 → va_D A (hw X h1) → va_S A H0 H1 locs1 → W p l e R s m args below meth c H1 locs1 cells slots Q (F0 m (pc + 1) ls rest)) : W p l e R s m args below meth c H locs cells slots Q (F0 m pc ls (.ref b :: .int i :: .ref a :: rest)) := by
  obtain ⟨n, f, ha, he, hi, ⟨vs, hb1, hb2⟩, hK2⟩ := hf
  obtain ⟨j, hj⟩ := hw_get (X := X) ha
  obtain ⟨j2, hj2⟩ := hw_get (X := X) hb1
  have hj3 := hj
  rw [he] at hj
  rw [hb2] at hj2
  refine va_astq hx hb hK hP hD hS j 1 j2 2 hj (r := (RX2, TX2, 7)) rfl hj2 rfl hi hdg (fun H1 locs1 hP1 hD1 hS1 => ?_)
  rw [hw_set hD ha hj3] at hP1 hD1
  exact kk _ H1 locs1 hK2 hP1 hD1 hS1
theorem z_astT {q0 qk : Nat} {v n : Nat} {cv : vp_A} {f : Nat → Option Nat} {t : FieldType} {z z0 k1 k0 : Nat} (hx : p.tables.exec = Jvm.exec) (hb : c.code = cc) (hao : tAO t s) (hK : zK D Z s) (hz : (zT Z)[k1]? = some (Z z, .array t)) (hz0 : (zT Z)[k0]? = some (Z z0, t)) (hne : ∀ C, t ≠ .object C) {ws : va_W} (hP : va_P D vwCl ws H) (hD : va_D A ws) (hS : va_S A H0 H locs) (ha : ws[q0]? = some (a, .inl (Z z, vQ n f))) (hv : ws[qk]? = some (v, .inl (Z z0, cv))) (hin : vp_in i n) (hdg : decode cc pc = .ok (.aastore, 1))
    (kk : ∀ (H1 : Heap) (locs1 : List Loc), va_P D vwCl (ws.set q0 (a, .inl (Z z, vQ n (va_up f i.toNatClampNeg (some v))))) H1 → va_D A (ws.set q0 (a, .inl (Z z, vQ n (va_up f i.toNatClampNeg (some v))))) → va_S A H0 H1 locs1 → W p l e R s m args below meth c H1 locs1 cells slots Q (F0 m (pc + 1) ls rest)) : W p l e R s m args below meth c H locs cells slots Q (F0 m pc ls (.ref v :: .int i :: .ref a :: rest)) := by
  have hlt : i.toNatClampNeg < n := Nat.not_le.mp fun q => hin (Or.inr q)
  have h0 : ¬ i < 0 := fun q => hin (Or.inl q)
  obtain ⟨kA, kI, k1, k2, k3⟩ := t_kind hK hao hz hz0 hne
  have hcv : H[v]? = some (vp_cell (Z z0) cv) := hP qk _ hv
  have hcls : (vp_cell (Z z0) cv).cls = Z z0 := by
    obtain ⟨n1, f1 | f1 | f1 | f1 | f1⟩ := cv <;> rfl
  have hst : ∀ q, (vp_cell (Z z0) cv).vm ≠ .statics q := by
    obtain ⟨n1, f1 | f1 | f1 | f1 | f1⟩ := cv <;> exact fun q h => by cases h
  refine W.aast hx hb (hP q0 _ ha) (fun q h => by cases h) (fun h => by cases h) k1 k2 rfl k3 ⟨h0, by show _ < (arrV _ _ _).slots.size; rw [arrV_size]; exact hlt⟩ hcv hst (by rw [hcls]; exact k3) (by rw [hcls]; exact z_assign _ _) rfl rfl hdg fun H1 e z oq => ?_
  refine kk H1 _ (hP.set hD ha ?_ oq) (hD.set ha) (hS.put z oq (hD.2 q0 _ ha))
  show H1[a]? = some (vp_cell _ _)
  rw [e]
  show some ((vp_cell (Z _) (n, .inr (.inr (.inr (.inr f))))).setSlot i.toNatClampNeg (.ref v)) = _
  rw [vp_cell_q, vp_cell_q, arrV_store]
  congr 2
  funext q
  by_cases hq : q = i.toNatClampNeg
  · subst hq
    simp [updV, va_up, va_rf]
  · simp [updV, va_up, hq]
theorem z_sQ2 {K : PH → Prop} (hf : sQ2 Z h a i b K) (hx : p.tables.exec = Jvm.exec) (hb : c.code = cc) (hao : tAO .int s) (hK : zK D Z s) (hP : va_P D vwCl (hw X h) H) (hD : va_D A (hw X h)) (hS : va_S A H0 H locs) (hdg : decode cc pc = .ok (.aastore, 1))
    (kk : ∀ (h1 : PH) (H1 : Heap) (locs1 : List Loc), K h1 → va_P D vwCl (hw X h1) H1 → va_D A (hw X h1) → va_S A H0 H1 locs1 → W p l e R s m args below meth c H1 locs1 cells slots Q (F0 m (pc + 1) ls rest)) : W p l e R s m args below meth c H locs cells slots Q (F0 m pc ls (.ref b :: .int i :: .ref a :: rest)) := by
  obtain ⟨n, f, ha, he, hi, ⟨n1, g, hb1, hb2⟩, hK2⟩ := hf
  obtain ⟨j, hj⟩ := hw_get (X := X) ha
  obtain ⟨j2, hj2⟩ := hw_get (X := X) hb1
  have hj3 := hj
  rw [he] at hj
  rw [hb2] at hj2
  refine z_astT (t := .int) (z := 2) (z0 := 0) (k1 := 2) (k0 := 0) hx hb hao hK rfl rfl (fun C h => by cases h) hP hD hS hj hj2 hi hdg (fun H1 locs1 hP1 hD1 hS1 => ?_)
  rw [hw_set hD ha hj3] at hP1 hD1
  exact kk _ H1 locs1 hK2 hP1 hD1 hS1
theorem z_sQ3 {K : PH → Prop} (hf : sQ3 Z h a i b K) (hx : p.tables.exec = Jvm.exec) (hb : c.code = cc) (hao : tAO (.array .int) s) (hK : zK D Z s) (hP : va_P D vwCl (hw X h) H) (hD : va_D A (hw X h)) (hS : va_S A H0 H locs) (hdg : decode cc pc = .ok (.aastore, 1))
    (kk : ∀ (h1 : PH) (H1 : Heap) (locs1 : List Loc), K h1 → va_P D vwCl (hw X h1) H1 → va_D A (hw X h1) → va_S A H0 H1 locs1 → W p l e R s m args below meth c H1 locs1 cells slots Q (F0 m (pc + 1) ls rest)) : W p l e R s m args below meth c H locs cells slots Q (F0 m pc ls (.ref b :: .int i :: .ref a :: rest)) := by
  obtain ⟨n, f, ha, he, hi, ⟨n1, g, hb1, hb2⟩, hK2⟩ := hf
  obtain ⟨j, hj⟩ := hw_get (X := X) ha
  obtain ⟨j2, hj2⟩ := hw_get (X := X) hb1
  have hj3 := hj
  rw [he] at hj
  rw [hb2] at hj2
  refine z_astT (t := .array .int) (z := 3) (z0 := 2) (k1 := 3) (k0 := 2) hx hb hao hK rfl rfl (fun C h => by cases h) hP hD hS hj hj2 hi hdg (fun H1 locs1 hP1 hD1 hS1 => ?_)
  rw [hw_set hD ha hj3] at hP1 hD1
  exact kk _ H1 locs1 hK2 hP1 hD1 hS1
theorem z_nA {K : Nat → PH → Prop} {n : Int32} {cap : Nat} (hf : nA Z h n cap K) (hcap : cap ≤ 100000) (hx : p.tables.exec = Jvm.exec) (hb : c.code = cc) (harr : (Cond.arrayClass .int).before args s = true) (hK : zK D Z s) (hP : va_P D vwCl (hw X h) H) (hD : va_D A (hw X h)) (hS : va_S A H0 H locs) (hA : ∀ q, H0.size ≤ q → A q) (hcells : cells + 1 ≤ R.cells) (hslots : slots + cap ≤ R.slots) (hdg : decode cc pc = .ok (.newarray .int, 2))
    (kk : ∀ (q : Nat) (h1 : PH) (H1 : Heap), K q h1 → va_P D vwCl (hw X h1) H1 → va_D A (hw X h1) → va_S A H0 H1 locs → W p l e R s m args below meth c H1 locs (cells + 1) (slots + cap) Q (F0 m (pc + 2) ls (.ref q :: rest))) : W p l e R s m args below meth c H locs cells slots Q (F0 m pc ls (.int n :: rest)) := by
  obtain ⟨h1, h2, h3⟩ := hf
  refine z_newa (N1 := n.toNatClampNeg) hx hb harr hK hP hD hS hA h1 rfl (by omega) hcells (by omega) hdg (fun q H1 hP1 hD1 hS1 => ?_)
  have hq := hw_new hD1
  rw [hw_push hq] at hP1 hD1
  refine W.widen (k := cells + 1) (n := slots + cap) (Nat.le_refl _) (by omega) ?_
  exact kk q _ H1 (h3 q hq) hP1 hD1 hS1
theorem z_newT {N1 : Nat} {n : Int32} {t : FieldType} {z k1 : Nat} {ws : va_W} (hx : p.tables.exec = Jvm.exec) (hb : c.code = cc) (hown : s.vm.findClass own = some m.cls) (hcl : (Cond.classLink own index (FieldType.array t).toString).before args s = true) (hao : tAO t s) (hK : zK D Z s) (hz : (zT Z)[k1]? = some (Z z, .array t)) (hP : va_P D vwCl ws H) (hD : va_D A ws) (hS : va_S A H0 H locs) (hA : ∀ q, H0.size ≤ q → A q)
    (hn : ¬ n < 0) (hN : n.toNatClampNeg = N1) (hbytes : N1 * 4 ≤ 536870912) (hcells : cells + 1 ≤ R.cells) (hslots : slots + N1 ≤ R.slots) (hdg : decode cc pc = .ok (.anewarray index, 3))
    (kk : ∀ (q : Nat) (H1 : Heap), va_P D vwCl (ws ++ [(q, .inl (Z z, vQ N1 (fun _ => none)))]) H1 → va_D A (ws ++ [(q, .inl (Z z, vQ N1 (fun _ => none)))]) → va_S A H0 H1 locs → W p l e R s m args below meth c H1 locs (cells + 1) (slots + N1) Q (F0 m (pc + 3) ls (.ref q :: rest))) : W p l e R s m args below meth c H locs cells slots Q (F0 m pc ls (.int n :: rest)) := by
  subst hN
  refine W.anewA (t := t) hx hb hown hcl hao rfl hdg rfl hn hbytes hcells hslots fun cA kA comp f1 f2 f3 f4 => ?_
  have e2 : s.vm.findClass ("[" ++ (FieldType.array t).toString) = some (Z z) := (hK.2 k1 (Z z, .array t) hz).2
  have e3 : cA = Z z := Option.some.inj (f1.symm.trans e2)
  subst e3
  generalize hH1 : H.push ({ cls := Z z, slots := Array.replicate n.toNatClampNeg .null, vm := .none } : Cell) = H1
  have z1 : H1.size = H.size + 1 := by rw [← hH1, Array.size_push]
  have e1 : H1[H.size]? = some (arrV (Z z) n.toNatClampNeg (fun _ => .null)) := by rw [← hH1, Array.getElem?_push_size, ← arrV_new]
  have o1 : ∀ q : Nat, q < H.size → H1[q]? = H[q]? := fun q hq => by rw [← hH1, Array.getElem?_push, if_neg (Nat.ne_of_lt hq)]
  have hk : ∀ (k : Nat) (x : Nat × va_E), ws[k]? = some x → H1[x.1]? = H[x.1]? := fun k x hx => o1 x.1 ((hP k x hx).lt)
  refine kk H.size H1 ((hP.kept hk).app (fun k x hx => ?_)) (hD.push hP rfl (hA _ hS.1)) ⟨Nat.le_trans hS.1 (by omega), fun x h1 h2 => (o1 x (Nat.lt_of_lt_of_le h1 hS.1)).trans (hS.2.1 x h1 h2), hS.2.2⟩
  match k, hx with
  | 0, hx =>
    cases hx
    show H1[H.size]? = some (vp_cell _ _)
    rw [vp_cell_q, e1]
    rfl
  | k + 1, hx => simp at hx
theorem z_nQ {K : Nat → PH → Prop} {n : Int32} {t : FieldType} {z k1 : Nat} {cap : Nat} (hf : nQ Z h z n cap K) (hcap : cap ≤ 100000) (hx : p.tables.exec = Jvm.exec) (hb : c.code = cc) (hown : s.vm.findClass own = some m.cls) (hcl : (Cond.classLink own index (FieldType.array t).toString).before args s = true) (hao : tAO t s) (hK : zK D Z s) (hz : (zT Z)[k1]? = some (Z z, .array t)) (hP : va_P D vwCl (hw X h) H) (hD : va_D A (hw X h)) (hS : va_S A H0 H locs) (hA : ∀ q, H0.size ≤ q → A q) (hcells : cells + 1 ≤ R.cells) (hslots : slots + cap ≤ R.slots) (hdg : decode cc pc = .ok (.anewarray index, 3))
    (kk : ∀ (q : Nat) (h1 : PH) (H1 : Heap), K q h1 → va_P D vwCl (hw X h1) H1 → va_D A (hw X h1) → va_S A H0 H1 locs → W p l e R s m args below meth c H1 locs (cells + 1) (slots + cap) Q (F0 m (pc + 3) ls (.ref q :: rest))) : W p l e R s m args below meth c H locs cells slots Q (F0 m pc ls (.int n :: rest)) := by
  obtain ⟨h1, h2, h3⟩ := hf
  refine z_newT (N1 := n.toNatClampNeg) (z := z) (k1 := k1) hx hb hown hcl hao hK hz hP hD hS hA h1 rfl (by omega) hcells (by omega) hdg (fun q H1 hP1 hD1 hS1 => ?_)
  have hq := hw_new hD1
  rw [hw_push hq] at hP1 hD1
  refine W.widen (k := cells + 1) (n := slots + cap) (Nat.le_refl _) (by omega) ?_
  exact kk q _ H1 (h3 q hq) hP1 hD1 hS1
theorem z_nP {K : Nat → PH → Prop} {n : Int32} {cap : Nat} (hf : nQ Z h 1 n cap K) (hcap : cap ≤ 100000) (hx : p.tables.exec = Jvm.exec) (hb : c.code = cc) (hown : s.vm.findClass own = some m.cls) (hcl : (Cond.classLink own index RX2).before args s = true) (hao : va_AO RX2 s) (hK : zK D Z s) (hP : va_P D vwCl (hw X h) H) (hD : va_D A (hw X h)) (hS : va_S A H0 H locs) (hA : ∀ q, H0.size ≤ q → A q) (hcells : cells + 1 ≤ R.cells) (hslots : slots + cap ≤ R.slots) (hdg : decode cc pc = .ok (.anewarray index, 3))
    (kk : ∀ (q : Nat) (h1 : PH) (H1 : Heap), K q h1 → va_P D vwCl (hw X h1) H1 → va_D A (hw X h1) → va_S A H0 H1 locs → W p l e R s m args below meth c H1 locs (cells + 1) (slots + cap) Q (F0 m (pc + 3) ls (.ref q :: rest))) : W p l e R s m args below meth c H locs cells slots Q (F0 m pc ls (.int n :: rest)) := by
  obtain ⟨h1, h2, h3⟩ := hf
  refine va_newq (C := RX2) (N' := n.toNatClampNeg) hx hb hown hcl hao hK hP hD hS hA h1 rfl (by omega) hcells (by omega) hdg (fun q cA H1 hK1 hP1 hD1 hS1 => ?_)
  have e3 : cA = Z 1 := by
    obtain ⟨kA, comp, -, -, -, e1⟩ := (hK1.2 4 (cA, .object RX2) rfl).2
    obtain ⟨kA2, comp2, -, -, -, e2⟩ := (hK.2 1 (Z 1, .object RX2) rfl).2
    exact Option.some.inj (e1.symm.trans e2)
  subst e3
  have hq := hw_new hD1
  rw [hw_push hq] at hP1 hD1
  refine W.widen (k := cells + 1) (n := slots + cap) (Nat.le_refl _) (by omega) ?_
  exact kk q _ H1 (h3 q hq) hP1 hD1 hS1
theorem z_nO {K : Nat → PH → Prop} {fs : List Value} {ty : Nat → FieldType} (hf : nO h ci fs K) (hx : p.tables.exec = Jvm.exec) (hb : c.code = cc) (hts : ∀ w ∈ Ts, w.before args s = true) (hin : ∀ w ∈ u_ws C T N, w ∈ Ts) (hty : ∀ k, k < N → parseFieldDescriptor (T k).2.2.1 = some (ty k)) (hown : s.vm.findClass own = some m.cls) (hcl : (Cond.classLink own index C).before args s = true) (hinst : (Cond.instantiable C N).before args s = true) (hini : (Cond.initialized C).before args s = true)
    (hK : zK D Z s) (hP : va_P D vwCl (hw X h) H) (hD : va_D A (hw X h)) (hS : va_S A H0 H locs) (hA : ∀ q, H0.size ≤ q → A q) (hc : vwCl[ci]? = some (C, T, N)) (hfs : ∀ j, j < N → defaultValue (ty j) = vp_V fs j) (hcells : cells + 1 ≤ R.cells) (hslots : slots + N ≤ R.slots) (hdg : decode cc pc = .ok (.new index, 3))
    (kk : ∀ (q : Nat) (h1 : PH) (H1 : Heap), K q h1 → va_P D vwCl (hw X h1) H1 → va_D A (hw X h1) → va_S A H0 H1 locs → W p l e R s m args below meth c H1 locs (cells + 1) (slots + N) Q (F0 m (pc + 3) ls (.ref q :: rest))) : W p l e R s m args below meth c H locs cells slots Q (F0 m pc ls rest) := by
  refine va_new hx hb hts hin ty hty hown hcl hinst hini hK hP hD hS hA hc hfs hcells hslots hdg (fun q H1 hP1 hD1 hS1 => ?_)
  have hq := hw_new hD1
  rw [hw_push hq] at hP1 hD1
  exact kk q _ H1 (hf q hq) hP1 hD1 hS1
end POOL
