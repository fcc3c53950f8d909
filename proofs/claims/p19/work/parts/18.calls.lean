-- contracts that go on with a predicate of the answer and of the heap
abbrev QMv {σ : Type} (D : va_G) (wf : σ → va_W) (K : σ → Prop) (A : Nat → Prop) : Array Value → State → Outcome → State → Prop := va_Qv (fun u => K u) (fun u t => va_P D vwCl (wf u) t.heap ∧ va_D A (wf u)) A
abbrev QMi {σ : Type} (D : va_G) (wf : σ → va_W) (K : Int32 → σ → Prop) (A : Nat → Prop) : Array Value → State → Outcome → State → Prop := va_Qi (fun r u => K r u) (fun u t => va_P D vwCl (wf u) t.heap ∧ va_D A (wf u)) A
abbrev QMq {σ : Type} (D : va_G) (wf : σ → va_W) (K : Option Nat → σ → Prop) (A : Nat → Prop) : Array Value → State → Outcome → State → Prop := va_Qq (fun r u => K r u) (fun u t => va_P D vwCl (wf u) t.heap ∧ va_D A (wf u)) A
def PMv {σ : Type} (wf : σ → va_W) (l : Launch) (y : MethodName) (ws : List Cond) (rm : Room) (D : va_G) (Z : Nat → ClassId) (X : (Nat → Prop) → State → Prop) (av : List Value) (w0 : va_W) (K : σ → Prop) (mc ms : Nat) : Prop :=
  ∀ sz : Nat, Met l y ws rm (va_Pc av (gPre D Z X w0 sz)) (QMv D wf K (va_A w0 sz)) mc ms (va_A w0 sz)
def PMi {σ : Type} (wf : σ → va_W) (l : Launch) (y : MethodName) (ws : List Cond) (rm : Room) (D : va_G) (Z : Nat → ClassId) (X : (Nat → Prop) → State → Prop) (av : List Value) (w0 : va_W) (K : Int32 → σ → Prop) (mc ms : Nat) : Prop :=
  ∀ sz : Nat, Met l y ws rm (va_Pc av (gPre D Z X w0 sz)) (QMi D wf K (va_A w0 sz)) mc ms (va_A w0 sz)
def PMq {σ : Type} (wf : σ → va_W) (l : Launch) (y : MethodName) (ws : List Cond) (rm : Room) (D : va_G) (Z : Nat → ClassId) (X : (Nat → Prop) → State → Prop) (av : List Value) (w0 : va_W) (K : Option Nat → σ → Prop) (mc ms : Nat) : Prop :=
  ∀ sz : Nat, Met l y ws rm (va_Pc av (gPre D Z X w0 sz)) (QMq D wf K (va_A w0 sz)) mc ms (va_A w0 sz)
def rc3 (h : PH) (t : Nat) : Prop := t ∈ h.1 ∧ ∃ fs, h.2 t = .inr (3, fs)
abbrev WX : Type := RS × RS × PH
def owx (Z : Nat → ClassId) (o : Nat) (a b : Nat → Nat) (u : WX) : va_W := hw (owl Z o a b u.1 u.2.1) u.2.2
section PMOPEN
variable {σ : Type} {wf : σ → va_W} {l : Launch} {y : MethodName} {ws ws' : List Cond} {rm : Room} {cc : ByteArray} {nL : Nat} {ret : Option FieldType} {av : List Value} {D : va_G} {Z : Nat → ClassId} {X : (Nat → Prop) → State → Prop} {w0 : va_W} {mc ms : Nat}
theorem PMv.of {K : σ → Prop} (hy : plainFor y = true) (hw : ws = Cond.code y cc nL ret :: ws') (hn : (lg_sl av).length ≤ nL) (body : gRW l y cc nL ret ws rm D Z X av w0 mc ms (fun A => QMv D wf K A)) : PMv wf l y ws rm D Z X av w0 K mc ms := fun sz => by
  refine z_open hy hw hn ?_
  intro p e s m below meth c C ⟨⟨hsz, hP, hK, hD⟩, hE⟩ ls hl
  subst hsz
  exact body p e s m below meth c (va_A w0 s.heap.size) C hE (fun _ h => Or.inr h) hP hK hD.self va_S.rf ls hl
theorem PMi.of {K : Int32 → σ → Prop} (hy : plainFor y = true) (hw : ws = Cond.code y cc nL ret :: ws') (hn : (lg_sl av).length ≤ nL) (body : gRW l y cc nL ret ws rm D Z X av w0 mc ms (fun A => QMi D wf K A)) : PMi wf l y ws rm D Z X av w0 K mc ms := fun sz => by
  refine z_open hy hw hn ?_
  intro p e s m below meth c C ⟨⟨hsz, hP, hK, hD⟩, hE⟩ ls hl
  subst hsz
  exact body p e s m below meth c (va_A w0 s.heap.size) C hE (fun _ h => Or.inr h) hP hK hD.self va_S.rf ls hl
theorem PMq.of {K : Option Nat → σ → Prop} (hy : plainFor y = true) (hw : ws = Cond.code y cc nL ret :: ws') (hn : (lg_sl av).length ≤ nL) (body : gRW l y cc nL ret ws rm D Z X av w0 mc ms (fun A => QMq D wf K A)) : PMq wf l y ws rm D Z X av w0 K mc ms := fun sz => by
  refine z_open hy hw hn ?_
  intro p e s m below meth c C ⟨⟨hsz, hP, hK, hD⟩, hE⟩ ls hl
  subst hsz
  exact body p e s m below meth c (va_A w0 s.heap.size) C hE (fun _ h => Or.inr h) hP hK hD.self va_S.rf ls hl
end PMOPEN
section PMRET
variable {σ : Type} {wf : σ → va_W} {p : Program} {l : Launch} {e : Env} {R : Room} {s : State} {m : MethodId} {args : Array Value} {below : List Frame} {meth : Method} {c : Code} {H : Heap} {locs : List Loc} {cells slots : Nat} {Q : State → Prop} {cc : ByteArray} {pc : Nat} {ls : Array Slot} {D : va_G} {A : Nat → Prop} {mc ms : Nat}
theorem zq_v {K : σ → Prop} {u : σ} (hf : K u) (hx : p.tables.exec = Jvm.exec) (hb : c.code = cc) (hr : meth.sig.returnType = none) (hlk : meth.locks = false) (hP : va_P D vwCl (wf u) H) (hD : va_D A (wf u)) (hS : va_S A s.heap H locs) (h1 : cells ≤ mc) (h2 : slots ≤ ms) (hdg : decode cc pc = .ok (.return_, 1)) : W p l e R s m args below meth c H locs cells slots (MQ below (QMv D wf K A) args s mc ms A) (F0 m pc ls []) := by
  refine W.widen h1 h2 ?_
  exact W.vret hx hb hr (fun t ht hW => ⟨⟨u, rfl, hf, by rw [ht]; exact hP, hD⟩, hS.F ht⟩) hS.2.2 hdg hlk
theorem zq_i {K : Int32 → σ → Prop} {v : Int32} {u : σ} (hf : K v u) (hx : p.tables.exec = Jvm.exec) (hb : c.code = cc) (hr : meth.sig.returnType = some .int) (hlk : meth.locks = false) (hP : va_P D vwCl (wf u) H) (hD : va_D A (wf u)) (hS : va_S A s.heap H locs) (h1 : cells ≤ mc) (h2 : slots ≤ ms) (hdg : decode cc pc = .ok (.ireturn, 1)) : W p l e R s m args below meth c H locs cells slots (MQ below (QMi D wf K A) args s mc ms A) (F0 m pc ls [.int v]) := by
  refine W.widen h1 h2 ?_
  exact W.iret hx hb hr (fun t ht hW => ⟨⟨v, u, rfl, hf, by rw [ht]; exact hP, hD⟩, hS.F ht⟩) hS.2.2 hdg hlk
theorem zq_z {K : Int32 → σ → Prop} {v : Int32} {u : σ} (hf : K v u) (hn : narrow .boolean (.int v) = .int v) (hx : p.tables.exec = Jvm.exec) (hb : c.code = cc) (hr : meth.sig.returnType = some .boolean) (hlk : meth.locks = false) (hP : va_P D vwCl (wf u) H) (hD : va_D A (wf u)) (hS : va_S A s.heap H locs) (h1 : cells ≤ mc) (h2 : slots ≤ ms) (hdg : decode cc pc = .ok (.ireturn, 1)) : W p l e R s m args below meth c H locs cells slots (MQ below (QMi D wf K A) args s mc ms A) (F0 m pc ls [.int v]) := by
  refine W.widen h1 h2 ?_
  exact W.zret hx hb hr hn (fun t ht hW => ⟨⟨v, u, rfl, hf, by rw [ht]; exact hP, hD⟩, hS.F ht⟩) hS.2.2 hdg hlk
theorem zq_q {K : Option Nat → σ → Prop} {v : Option Nat} {u : σ} {rt : FieldType} (hf : K v u) (hx : p.tables.exec = Jvm.exec) (hb : c.code = cc) (hr : meth.sig.returnType = some rt) (hrt : (∃ n, rt = .object n) ∨ ∃ t, rt = .array t) (hlk : meth.locks = false) (hP : va_P D vwCl (wf u) H) (hD : va_D A (wf u)) (hS : va_S A s.heap H locs) (h1 : cells ≤ mc) (h2 : slots ≤ ms) (hdg : decode cc pc = .ok (.areturn, 1)) : W p l e R s m args below meth c H locs cells slots (MQ below (QMq D wf K A) args s mc ms A) (F0 m pc ls [va_rf v]) := by
  refine W.widen h1 h2 ?_
  exact W.aret hx hb hr hrt (va_rf_or v) (fun t ht hW => ⟨⟨v, u, rfl, hf, by rw [ht]; exact hP, hD⟩, hS.F ht⟩) hS.2.2 hdg hlk
end PMRET
section PMCALL
variable {p : Program} {l : Launch} {e : Env} {R : Room} {s : State} {m : MethodId} {args : Array Value} {below : List Frame} {meth : Method} {c : Code} {H : Heap} {locs : List Loc} {cells slots : Nat} {Q : State → Prop} {cc : ByteArray} {pc : Nat} {ls : Array Slot} {D : va_G} {Z : Nat → ClassId} {X : (Nat → Prop) → State → Prop} {w0 : va_W} {A : Nat → Prop} {H0 : Heap} {mc ms nL n index maxL : Nat} {a : Array Value} {h : PH} {Xw : va_W}
variable {y : MethodName} {bytes : ByteArray} {ret : Option FieldType} {wsy ws' Ts : List Cond} {rm : Room} {own C host : String} {b : Addr} {As rest st0 : List Value}
def hwX (Xw : va_W) : Prop := ∃ isR : List Nat, isR.map (fun i => Xw[i]?) = Xw.map some ∧ va_nd isR = true
theorem hwX_nil : hwX [] := ⟨[], rfl, rfl⟩
theorem hwX_owl {o : Nat} {a b : Nat → Nat} {S T : RS} : hwX (owl Z o a b S T) := ⟨[0, 1, 2, 3, 4, 5, 6, 7, 8, 9, 10, 11, 12, 13, 14, 15, 16, 17, 18, 19, 20, 21, 22, 23, 24], rfl, rfl⟩
theorem hw_X (hP : va_P D vwCl (hw Xw h) H) : va_P D vwCl Xw H := fun k q hq => hP k q (by
  unfold hw
  rw [List.getElem?_append_left (List.getElem?_eq_some_iff.mp hq).1]; exact hq)
theorem hw_XD (hD : va_D A (hw Xw h)) : va_D A Xw := by
  have e : ∀ (k : Nat) (q : Nat × va_E), Xw[k]? = some q → (hw Xw h)[k]? = some q := fun k q hq => by
    unfold hw
    rw [List.getElem?_append_left (List.getElem?_eq_some_iff.mp hq).1]; exact hq
  exact ⟨fun i j x y hx hy hxy => hD.1 i j x y (e i x hx) (e j y hy) hxy, fun k q hq => hD.2 k q (e k q hq)⟩
theorem hw_pl (hP : va_P D vwCl (hw Xw h) H) : va_P D vwCl (hw [] h) H := va_P.part (cx := []) (X := Xw) hP [] rfl
theorem hw_plD (hD : va_D A (hw Xw h)) : va_D A (hw [] h) := va_D.part (cx := []) (X := Xw) hD [] rfl rfl
theorem hw_F (hD : va_D A (hw Xw h)) (hS : va_S A H0 H locs) (hA : ∀ q, H0.size ≤ q → A q) : ∀ q, va_A (hw [] h) H.size q → A q := va_freeP (X := Xw) (cx := []) hD hS hA [] rfl
theorem hw_back {h1 : PH} {H1 : Heap} (hX : hwX Xw) (hP : va_P D vwCl (hw Xw h) H) (hD : va_D A (hw Xw h)) (hF : ∀ q, va_A (hw [] h) H.size q → A q) (hk : ∀ q : Nat, q < H.size → ¬ va_A (hw [] h) H.size q → H1[q]? = H[q]?) (hP1 : va_P D vwCl (hw [] h1) H1) (hD1 : va_D (va_A (hw [] h) H.size) (hw [] h1)) : va_P D vwCl (hw Xw h1) H1 ∧ va_D A (hw Xw h1) := by
  obtain ⟨isR, hR, hn⟩ := hX
  have j := va_joinP (X := Xw) (cx := []) (wr := Xw) (rx := []) (pl := va_pl h.1 h.2) (pl1 := va_pl h1.1 h1.2) hP hD [] isR rfl hR hn (fun _ _ q => by cases q) hk hF hP1 hD1
  rw [List.append_nil] at j
  exact j
theorem hw_Fx {S T : RS} {o : Nat} {a b : Nat → Nat} (hD : va_D A (hw (owl Z o a b S T) h)) (hS : va_S A H0 H locs) (hA : ∀ q, H0.size ≤ q → A q) : ∀ q, va_A (owl Z o a b S T) H.size q → A q := fun q z => z.elim (fun ⟨k, e, z⟩ => (hw_XD hD).2 k (q, e) z) (fun z => hA q (Nat.le_trans hS.1 z))
theorem hw_backx {S T S1 T1 : RS} {o : Nat} {a b : Nat → Nat} {H1 : Heap} (hP : va_P D vwCl (hw (owl Z o a b S T) h) H) (hD : va_D A (hw (owl Z o a b S T) h)) (hF : ∀ q, va_A (owl Z o a b S T) H.size q → A q) (hk : ∀ q : Nat, q < H.size → ¬ va_A (owl Z o a b S T) H.size q → H1[q]? = H[q]?) (hP1 : va_P D vwCl (owl Z o a b S1 T1) H1) (hD1 : va_D (va_A (owl Z o a b S T) H.size) (owl Z o a b S1 T1)) : va_P D vwCl (hw (owl Z o a b S1 T1) h) H1 ∧ va_D A (hw (owl Z o a b S1 T1) h) := by
  obtain ⟨isC, hC, hn⟩ := hwX_owl (Z := Z) (o := o) (a := a) (b := b) (S := S) (T := T)
  exact va_joinQ (X := owl Z o a b S T) (cx := owl Z o a b S T) (wr := []) (w1 := owl Z o a b S1 T1) (pl := va_pl h.1 h.2) hP hD isC [] hC rfl rfl (fun _ q => by cases q) hk hF hP1 hD1
theorem zk_v {K : PH → Prop} (hX : hwX Xw) (hr : va_Run p l e R s m args below meth c H locs cells slots mc ms (F0 m pc ls st0) rest (QMv D (hw []) K (va_A (hw [] h) H.size) a) (va_A (hw [] h) H.size)) (hP : va_P D vwCl (hw Xw h) H) (hD : va_D A (hw Xw h)) (hS : va_S A H0 H locs) (hA : ∀ q, H0.size ≤ q → A q)
    (kk : ∀ (h1 : PH) (H1 : Heap) (locs1 : List Loc), K h1 → va_P D vwCl (hw Xw h1) H1 → va_D A (hw Xw h1) → va_S A H0 H1 locs1 → W p l e R s m args below meth c H1 locs1 (cells + mc) (slots + ms) Q (F0 m (pc + 3) ls rest)) : W p l e R s m args below meth c H locs cells slots Q (F0 m pc ls st0) := by
  have hF := hw_F hD hS hA
  refine va_callv hr hS (fun q _ h => hF q h) hF (fun u t H1 locs1 ht _ hp hB _ hk hS1 => ?_)
  obtain ⟨hP1, hD1⟩ := hB
  rw [ht] at hP1
  obtain ⟨j1, j2⟩ := hw_back hX hP hD hF hk hP1 hD1
  exact kk u H1 locs1 hp j1 j2 hS1
theorem zk_i {K : Int32 → PH → Prop} (hX : hwX Xw) (hr : va_Run p l e R s m args below meth c H locs cells slots mc ms (F0 m pc ls st0) rest (QMi D (hw []) K (va_A (hw [] h) H.size) a) (va_A (hw [] h) H.size)) (hP : va_P D vwCl (hw Xw h) H) (hD : va_D A (hw Xw h)) (hS : va_S A H0 H locs) (hA : ∀ q, H0.size ≤ q → A q)
    (kk : ∀ (r : Int32) (h1 : PH) (H1 : Heap) (locs1 : List Loc), K r h1 → va_P D vwCl (hw Xw h1) H1 → va_D A (hw Xw h1) → va_S A H0 H1 locs1 → W p l e R s m args below meth c H1 locs1 (cells + mc) (slots + ms) Q (F0 m (pc + 3) ls (.int r :: rest))) : W p l e R s m args below meth c H locs cells slots Q (F0 m pc ls st0) := by
  have hF := hw_F hD hS hA
  refine va_calli hr hS (fun q _ h => hF q h) hF (fun r u t H1 locs1 ht _ hp hB _ hk hS1 => ?_)
  obtain ⟨hP1, hD1⟩ := hB
  rw [ht] at hP1
  obtain ⟨j1, j2⟩ := hw_back hX hP hD hF hk hP1 hD1
  exact kk r u H1 locs1 hp j1 j2 hS1
theorem zk_q {K : Option Nat → PH → Prop} (hX : hwX Xw) (hr : va_Run p l e R s m args below meth c H locs cells slots mc ms (F0 m pc ls st0) rest (QMq D (hw []) K (va_A (hw [] h) H.size) a) (va_A (hw [] h) H.size)) (hP : va_P D vwCl (hw Xw h) H) (hD : va_D A (hw Xw h)) (hS : va_S A H0 H locs) (hA : ∀ q, H0.size ≤ q → A q)
    (kk : ∀ (r : Option Nat) (h1 : PH) (H1 : Heap) (locs1 : List Loc), K r h1 → va_P D vwCl (hw Xw h1) H1 → va_D A (hw Xw h1) → va_S A H0 H1 locs1 → W p l e R s m args below meth c H1 locs1 (cells + mc) (slots + ms) Q (F0 m (pc + 3) ls (va_rf r :: rest))) : W p l e R s m args below meth c H locs cells slots Q (F0 m pc ls st0) := by
  have hF := hw_F hD hS hA
  refine va_callq hr hS (fun q _ h => hF q h) hF (fun r u t H1 locs1 ht _ hp hB _ hk hS1 => ?_)
  obtain ⟨hP1, hD1⟩ := hB
  rw [ht] at hP1
  obtain ⟨j1, j2⟩ := hw_back hX hP hD hF hk hP1 hD1
  exact kk r u H1 locs1 hp j1 j2 hS1
-- a callee with the whole world
theorem hw_F0 {w : va_W} (hD : va_D A w) (hS : va_S A H0 H locs) (hA : ∀ q, H0.size ≤ q → A q) : ∀ q, va_A w H.size q → A q := fun q z => z.elim (fun ⟨k, e, z⟩ => hD.2 k (q, e) z) (fun z => hA q (Nat.le_trans hS.1 z))
theorem zk_i0 {σ : Type} {wf : σ → va_W} {w : va_W} {K : Int32 → σ → Prop} (hr : va_Run p l e R s m args below meth c H locs cells slots mc ms (F0 m pc ls st0) rest (QMi D wf K (va_A w H.size) a) (va_A w H.size)) (hD : va_D A w) (hS : va_S A H0 H locs) (hA : ∀ q, H0.size ≤ q → A q)
    (kk : ∀ (r : Int32) (u : σ) (H1 : Heap) (locs1 : List Loc), K r u → va_P D vwCl (wf u) H1 → va_D A (wf u) → va_S A H0 H1 locs1 → W p l e R s m args below meth c H1 locs1 (cells + mc) (slots + ms) Q (F0 m (pc + 3) ls (.int r :: rest))) : W p l e R s m args below meth c H locs cells slots Q (F0 m pc ls st0) := by
  have hF := hw_F0 hD hS hA
  refine va_calli hr hS (fun q _ h => hF q h) hF (fun r u t H1 locs1 ht _ hp hB _ hk hS1 => ?_)
  obtain ⟨hP1, hD1⟩ := hB
  rw [ht] at hP1
  exact kk r u H1 locs1 hp hP1 (hD1.weaken (fun _ q _ h => hF q.1 h)) hS1
theorem zk_q0 {σ : Type} {wf : σ → va_W} {w : va_W} {K : Option Nat → σ → Prop} (hr : va_Run p l e R s m args below meth c H locs cells slots mc ms (F0 m pc ls st0) rest (QMq D wf K (va_A w H.size) a) (va_A w H.size)) (hD : va_D A w) (hS : va_S A H0 H locs) (hA : ∀ q, H0.size ≤ q → A q)
    (kk : ∀ (r : Option Nat) (u : σ) (H1 : Heap) (locs1 : List Loc), K r u → va_P D vwCl (wf u) H1 → va_D A (wf u) → va_S A H0 H1 locs1 → W p l e R s m args below meth c H1 locs1 (cells + mc) (slots + ms) Q (F0 m (pc + 3) ls (va_rf r :: rest))) : W p l e R s m args below meth c H locs cells slots Q (F0 m pc ls st0) := by
  have hF := hw_F0 hD hS hA
  refine va_callq hr hS (fun q _ h => hF q h) hF (fun r u t H1 locs1 ht _ hp hB _ hk hS1 => ?_)
  obtain ⟨hP1, hD1⟩ := hB
  rw [ht] at hP1
  exact kk r u H1 locs1 hp hP1 (hD1.weaken (fun _ q _ h => hF q.1 h)) hS1
-- the class's own calls
theorem zk_ci {r : Int32} {S T S1 T1 : RS} {o : Nat} {b1 b2 : Nat → Nat} (hr : va_Run p l e R s m args below meth c H locs cells slots mc ms (F0 m pc ls st0) rest (zMi D (va_A (owl Z o b1 b2 S T) H.size) (owl Z o b1 b2 S1 T1) r a) (va_A (owl Z o b1 b2 S T) H.size)) (hP : va_P D vwCl (hw (owl Z o b1 b2 S T) h) H) (hD : va_D A (hw (owl Z o b1 b2 S T) h)) (hS : va_S A H0 H locs) (hA : ∀ q, H0.size ≤ q → A q)
    (kk : ∀ (H1 : Heap) (locs1 : List Loc), va_P D vwCl (hw (owl Z o b1 b2 S1 T1) h) H1 → va_D A (hw (owl Z o b1 b2 S1 T1) h) → va_S A H0 H1 locs1 → W p l e R s m args below meth c H1 locs1 (cells + mc) (slots + ms) Q (F0 m (pc + 3) ls (.int r :: rest))) : W p l e R s m args below meth c H locs cells slots Q (F0 m pc ls st0) := by
  have hF := hw_Fx hD hS hA
  refine va_calli hr hS (fun q _ h => hF q h) hF (fun r' u t H1 locs1 ht _ hp hB _ hk hS1 => ?_)
  subst hp
  obtain ⟨hP1, hD1⟩ := hB
  rw [ht] at hP1
  obtain ⟨j1, j2⟩ := hw_backx hP hD hF hk hP1 hD1
  exact kk H1 locs1 j1 j2 hS1
theorem z_VP {Qd : Nat → Array Value → State → Outcome → State → Prop} {fd : Nat → Addr → Prop} (hrc3 : rc3 h b) (hX : XOK X) (hE : X A s) (hS : va_S A s.heap H locs) (hA : ∀ q, s.heap.size ≤ q → A q) (S : CallFix p m c cc nL s args Ts own) (hM : ∀ sz : Nat, Met l y wsy rm (va_Pc (.ref b :: As) (gPre D Z X (hw [] h) sz)) (Qd sz) mc ms (fd sz)) (hg : GoodIn Ts (wsV own index RX3 y wsy)) (hw1 : wsy = Cond.code y bytes maxL ret :: ws') (hrc : rm.cells = mc) (hrs : rm.slots = ms)
    (hd : y.cls = RX3 ∧ y.cls ≠ "java/lang/invoke/MethodHandle" ∧ y.cls ≠ "java/lang/invoke/VarHandle" ∧ (parseMethodDescriptor y.desc).map (fun d => d.parameters.length) = some n) (hR : rm.frames + 1 ≤ R.frames ∧ 8 + (maxL + 11) + rm.locals ≤ R.locals)
    (hK : zK D Z s) (hP : va_P D vwCl (hw Xw h) H) (hD : va_D A (hw Xw h)) (hn : As.length = n) (hsz : ls.size = nL) (hst : st0 = As.reverse ++ .ref b :: rest) (hroom : (rest.map fun v => v.category).sum ≤ 8) (hdg : decode cc pc = .ok (.invokevirtual index, 3)) (hf : cells + mc ≤ R.cells ∧ slots + ms ≤ R.slots) :
    va_Run p l e R s m args below meth c H locs cells slots mc ms (F0 m pc ls st0) rest (Qd H.size (Value.ref b :: As).toArray) (fd H.size) := by
  obtain ⟨hb1, fs, hb2⟩ := hrc3
  obtain ⟨j, hj⟩ := hw_get (X := []) hb1
  rw [hb2] at hj
  exact z_VG (ci := 3) (q0 := j) hX hE hS hA S hM hg hw1 hrc hrs hd hR hK (hw_pl hP) (hw_plD hD) hj rfl rfl hn hsz hst hroom hdg hf
theorem z_SG {Qd : Nat → Array Value → State → Outcome → State → Prop} {fd : Nat → Addr → Prop} (hX : XOK X) (hE : X A s) (hS : va_S A s.heap H locs) (hA : ∀ q, s.heap.size ≤ q → A q) (S : CallFix p m c cc nL s args Ts own) (hM : ∀ sz : Nat, Met l y wsy rm (va_Pc As (gPre D Z X w0 sz)) (Qd sz) mc ms (fd sz)) (hg : GoodIn Ts (va_wsS own index y wsy)) (hw : wsy = Cond.code y bytes maxL ret :: ws') (hrc : rm.cells = mc) (hrs : rm.slots = ms)
    (hd : y.cls ≠ "java/lang/invoke/MethodHandle" ∧ y.cls ≠ "java/lang/invoke/VarHandle" ∧ (parseMethodDescriptor y.desc).map (fun d => d.parameters.length) = some n) (hR : rm.frames + 1 ≤ R.frames ∧ 8 + (maxL + 11) + rm.locals ≤ R.locals)
    (hK : zK D Z s) (hP : va_P D vwCl w0 H) (hD : va_D A w0) (hn : As.length = n) (hsz : ls.size = nL) (hst : st0 = As.reverse ++ rest) (hroom : (rest.map fun v => v.category).sum ≤ 8) (hdg : decode cc pc = .ok (.invokestatic index, 3)) (hf : cells + mc ≤ R.cells ∧ slots + ms ≤ R.slots) :
    va_Run p l e R s m args below meth c H locs cells slots mc ms (F0 m pc ls st0) rest (Qd H.size As.toArray) (fd H.size) :=
  va_runS S (hM H.size) (va_cwS n S.2.2.2.2 hg hw hrc hrs hd hR) ⟨g_blind hX, g_pre hX hE hS (z_hF hD hS hA) hK hP hD⟩ rfl hn hsz hst (lv_room hroom) hdg hf
theorem z_IN {Qd : Nat → Array Value → State → Outcome → State → Prop} {fd : Nat → Addr → Prop} (hX : XOK X) (hE : X A s) (hS : va_S A s.heap H locs) (hA : ∀ q, s.heap.size ≤ q → A q) (S : CallFix p m c cc nL s args Ts own) (hM : ∀ sz : Nat, Met l y wsy rm (va_Pc (.ref b :: As) (gPre D Z X w0 sz)) (Qd sz) mc ms (fd sz)) (hg : GoodIn Ts wsy) (hw : wsy = Cond.code y bytes maxL none :: ws') (hrc : rm.cells = mc) (hrs : rm.slots = ms) (hyn : y.name = "<init>")
    (hl : va_Nw (.methodLinkNest own index y host) s) (hini : (Cond.initialized y.cls).before args s = true) (hinst : (Cond.instanceMethod y).before args s = true)
    (hd : y.cls ≠ "java/lang/invoke/MethodHandle" ∧ y.cls ≠ "java/lang/invoke/VarHandle" ∧ (parseMethodDescriptor y.desc).map (fun d => d.parameters.length) = some n) (hR : rm.frames + 1 ≤ R.frames ∧ 8 + (maxL + 11) + rm.locals ≤ R.locals)
    (hK : zK D Z s) (hP : va_P D vwCl w0 H) (hD : va_D A w0) (hn : As.length = n) (hsz : ls.size = nL) (hst : st0 = As.reverse ++ .ref b :: rest) (hroom : (rest.map fun v => v.category).sum ≤ 8) (hdg : decode cc pc = .ok (.invokespecial index, 3)) (hf : cells + mc ≤ R.cells ∧ slots + ms ≤ R.slots) :
    va_Run p l e R s m args below meth c H locs cells slots mc ms (F0 m pc ls st0) rest (Qd H.size (Value.ref b :: As).toArray) (fd H.size) :=
  va_runIN S (hM H.size) ⟨va_cnB n S.2.2.2.2 hg hw hrc hrs hl hini hd hR, hyn, hinst⟩ ⟨g_blind hX, g_pre hX hE hS (z_hF hD hS hA) hK hP hD⟩ rfl hn hsz hst (lv_room hroom) hdg hf
end PMCALL
