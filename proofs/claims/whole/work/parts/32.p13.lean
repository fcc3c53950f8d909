-- pure part 13: mean, digest; all calls together
theorem len_sum {α : AS} (hA : AI α) : ∀ k i, ∃ n, n ≤ 9 * k ∧ isum (fun s => nI (qq α s).length) i k = nI n := by
  intro k
  induction k with
  | zero => intro i; exact ⟨0, by omega, nI_0.symm⟩
  | succ k ih =>
    intro i
    obtain ⟨n, h1, h2⟩ := ih (i + 1)
    have := A_len hA i
    refine ⟨(qq α i).length + n, by omega, ?_⟩
    rw [isum, h2, nI_add]
theorem a_mean {α : AS} {j : Nat} {S M : RS} (h : PK α j S M) : ∃ v M', f_X1_mean S = some v ∧ f_X2_mean M = some (v, M') ∧ RelP (j + 1) S M' := by
  obtain ⟨hA, hC, hM, ht, hr⟩ := id h
  have h6 := A_ns hA
  obtain ⟨n, hn, hs⟩ := len_sum hA (nn α 0) 0
  have hrel : RelP (j + 1) S (sI M 0 0) := ⟨α, hA, hC, RM_z hM, by omega, by omega⟩
  unfold f_X1_mean f_X2_mean
  rw [lt_e, c_wia hA hC, ob_v, m_all3 hA hM, ob_v, hs]
  by_cases c : n = 0
  · subst c
    rw [if_neg (show ¬ (0 : Int32) < nI 0 from by decide), if_pos (show nI 0 = 0 from rfl)]
    exact ⟨_, _, rfl, rfl, hrel⟩
  · rw [if_pos (show (0 : Int32) < nI n from by rw [i32_0]; exact nI_lt (by omega) (by omega)), if_neg (show ¬ nI n = 0 from nI_ne0 (by omega) (by omega)), c_wda hA hC, ob_v, m_all5 hA hM, ob_v, ob_v]
    exact ⟨_, _, rfl, rfl, hrel⟩
def lfold (g : Nat → Int64 → Int64) : Nat → Nat → Int64 → Int64
  | _, 0, a => a
  | i, k + 1, a => lfold g (i + 1) k (g i a)
theorem g_acc {β : Type} (F : Nat → Int64 → Int32 → Option β) (g : Nat → Int64 → Int64) (nxt : Int64 → Option β) (N : Nat) (hs : ∀ n a i, i < N → F (n + 1) a (nI i) = F n (g i a) (nI (i + 1))) (he : ∀ n a, F (n + 1) a (nI N) = nxt a) : ∀ k i n a, i + k = N → k < n → F n a (nI i) = nxt (lfold g i k a) := by
  intro k
  induction k with
  | zero =>
    intro i n a h1 h2
    obtain ⟨m, rfl⟩ : ∃ m, n = m + 1 := ⟨n - 1, by omega⟩
    have : i = N := by omega
    subst this
    exact he m a
  | succ k ih =>
    intro i n a h1 h2
    obtain ⟨m, rfl⟩ : ∃ m, n = m + 1 := ⟨n - 1, by omega⟩
    rw [hs m a i (by omega)]
    exact ih (i + 1) m _ (by omega) (by omega)
def mx (a : Int64) (v : Int32) : Int64 := a * 31 + v.toInt64
theorem getD_v {o : Option Int32} {v : Int32} (h : o = some v) : o = some (o.getD 0) ∧ v = o.getD 0 := by subst h; exact ⟨rfl, rfl⟩
section PURD
variable {α : AS} {S T M : RS}
def tcS (S : RS) (w : Nat) : Int32 := (f_X0_tellCount S (nI w)).getD 0
def tsS (S : RS) (s w : Nat) : Int32 := (f_X0_tellStation S (nI s) (nI w)).getD 0
def trS (S : RS) (s k : Nat) : Int32 := (f_X0_tellRider S (nI s) (nI k)).getD 0
def tpS (S : RS) (p w : Nat) : Int32 := (f_X0_tellPod S (nI p) (nI w)).getD 0
def gSt (α : AS) (S : RS) (s : Nat) (a : Int64) : Int64 := lfold (fun k a => mx a (trS S s k)) 0 (qq α s).length (lfold (fun w a => mx a (tsS S s w)) 0 7 a)
def gPo (S : RS) (p : Nat) (a : Int64) : Int64 := lfold (fun w a => mx a (tpS S p w)) 0 6 a
def gSl (α : AS) (x : Nat) (a : Int64) : Int64 := mx a (oI (oo α 0 x))
def dig (α : AS) (S : RS) (a : Int64) : Int64 := lfold (gSl α) 0 24 (lfold (gPo S) 0 (nn α 1) (lfold (gSt α S) 0 (nn α 0) (lfold (fun w a => mx a (tcS S w)) 0 9 a)))
theorem c_mix (hA : AI α) (hC : RC α S) (hM : RM none α M) {s : Nat} (hs : s < nn α 0) (a : Int64) : f_X1_mixStation S T a (nI s) = some (gSt α S s a) := by
  have h6 := A_ns hA
  have hln := A_len hA s
  unfold f_X1_mixStation
  have h1 := g_acc (F := fun n a i => f_X1_mixStation_L6 S T n (nI s) a i) (g := fun w a => mx a (tsS S s w)) (nxt := fun a => f_X1_mixStation_L52 S T FU (nI s) a (nI (qq α s).length) 0) (N := 7) (fun n a i hi => by
    show f_X1_mixStation_L6 S T (n + 1) (nI s) a (nI i) = _
    obtain ⟨v, v1, _⟩ := t_st hA hC hM hs hi
    rw [f_X1_mixStation_L6, show (7 : Int32) = nI 7 from by decide, if_neg (nI_ge hi (by decide)), (getD_v v1).1, ob_v, nI_1]
    rfl)
    (fun n a => by
      show f_X1_mixStation_L6 S T (n + 1) (nI s) a (nI 7) = _
      rw [f_X1_mixStation_L6, show (7 : Int32) = nI 7 from by decide, if_pos (nI_le (Nat.le_refl _) (by decide)), c_wait hA hC (by omega), ob_v]) 7 0 FU a rfl (by decide)
  rw [nI_0] at h1
  refine h1.trans ?_
  have h2 := g_acc (F := fun n a i => f_X1_mixStation_L52 S T n (nI s) a (nI (qq α s).length) i) (g := fun k a => mx a (trS S s k)) (nxt := fun a => some a) (N := (qq α s).length) (fun n a i hi => by
    show f_X1_mixStation_L52 S T (n + 1) (nI s) a (nI (qq α s).length) (nI i) = _
    obtain ⟨v, v1, _⟩ := t_rid hA hC hM (show s < 6 by omega) hi
    rw [f_X1_mixStation_L52, if_neg (nI_ge hi (by omega)), (getD_v v1).1, ob_v, nI_1]
    rfl)
    (fun n a => by
      show f_X1_mixStation_L52 S T (n + 1) (nI s) a (nI (qq α s).length) (nI (qq α s).length) = _
      rw [f_X1_mixStation_L52, if_pos (nI_le (Nat.le_refl _) (by omega))]) (qq α s).length 0 FU (lfold (fun w a => mx a (tsS S s w)) 0 7 a) (by omega) (by unfold FU; omega)
  rw [nI_0] at h2
  exact h2
theorem c_dig (hA : AI α) (hC : RC α S) (hM : RM none α M) : f_X1_digest S T = some (dig α S 1399) := by
  have h6 := A_ns hA
  have h12 := A_np hA
  unfold f_X1_digest
  have h1 := g_acc (F := fun n a i => f_X1_digest_L6 S T n a i) (g := fun w a => mx a (tcS S w)) (nxt := fun a => f_X1_digest_L36 S T FU a 0) (N := 9) (fun n a i hi => by
    show f_X1_digest_L6 S T (n + 1) a (nI i) = _
    obtain ⟨v, v1, _⟩ := t_cnt hA hC hM hi
    rw [f_X1_digest_L6, i32_9, if_neg (nI_ge hi (by decide)), (getD_v v1).1, ob_v, nI_1]
    rfl)
    (fun n a => by
      show f_X1_digest_L6 S T (n + 1) a (nI 9) = _
      rw [f_X1_digest_L6, i32_9, if_pos (nI_le (Nat.le_refl _) (by decide))]) 9 0 FU 1399 rfl (by decide)
  rw [nI_0] at h1
  refine h1.trans ?_
  have h2 := g_acc (F := fun n a i => f_X1_digest_L36 S T n a i) (g := gSt α S) (nxt := fun a => f_X1_digest_L62 S T FU a 0) (N := nn α 0) (fun n a i hi => by
    show f_X1_digest_L36 S T (n + 1) a (nI i) = _
    rw [f_X1_digest_L36, C_ns hC, if_neg (nI_ge hi (by omega)), c_mix hA hC hM hi, ob_v, nI_1])
    (fun n a => by
      show f_X1_digest_L36 S T (n + 1) a (nI (nn α 0)) = _
      rw [f_X1_digest_L36, C_ns hC, if_pos (nI_le (Nat.le_refl _) (by omega))]) (nn α 0) 0 FU (lfold (fun w a => mx a (tcS S w)) 0 9 1399) (by omega) (by unfold FU; omega)
  rw [nI_0] at h2
  refine h2.trans ?_
  have h3 := g_acc (F := fun n a i => f_X1_digest_L62 S T n a i) (g := gPo S) (nxt := fun a => f_X1_digest_L115 S T FU a 0) (N := nn α 1) (fun n a i hi => by
    show f_X1_digest_L62 S T (n + 1) a (nI i) = _
    rw [f_X1_digest_L62, C_np hC, if_neg (nI_ge hi (by omega))]
    have := g_acc (F := fun m a w => f_X1_digest_L76 (fun x1 x3 => f_X1_digest_L62 S T n x1 x3) S T m a (nI i) w) (g := fun w a => mx a (tpS S i w)) (nxt := fun a => f_X1_digest_L62 S T n a (nI i + 1)) (N := 6) (fun m a w hw => by
      show f_X1_digest_L76 _ S T (m + 1) a (nI i) (nI w) = _
      obtain ⟨v, v1, _⟩ := t_pod hA hC hM hi hw
      rw [f_X1_digest_L76, show (6 : Int32) = nI 6 from by decide, if_neg (nI_ge hw (by decide)), (getD_v v1).1, ob_v, nI_1 w]
      rfl)
      (fun m a => by
        show f_X1_digest_L76 _ S T (m + 1) a (nI i) (nI 6) = _
        rw [f_X1_digest_L76, show (6 : Int32) = nI 6 from by decide, if_pos (nI_le (Nat.le_refl _) (by decide))]) 6 0 FU a rfl (by decide)
    rw [nI_0, nI_1] at this
    exact this)
    (fun n a => by
      show f_X1_digest_L62 S T (n + 1) a (nI (nn α 1)) = _
      rw [f_X1_digest_L62, C_np hC, if_pos (nI_le (Nat.le_refl _) (by omega))]) (nn α 1) 0 FU (lfold (gSt α S) 0 (nn α 0) (lfold (fun w a => mx a (tcS S w)) 0 9 1399)) (by omega) (by unfold FU; omega)
  rw [nI_0] at h3
  refine h3.trans ?_
  have h4 := g_acc (F := fun n a i => f_X1_digest_L115 S T n a i) (g := gSl α) (nxt := fun a => some a) (N := 24) (fun n a i hi => by
    show f_X1_digest_L115 S T (n + 1) a (nI i) = _
    rw [f_X1_digest_L115, i32_24, if_neg (nI_ge hi (by decide)), c_pod hC hi, ob_v, nI_1]
    rfl)
    (fun n a => by
      show f_X1_digest_L115 S T (n + 1) a (nI 24) = _
      rw [f_X1_digest_L115, i32_24, if_pos (nI_le (Nat.le_refl _) (by decide))]) 24 0 FU (lfold (gPo S) 0 (nn α 1) (lfold (gSt α S) 0 (nn α 0) (lfold (fun w a => mx a (tcS S w)) 0 9 1399))) rfl (by decide)
  rw [nI_0] at h4
  exact h4
theorem m_dig (hA : AI α) (hC : RC α S) (hM : RM none α M) : f_X2_digest_L11 FU 1399 0 M = some (dig α S 1399, M) := by
  have h6 := A_ns hA
  have h12 := A_np hA
  have h1 := g_acc (F := fun n a i => f_X2_digest_L11 n a i M) (g := fun w a => mx a (tcS S w)) (nxt := fun a => f_X2_digest_L38 FU a 0 M) (N := 9) (fun n a i hi => by
    show f_X2_digest_L11 (n + 1) a (nI i) M = _
    obtain ⟨v, v1, v2⟩ := t_cnt hA hC hM hi
    rw [f_X2_digest_L11, i32_9, if_neg (nI_ge hi (by decide)), v2, ob_v, nI_1, (getD_v v1).2]
    rfl)
    (fun n a => by
      show f_X2_digest_L11 (n + 1) a (nI 9) M = _
      rw [f_X2_digest_L11, i32_9, if_pos (nI_le (Nat.le_refl _) (by decide))]) 9 0 FU 1399 rfl (by decide)
  rw [nI_0] at h1
  refine h1.trans ?_
  have h2 := g_acc (F := fun n a i => f_X2_digest_L38 n a i M) (g := gSt α S) (nxt := fun a => f_X2_digest_L120 FU a 0 M) (N := nn α 0) (fun n a i hi => by
    show f_X2_digest_L38 (n + 1) a (nI i) M = _
    have hln := A_len hA i
    rw [f_X2_digest_L38, M_ns hM, if_neg (nI_ge hi (by omega))]
    have q1 := g_acc (F := fun m a w => f_X2_digest_L49 (fun x1 x3 S => f_X2_digest_L38 n x1 x3 S) m a (nI i) w M) (g := fun w a => mx a (tsS S i w)) (nxt := fun a => f_X2_digest_L80 (fun x1 x3 S => f_X2_digest_L38 n x1 x3 S) FU a (nI i) 0 M) (N := 7) (fun m a w hw => by
      show f_X2_digest_L49 _ (m + 1) a (nI i) (nI w) M = _
      obtain ⟨v, v1, v2⟩ := t_st hA hC hM hi hw
      rw [f_X2_digest_L49, show (7 : Int32) = nI 7 from by decide, if_neg (nI_ge hw (by decide)), v2, ob_v, nI_1 w, (getD_v v1).2]
      rfl)
      (fun m a => by
        show f_X2_digest_L49 _ (m + 1) a (nI i) (nI 7) M = _
        rw [f_X2_digest_L49, show (7 : Int32) = nI 7 from by decide, if_pos (nI_le (Nat.le_refl _) (by decide))]) 7 0 FU a rfl (by decide)
    rw [nI_0] at q1
    refine q1.trans ?_
    have q2 := g_acc (F := fun m a w => f_X2_digest_L80 (fun x1 x3 S => f_X2_digest_L38 n x1 x3 S) m a (nI i) w M) (g := fun k a => mx a (trS S i k)) (nxt := fun a => f_X2_digest_L38 n a (nI i + 1) M) (N := (qq α i).length) (fun m a w hw => by
      show f_X2_digest_L80 _ (m + 1) a (nI i) (nI w) M = _
      obtain ⟨v, v1, v2⟩ := t_rid hA hC hM (show i < 6 by omega) hw
      rw [f_X2_digest_L80, m_st1 (by omega), ob_v, M_h1 hM (by omega), if_neg (nI_ge hw (by omega)), v2, ob_v, nI_1 w, (getD_v v1).2]
      rfl)
      (fun m a => by
        show f_X2_digest_L80 _ (m + 1) a (nI i) (nI (qq α i).length) M = _
        rw [f_X2_digest_L80, m_st1 (by omega), ob_v, M_h1 hM (by omega), if_pos (nI_le (Nat.le_refl _) (by omega))]) (qq α i).length 0 FU (lfold (fun w a => mx a (tsS S i w)) 0 7 a) (by omega) (by unfold FU; omega)
    rw [nI_0, nI_1] at q2
    exact q2)
    (fun n a => by
      show f_X2_digest_L38 (n + 1) a (nI (nn α 0)) M = _
      rw [f_X2_digest_L38, M_ns hM, if_pos (nI_le (Nat.le_refl _) (by omega))]) (nn α 0) 0 FU (lfold (fun w a => mx a (tcS S w)) 0 9 1399) (by omega) (by unfold FU; omega)
  rw [nI_0] at h2
  refine h2.trans ?_
  have h3 := g_acc (F := fun n a i => f_X2_digest_L120 n a i M) (g := gPo S) (nxt := fun a => f_X2_digest_L167 FU a 0 M) (N := nn α 1) (fun n a i hi => by
    show f_X2_digest_L120 (n + 1) a (nI i) M = _
    rw [f_X2_digest_L120, M_np hM, if_neg (nI_ge hi (by omega))]
    have := g_acc (F := fun m a w => f_X2_digest_L131 (fun x1 x3 S => f_X2_digest_L120 n x1 x3 S) m a (nI i) w M) (g := fun w a => mx a (tpS S i w)) (nxt := fun a => f_X2_digest_L120 n a (nI i + 1) M) (N := 6) (fun m a w hw => by
      show f_X2_digest_L131 _ (m + 1) a (nI i) (nI w) M = _
      obtain ⟨v, v1, v2⟩ := t_pod hA hC hM hi hw
      rw [f_X2_digest_L131, show (6 : Int32) = nI 6 from by decide, if_neg (nI_ge hw (by decide)), v2, ob_v, nI_1 w, (getD_v v1).2]
      rfl)
      (fun m a => by
        show f_X2_digest_L131 _ (m + 1) a (nI i) (nI 6) M = _
        rw [f_X2_digest_L131, show (6 : Int32) = nI 6 from by decide, if_pos (nI_le (Nat.le_refl _) (by decide))]) 6 0 FU a rfl (by decide)
    rw [nI_0, nI_1] at this
    exact this)
    (fun n a => by
      show f_X2_digest_L120 (n + 1) a (nI (nn α 1)) M = _
      rw [f_X2_digest_L120, M_np hM, if_pos (nI_le (Nat.le_refl _) (by omega))]) (nn α 1) 0 FU (lfold (gSt α S) 0 (nn α 0) (lfold (fun w a => mx a (tcS S w)) 0 9 1399)) (by omega) (by unfold FU; omega)
  rw [nI_0] at h3
  refine h3.trans ?_
  have h4 := g_acc (F := fun n a i => f_X2_digest_L167 n a i M) (g := gSl α) (nxt := fun a => some (a, M)) (N := 24) (fun n a i hi => by
    show f_X2_digest_L167 (n + 1) a (nI i) M = _
    rw [f_X2_digest_L167, i32_24, if_neg (nI_ge hi (by decide)), m_slot hA hM hi, ob_v, nI_1]
    rfl)
    (fun n a => by
      show f_X2_digest_L167 (n + 1) a (nI 24) M = _
      rw [f_X2_digest_L167, i32_24, if_pos (nI_le (Nat.le_refl _) (by decide))]) 24 0 FU (lfold (gPo S) 0 (nn α 1) (lfold (gSt α S) 0 (nn α 0) (lfold (fun w a => mx a (tcS S w)) 0 9 1399))) rfl (by decide)
  rw [nI_0] at h4
  exact h4
theorem a_digest {j : Nat} (h : PK α j S M) : ∃ v M', f_X1_digest S T = some v ∧ f_X2_digest M = some (v, M') ∧ RelP (j + 1) S M' := by
  obtain ⟨hA, hC, hM, ht, hr⟩ := id h
  refine ⟨dig α S 1399, sI M 0 0, c_dig hA hC hM, ?_, α, hA, hC, RM_z hM, by omega, by omega⟩
  unfold f_X2_digest
  rw [lt_e]
  exact m_dig hA hC hM
end PURD
def a0 : AS := (fun _ => 0, fun _ _ => none, fun k j => if k = 4 ∧ j = 0 then -1 else 0, fun _ => [])
theorem sim_start : RelP 0 rI0 mI0 := by
  refine ⟨a0, ⟨by decide, by decide, by decide, by decide, fun s h => absurd h (Nat.not_lt_zero _), (fun x p h => by cases h), (fun x p h => by cases h), (fun x y p h => by cases h), (fun x y p h => by cases h), (fun x y p h => by cases h), (fun p g h => by cases h), (fun p g h => by cases h), fun p _ => rfl, fun s => Nat.zero_le _, (fun s e h => by cases h), fun p _ => ⟨rfl, rfl⟩⟩, ⟨rfl, rfl, rfl, rfl, rfl, rfl, fun x _ => rfl, fun x _ => rfl, fun s h => absurd h (Nat.not_lt_zero _), fun s _ => rfl, fun s _ => rfl, (fun s k e _ h => by simp [qq, a0] at h), fun p _ => rfl, fun p _ => rfl, fun p _ => rfl⟩, ⟨⟨rfl, rfl⟩, rfl, rfl, rfl, rfl, rfl, fun s h => absurd h (Nat.not_lt_zero _), fun s _ => rfl, fun s _ => rfl, (fun s k e _ h => by simp [qq, a0] at h), fun p h => absurd h (Nat.not_lt_zero _), fun p h => absurd h (Nat.not_lt_zero _), fun p h => absurd h (Nat.not_lt_zero _), fun p h => absurd h (Nat.not_lt_zero _), fun p h => absurd h (Nat.not_lt_zero _)⟩, Nat.le_refl _, Nat.le_refl _⟩
theorem sim_all : Sim RelP := ⟨sim_start, fun j hj S T M ⟨α, h⟩ => ⟨a_build h hj, a_pod h hj, a_ride h hj, a_send h hj, a_told h hj, a_station h hj, a_waits h hj, a_slot h hj, a_count h hj, a_pass h hj, a_when h hj, a_takes h hj, a_answers h hj, a_foresee h hj, a_mean h, a_digest h⟩⟩
