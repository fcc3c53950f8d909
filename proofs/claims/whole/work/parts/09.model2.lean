def kfw (u : Nat → Nat) (n : Nat) : Nat → Option Nat := match n with
  | 0 => fun _ => none
  | 1 => va_up (fun _ => none) 0 (some (u 1))
  | 2 => va_up (va_up (fun _ => none) 0 (some (u 1))) 1 (some (u 2))
  | 3 => va_up (va_up (va_up (fun _ => none) 0 (some (u 1))) 1 (some (u 2))) 2 (some (u 3))
  | _ => va_up (va_up (va_up (va_up (fun _ => none) 0 (some (u 1))) 1 (some (u 2))) 2 (some (u 3))) 3 (some (u 4))
def kwl (Z : Nat → ClassId) (u : Nat → Nat) (S : RS) : va_W := [(u 0, .inl (Z 2, 4, .inr (.inr (.inr (.inr (kfw u 4)))))), (u 1, .inl (Z 0, 84, .inl (S.2 0))), (u 2, .inl (Z 0, 18, .inl (S.2 1))), (u 3, .inl (Z 0, 162, .inl (S.2 2))), (u 4, .inl (Z 0, 4, .inl (S.2 3)))]
theorem zI_kept {Z : Nat → ClassId} {a u : Nat → Nat} {S S1 S0 : RS} : zIn (mwl Z a S ++ kwl Z u S0) (mwl Z a S) (mwl Z a S1) (mwl Z a S1 ++ kwl Z u S0) (kwl Z u S0) [0, 1, 2, 3, 4] [5, 6, 7, 8, 9] [5, 6, 7, 8, 9, 0, 1, 2, 3, 4] := ⟨rfl, rfl, by decide, by decide, by decide, rfl, by decide⟩
theorem z_wk {A : Nat → Prop} {w0 w1 : va_W} {H0 H : Heap} {locs : List Loc} (hD : va_D A w0) (hS0 : va_S A H0 H locs) (hA : ∀ q, H0.size ≤ q → A q) (hD1 : va_D (va_A w0 H.size) w1) : va_D A w1 := hD1.weaken (fun _ q _ h => z_hF hD hS0 hA q.1 h)
abbrev rm_X2_kept : Room := { frames := 1, cells := 5, slots := 272, locals := 80 }
abbrev rm_X2_bringBack : Room := { frames := 1, cells := 1, slots := 4, locals := 80 }
theorem hdv_X2_kept : yX2_kept.cls = RX2 ∧ yX2_kept.cls ≠ "java/lang/invoke/MethodHandle" ∧ yX2_kept.cls ≠ "java/lang/invoke/VarHandle" ∧ (parseMethodDescriptor yX2_kept.desc).map (fun d => d.parameters.length) = some 0 := by decide +kernel
theorem hdv_X2_bringBack : yX2_bringBack.cls = RX2 ∧ yX2_bringBack.cls ≠ "java/lang/invoke/MethodHandle" ∧ yX2_bringBack.cls ≠ "java/lang/invoke/VarHandle" ∧ (parseMethodDescriptor yX2_bringBack.desc).map (fun d => d.parameters.length) = some 1 := by decide +kernel
set_option maxHeartbeats 4000000 in
set_option maxRecDepth 100000 in
theorem m_X2_kept (l : Launch) (D : va_G) (Z : Nat → ClassId) (a : Nat → Nat) (S : RS) : ∀ sz : Nat, Met l yX2_kept wsX2_kept rm_X2_kept (va_Pc [.ref (a 0)] (gPre D Z mE (mwl Z a S) sz)) (va_Qr (fun (_ : Nat → Nat) => True) (fun u q t => q = u 0 ∧ va_P D vwCl (mwl Z a S ++ kwl Z u S) t.heap ∧ va_D (va_A (mwl Z a S) sz) (mwl Z a S ++ kwl Z u S)) (va_A (mwl Z a S) sz)) 5 272 (va_A (mwl Z a S) sz) := fun sz => by
  refine z_open (cc := cX2_kept) (nL := 1) (ret := (some (.array (.array .int)))) (by decide +kernel) rfl (Nat.le_of_ble_eq_true rfl) ?_
  intro p e s m below meth c hC hB ls hl
  obtain ⟨⟨hsz, hP, hK, hD0⟩, hE⟩ := hB
  subst hsz
  obtain ⟨hx, hb, hr, hml, hown, hts, hlk, -⟩ := hC
  have hown : s.vm.findClass RX2 = some m.cls := hown
  have hD := hD0.self (sz := s.heap.size)
  generalize hAe : va_A (mwl Z a S) s.heap.size = A at hD hE ⊢
  have hA : ∀ q : Nat, s.heap.size ≤ q → A q := fun q h => by rw [← hAe]; exact Or.inr h
  have hS : va_S A s.heap s.heap [] := va_S.rf
  have hin : ∀ w ∈ wsX20, w ∈ wsX2_kept := fun w h => List.mem_cons_of_mem _ (List.mem_append_right _ h)
  have hl : lv_has ls 1 [(0, .ref (a 0))] := hl
  refine lv_iconst (v := 4) hx hb dX2_kept_0 (by decide) ?_
  refine z_newA (N1 := 4) hx hb hown (hts (.classLink RX2 127 "[I") (List.mem_of_getElem? (i := 1) rfl)) hE.2 hK hP hD hS hA (by decide) (by decide) (by decide) (Nat.le_of_ble_eq_true rfl) (Nat.le_of_ble_eq_true rfl) dX2_kept_1 (fun q0 H hP hD hS => ?_)
  refine lv_dup hx hb dX2_kept_4 rfl ?_
  refine lv_iconst (v := 0) hx hb dX2_kept_5 (by decide) ?_
  refine lv_aload_n hx hb dX2_kept_6 rfl (lv_at hl 0 rfl) ?_
  refine va_get (D := D) (ci := 2) (v := .ref (a 1)) (C := RX2) (T := TX2) (N := 7) hx hb hts hin hown hK hP 0 rfl rfl 3 (by decide) (hts (.fieldLink RX2 9 "PodGuidewayModel" "fleet" "[I") (List.mem_of_getElem? (i := 2) rfl)) (fun _ h9 => h9) rfl dX2_kept_7 ?_
  refine z_clone (q0 := 1) hx hb (hml.trans hl.1.symm) hown hts (List.mem_of_getElem? (i := 3) rfl) (List.mem_of_getElem? (i := 4) rfl) (List.mem_of_getElem? (i := 5) rfl) (List.mem_of_getElem? (i := 6) rfl) (List.mem_of_getElem? (i := 7) rfl) (List.mem_of_getElem? (i := 1) rfl) hE.1 hK hP hD hS hA rfl (Nat.le_of_ble_eq_true rfl) (Nat.le_of_ble_eq_true rfl) (Nat.le_of_ble_eq_true rfl) (Nat.le_of_ble_eq_true rfl) dX2_kept_10 dX2_kept_13 (fun q1 H hP hD hS => ?_)
  have hP : va_P D vwCl (mwl Z a S ++ [(q0, .inl (Z 2, 4, .inr (.inr (.inr (.inr (fun _ => none)))))), (q1, .inl (Z 0, 84, .inl (S.2 0)))]) H := hP
  have hD : va_D A (mwl Z a S ++ [(q0, .inl (Z 2, 4, .inr (.inr (.inr (.inr (fun _ => none)))))), (q1, .inl (Z 0, 84, .inl (S.2 0)))]) := hD
  refine z_astA (q0 := 5) (qk := 6) hx hb hE.2 hK hP hD hS rfl rfl (vp_in_lit (by decide)) dX2_kept_16 (fun H locs hP hD hS => ?_)
  have hP : va_P D vwCl (mwl Z a S ++ [(q0, .inl (Z 2, 4, .inr (.inr (.inr (.inr (va_up (fun _ => none) 0 (some q1))))))), (q1, .inl (Z 0, 84, .inl (S.2 0)))]) H := hP
  have hD : va_D A (mwl Z a S ++ [(q0, .inl (Z 2, 4, .inr (.inr (.inr (.inr (va_up (fun _ => none) 0 (some q1))))))), (q1, .inl (Z 0, 84, .inl (S.2 0)))]) := hD
  refine lv_dup hx hb dX2_kept_17 rfl ?_
  refine lv_iconst (v := 1) hx hb dX2_kept_18 (by decide) ?_
  refine lv_aload_n hx hb dX2_kept_19 rfl (lv_at hl 0 rfl) ?_
  refine va_get (D := D) (ci := 2) (v := .ref (a 2)) (C := RX2) (T := TX2) (N := 7) hx hb hts hin hown hK hP 0 rfl rfl 4 (by decide) (hts (.fieldLink RX2 13 "PodGuidewayModel" "halts" "[I") (List.mem_of_getElem? (i := 8) rfl)) (fun _ h9 => h9) rfl dX2_kept_20 ?_
  refine z_clone (q0 := 2) hx hb (hml.trans hl.1.symm) hown hts (List.mem_of_getElem? (i := 3) rfl) (List.mem_of_getElem? (i := 4) rfl) (List.mem_of_getElem? (i := 5) rfl) (List.mem_of_getElem? (i := 6) rfl) (List.mem_of_getElem? (i := 7) rfl) (List.mem_of_getElem? (i := 1) rfl) hE.1 hK hP hD hS hA rfl (Nat.le_of_ble_eq_true rfl) (Nat.le_of_ble_eq_true rfl) (Nat.le_of_ble_eq_true rfl) (Nat.le_of_ble_eq_true rfl) dX2_kept_23 dX2_kept_26 (fun q2 H hP hD hS => ?_)
  have hP : va_P D vwCl (mwl Z a S ++ [(q0, .inl (Z 2, 4, .inr (.inr (.inr (.inr (va_up (fun _ => none) 0 (some q1))))))), (q1, .inl (Z 0, 84, .inl (S.2 0))), (q2, .inl (Z 0, 18, .inl (S.2 1)))]) H := hP
  have hD : va_D A (mwl Z a S ++ [(q0, .inl (Z 2, 4, .inr (.inr (.inr (.inr (va_up (fun _ => none) 0 (some q1))))))), (q1, .inl (Z 0, 84, .inl (S.2 0))), (q2, .inl (Z 0, 18, .inl (S.2 1)))]) := hD
  refine z_astA (q0 := 5) (qk := 7) hx hb hE.2 hK hP hD hS rfl rfl (vp_in_lit (by decide)) dX2_kept_29 (fun H locs hP hD hS => ?_)
  have hP : va_P D vwCl (mwl Z a S ++ [(q0, .inl (Z 2, 4, .inr (.inr (.inr (.inr (va_up (va_up (fun _ => none) 0 (some q1)) 1 (some q2))))))), (q1, .inl (Z 0, 84, .inl (S.2 0))), (q2, .inl (Z 0, 18, .inl (S.2 1)))]) H := hP
  have hD : va_D A (mwl Z a S ++ [(q0, .inl (Z 2, 4, .inr (.inr (.inr (.inr (va_up (va_up (fun _ => none) 0 (some q1)) 1 (some q2))))))), (q1, .inl (Z 0, 84, .inl (S.2 0))), (q2, .inl (Z 0, 18, .inl (S.2 1)))]) := hD
  refine lv_dup hx hb dX2_kept_30 rfl ?_
  refine lv_iconst (v := 2) hx hb dX2_kept_31 (by decide) ?_
  refine lv_aload_n hx hb dX2_kept_32 rfl (lv_at hl 0 rfl) ?_
  refine va_get (D := D) (ci := 2) (v := .ref (a 3)) (C := RX2) (T := TX2) (N := 7) hx hb hts hin hown hK hP 0 rfl rfl 5 (by decide) (hts (.fieldLink RX2 16 "PodGuidewayModel" "people" "[I") (List.mem_of_getElem? (i := 9) rfl)) (fun _ h9 => h9) rfl dX2_kept_33 ?_
  refine z_clone (q0 := 3) hx hb (hml.trans hl.1.symm) hown hts (List.mem_of_getElem? (i := 3) rfl) (List.mem_of_getElem? (i := 4) rfl) (List.mem_of_getElem? (i := 5) rfl) (List.mem_of_getElem? (i := 6) rfl) (List.mem_of_getElem? (i := 7) rfl) (List.mem_of_getElem? (i := 1) rfl) hE.1 hK hP hD hS hA rfl (Nat.le_of_ble_eq_true rfl) (Nat.le_of_ble_eq_true rfl) (Nat.le_of_ble_eq_true rfl) (Nat.le_of_ble_eq_true rfl) dX2_kept_36 dX2_kept_39 (fun q3 H hP hD hS => ?_)
  have hP : va_P D vwCl (mwl Z a S ++ [(q0, .inl (Z 2, 4, .inr (.inr (.inr (.inr (va_up (va_up (fun _ => none) 0 (some q1)) 1 (some q2))))))), (q1, .inl (Z 0, 84, .inl (S.2 0))), (q2, .inl (Z 0, 18, .inl (S.2 1))), (q3, .inl (Z 0, 162, .inl (S.2 2)))]) H := hP
  have hD : va_D A (mwl Z a S ++ [(q0, .inl (Z 2, 4, .inr (.inr (.inr (.inr (va_up (va_up (fun _ => none) 0 (some q1)) 1 (some q2))))))), (q1, .inl (Z 0, 84, .inl (S.2 0))), (q2, .inl (Z 0, 18, .inl (S.2 1))), (q3, .inl (Z 0, 162, .inl (S.2 2)))]) := hD
  refine z_astA (q0 := 5) (qk := 8) hx hb hE.2 hK hP hD hS rfl rfl (vp_in_lit (by decide)) dX2_kept_42 (fun H locs hP hD hS => ?_)
  have hP : va_P D vwCl (mwl Z a S ++ [(q0, .inl (Z 2, 4, .inr (.inr (.inr (.inr (va_up (va_up (va_up (fun _ => none) 0 (some q1)) 1 (some q2)) 2 (some q3))))))), (q1, .inl (Z 0, 84, .inl (S.2 0))), (q2, .inl (Z 0, 18, .inl (S.2 1))), (q3, .inl (Z 0, 162, .inl (S.2 2)))]) H := hP
  have hD : va_D A (mwl Z a S ++ [(q0, .inl (Z 2, 4, .inr (.inr (.inr (.inr (va_up (va_up (va_up (fun _ => none) 0 (some q1)) 1 (some q2)) 2 (some q3))))))), (q1, .inl (Z 0, 84, .inl (S.2 0))), (q2, .inl (Z 0, 18, .inl (S.2 1))), (q3, .inl (Z 0, 162, .inl (S.2 2)))]) := hD
  refine lv_dup hx hb dX2_kept_43 rfl ?_
  refine lv_iconst (v := 3) hx hb dX2_kept_44 (by decide) ?_
  refine lv_aload_n hx hb dX2_kept_45 rfl (lv_at hl 0 rfl) ?_
  refine va_get (D := D) (ci := 2) (v := .ref (a 4)) (C := RX2) (T := TX2) (N := 7) hx hb hts hin hown hK hP 0 rfl rfl 6 (by decide) (hts (.fieldLink RX2 19 "PodGuidewayModel" "numbers" "[I") (List.mem_of_getElem? (i := 10) rfl)) (fun _ h9 => h9) rfl dX2_kept_46 ?_
  refine z_clone (q0 := 4) hx hb (hml.trans hl.1.symm) hown hts (List.mem_of_getElem? (i := 3) rfl) (List.mem_of_getElem? (i := 4) rfl) (List.mem_of_getElem? (i := 5) rfl) (List.mem_of_getElem? (i := 6) rfl) (List.mem_of_getElem? (i := 7) rfl) (List.mem_of_getElem? (i := 1) rfl) hE.1 hK hP hD hS hA rfl (Nat.le_of_ble_eq_true rfl) (Nat.le_of_ble_eq_true rfl) (Nat.le_of_ble_eq_true rfl) (Nat.le_of_ble_eq_true rfl) dX2_kept_49 dX2_kept_52 (fun q4 H hP hD hS => ?_)
  have hP : va_P D vwCl (mwl Z a S ++ [(q0, .inl (Z 2, 4, .inr (.inr (.inr (.inr (va_up (va_up (va_up (fun _ => none) 0 (some q1)) 1 (some q2)) 2 (some q3))))))), (q1, .inl (Z 0, 84, .inl (S.2 0))), (q2, .inl (Z 0, 18, .inl (S.2 1))), (q3, .inl (Z 0, 162, .inl (S.2 2))), (q4, .inl (Z 0, 4, .inl (S.2 3)))]) H := hP
  have hD : va_D A (mwl Z a S ++ [(q0, .inl (Z 2, 4, .inr (.inr (.inr (.inr (va_up (va_up (va_up (fun _ => none) 0 (some q1)) 1 (some q2)) 2 (some q3))))))), (q1, .inl (Z 0, 84, .inl (S.2 0))), (q2, .inl (Z 0, 18, .inl (S.2 1))), (q3, .inl (Z 0, 162, .inl (S.2 2))), (q4, .inl (Z 0, 4, .inl (S.2 3)))]) := hD
  refine z_astA (q0 := 5) (qk := 9) hx hb hE.2 hK hP hD hS rfl rfl (vp_in_lit (by decide)) dX2_kept_55 (fun H locs hP hD hS => ?_)
  have hP : va_P D vwCl (mwl Z a S ++ [(q0, .inl (Z 2, 4, .inr (.inr (.inr (.inr (va_up (va_up (va_up (va_up (fun _ => none) 0 (some q1)) 1 (some q2)) 2 (some q3)) 3 (some q4))))))), (q1, .inl (Z 0, 84, .inl (S.2 0))), (q2, .inl (Z 0, 18, .inl (S.2 1))), (q3, .inl (Z 0, 162, .inl (S.2 2))), (q4, .inl (Z 0, 4, .inl (S.2 3)))]) H := hP
  have hD : va_D A (mwl Z a S ++ [(q0, .inl (Z 2, 4, .inr (.inr (.inr (.inr (va_up (va_up (va_up (va_up (fun _ => none) 0 (some q1)) 1 (some q2)) 2 (some q3)) 3 (some q4))))))), (q1, .inl (Z 0, 84, .inl (S.2 0))), (q2, .inl (Z 0, 18, .inl (S.2 1))), (q3, .inl (Z 0, 162, .inl (S.2 2))), (q4, .inl (Z 0, 4, .inl (S.2 3)))]) := hD
  obtain ⟨u, hu⟩ : ∃ u : Nat → Nat, u = fun k => match k with | 0 => q0 | 1 => q1 | 2 => q2 | 3 => q3 | _ => q4 := ⟨_, rfl⟩
  have hP : va_P D vwCl (mwl Z a S ++ kwl Z u S) H := by rw [hu]; exact hP
  have hD : va_D A (mwl Z a S ++ kwl Z u S) := by rw [hu]; exact hD
  have h0 : q0 = u 0 := (congrFun hu 0).symm
  refine W.widen (k := 5) (n := 272) (Nat.le_of_ble_eq_true rfl) (Nat.le_of_ble_eq_true rfl) ?_
  exact W.aret hx hb hr (Or.inr ⟨_, rfl⟩) (Or.inr ⟨_, rfl⟩) (fun t ht hW => ⟨⟨u, q0, rfl, trivial, h0, by rw [ht]; exact hP, hD⟩, hS.F ht⟩) hS.2.2 dX2_kept_56 hlk
def mwr (Z : Nat → ClassId) (a : Nat → Nat) (F : Nat → Int32) (r0 r1 r2 r3 : Nat → Int32) : va_W := [(a 0, .inr (2, [.int (F 0), .int (F 1), .int (F 2), .ref (a 1), .ref (a 2), .ref (a 3), .ref (a 4)])), (a 1, .inl (Z 0, 84, .inl r0)), (a 2, .inl (Z 0, 18, .inl r1)), (a 3, .inl (Z 0, 162, .inl r2)), (a 4, .inl (Z 0, 4, .inl r3))]
set_option maxHeartbeats 4000000 in
set_option maxRecDepth 100000 in
theorem m_X2_bringBack (l : Launch) (D : va_G) (Z : Nat → ClassId) (a u : Nat → Nat) (S S0 : RS) : GWv l yX2_bringBack wsX2_bringBack rm_X2_bringBack D Z mE [.ref (a 0), .ref (u 0)] (mwl Z a S ++ kwl Z u S0) (mwl Z a (S.1, S0.2) ++ kwl Z u S0) 1 4 := by
  refine GWv.of (cc := cX2_bringBack) (nL := 4) (ret := none) (by decide +kernel) rfl (Nat.le_of_ble_eq_true rfl) ?_
  intro p e s m below meth c A hC hE hA hP hK hD hS ls hl
  obtain ⟨hx, hb, hr, hml, hown, hts, hlk, -⟩ := hC
  have hown : s.vm.findClass RX2 = some m.cls := hown
  have hin : ∀ w ∈ wsX20, w ∈ wsX2_bringBack := fun w h => List.mem_cons_of_mem _ (List.mem_append_right _ h)
  have hl : lv_has ls 4 [(0, .ref (a 0)), (1, .ref (u 0))] := hl
  refine lv_iconst (v := 4) hx hb dX2_bringBack_0 (by decide) ?_
  refine z_newA (N1 := 4) hx hb hown (hts (.classLink RX2 127 "[I") (List.mem_of_getElem? (i := 1) rfl)) hE.2 hK hP hD hS hA (by decide) (by decide) (by decide) (Nat.le_of_ble_eq_true rfl) (Nat.le_of_ble_eq_true rfl) dX2_bringBack_1 (fun q0 H hP hD hS => ?_)
  refine lv_dup hx hb dX2_bringBack_4 rfl ?_
  refine lv_iconst (v := 0) hx hb dX2_bringBack_5 (by decide) ?_
  refine lv_aload_n hx hb dX2_bringBack_6 rfl (lv_at hl 0 rfl) ?_
  refine va_get (D := D) (ci := 2) (v := .ref (a 1)) (C := RX2) (T := TX2) (N := 7) hx hb hts hin hown hK hP 0 rfl rfl 3 (by decide) (hts (.fieldLink RX2 9 "PodGuidewayModel" "fleet" "[I") (List.mem_of_getElem? (i := 2) rfl)) (fun _ h9 => h9) rfl dX2_bringBack_7 ?_
  refine z_astA (q0 := 10) (qk := 1) hx hb hE.2 hK hP hD hS rfl rfl (vp_in_lit (by decide)) dX2_bringBack_10 (fun H locs hP hD hS => ?_)
  have hP : va_P D vwCl (mwr Z a S.1 (S.2 0) (S.2 1) (S.2 2) (S.2 3) ++ (kwl Z u S0 ++ [(q0, .inl (Z 2, 4, .inr (.inr (.inr (.inr (va_up (fun _ => none) 0 (some (a 1))))))))])) H := hP
  have hD : va_D A (mwr Z a S.1 (S.2 0) (S.2 1) (S.2 2) (S.2 3) ++ (kwl Z u S0 ++ [(q0, .inl (Z 2, 4, .inr (.inr (.inr (.inr (va_up (fun _ => none) 0 (some (a 1))))))))])) := hD
  refine lv_dup hx hb dX2_bringBack_11 rfl ?_
  refine lv_iconst (v := 1) hx hb dX2_bringBack_12 (by decide) ?_
  refine lv_aload_n hx hb dX2_bringBack_13 rfl (lv_at hl 0 rfl) ?_
  refine va_get (D := D) (ci := 2) (v := .ref (a 2)) (C := RX2) (T := TX2) (N := 7) hx hb hts hin hown hK hP 0 rfl rfl 4 (by decide) (hts (.fieldLink RX2 13 "PodGuidewayModel" "halts" "[I") (List.mem_of_getElem? (i := 3) rfl)) (fun _ h9 => h9) rfl dX2_bringBack_14 ?_
  refine z_astA (q0 := 10) (qk := 2) hx hb hE.2 hK hP hD hS rfl rfl (vp_in_lit (by decide)) dX2_bringBack_17 (fun H locs hP hD hS => ?_)
  have hP : va_P D vwCl (mwr Z a S.1 (S.2 0) (S.2 1) (S.2 2) (S.2 3) ++ (kwl Z u S0 ++ [(q0, .inl (Z 2, 4, .inr (.inr (.inr (.inr (va_up (va_up (fun _ => none) 0 (some (a 1))) 1 (some (a 2))))))))])) H := hP
  have hD : va_D A (mwr Z a S.1 (S.2 0) (S.2 1) (S.2 2) (S.2 3) ++ (kwl Z u S0 ++ [(q0, .inl (Z 2, 4, .inr (.inr (.inr (.inr (va_up (va_up (fun _ => none) 0 (some (a 1))) 1 (some (a 2))))))))])) := hD
  refine lv_dup hx hb dX2_bringBack_18 rfl ?_
  refine lv_iconst (v := 2) hx hb dX2_bringBack_19 (by decide) ?_
  refine lv_aload_n hx hb dX2_bringBack_20 rfl (lv_at hl 0 rfl) ?_
  refine va_get (D := D) (ci := 2) (v := .ref (a 3)) (C := RX2) (T := TX2) (N := 7) hx hb hts hin hown hK hP 0 rfl rfl 5 (by decide) (hts (.fieldLink RX2 16 "PodGuidewayModel" "people" "[I") (List.mem_of_getElem? (i := 4) rfl)) (fun _ h9 => h9) rfl dX2_bringBack_21 ?_
  refine z_astA (q0 := 10) (qk := 3) hx hb hE.2 hK hP hD hS rfl rfl (vp_in_lit (by decide)) dX2_bringBack_24 (fun H locs hP hD hS => ?_)
  have hP : va_P D vwCl (mwr Z a S.1 (S.2 0) (S.2 1) (S.2 2) (S.2 3) ++ (kwl Z u S0 ++ [(q0, .inl (Z 2, 4, .inr (.inr (.inr (.inr (va_up (va_up (va_up (fun _ => none) 0 (some (a 1))) 1 (some (a 2))) 2 (some (a 3))))))))])) H := hP
  have hD : va_D A (mwr Z a S.1 (S.2 0) (S.2 1) (S.2 2) (S.2 3) ++ (kwl Z u S0 ++ [(q0, .inl (Z 2, 4, .inr (.inr (.inr (.inr (va_up (va_up (va_up (fun _ => none) 0 (some (a 1))) 1 (some (a 2))) 2 (some (a 3))))))))])) := hD
  refine lv_dup hx hb dX2_bringBack_25 rfl ?_
  refine lv_iconst (v := 3) hx hb dX2_bringBack_26 (by decide) ?_
  refine lv_aload_n hx hb dX2_bringBack_27 rfl (lv_at hl 0 rfl) ?_
  refine va_get (D := D) (ci := 2) (v := .ref (a 4)) (C := RX2) (T := TX2) (N := 7) hx hb hts hin hown hK hP 0 rfl rfl 6 (by decide) (hts (.fieldLink RX2 19 "PodGuidewayModel" "numbers" "[I") (List.mem_of_getElem? (i := 5) rfl)) (fun _ h9 => h9) rfl dX2_bringBack_28 ?_
  refine z_astA (q0 := 10) (qk := 4) hx hb hE.2 hK hP hD hS rfl rfl (vp_in_lit (by decide)) dX2_bringBack_31 (fun H locs hP hD hS => ?_)
  have hP : va_P D vwCl (mwr Z a S.1 (S.2 0) (S.2 1) (S.2 2) (S.2 3) ++ (kwl Z u S0 ++ [(q0, .inl (Z 2, 4, .inr (.inr (.inr (.inr (va_up (va_up (va_up (va_up (fun _ => none) 0 (some (a 1))) 1 (some (a 2))) 2 (some (a 3))) 3 (some (a 4))))))))])) H := hP
  have hD : va_D A (mwr Z a S.1 (S.2 0) (S.2 1) (S.2 2) (S.2 3) ++ (kwl Z u S0 ++ [(q0, .inl (Z 2, 4, .inr (.inr (.inr (.inr (va_up (va_up (va_up (va_up (fun _ => none) 0 (some (a 1))) 1 (some (a 2))) 2 (some (a 3))) 3 (some (a 4))))))))])) := hD
  refine lv_astore_n (lv' := [(2, .ref q0), (0, .ref (a 0)), (1, .ref (u 0))]) hx hb dX2_bringBack_32 rfl hl (by decide) rfl (fun ls hl => ?_)
  refine lv_iconst (v := 0) hx hb dX2_bringBack_33 (by decide) ?_
  refine lv_istore_n (lv' := [(3, .int 0), (2, .ref q0), (0, .ref (a 0)), (1, .ref (u 0))]) hx hb dX2_bringBack_34 rfl hl (by decide) rfl (fun ls hl => ?_)
  refine lv_iload_n hx hb dX2_bringBack_35 rfl (lv_at hl 0 rfl) ?_
  refine lv_aload_n hx hb dX2_bringBack_36 rfl (lv_at hl 1 rfl) ?_
  refine va_alen (v := 4) hx hb hK hP 10 2 rfl rfl rfl dX2_bringBack_37 ?_
  refine lv_icmp_ge (tgt := 62) hx hb dX2_bringBack_38 (by decide) (fun c9 => absurd c9 (by decide)) (fun _ => ?_)
  refine lv_aload_n hx hb dX2_bringBack_41 rfl (lv_at hl 3 rfl) ?_
  refine lv_iload_n hx hb dX2_bringBack_42 rfl (lv_at hl 0 rfl) ?_
  refine z_aldA (q0 := 5) (v := .ref (u 1)) hx hb hK hP rfl (vp_in_lit (by decide)) rfl dX2_bringBack_43 ?_
  refine lv_iconst (v := 0) hx hb dX2_bringBack_44 (by decide) ?_
  refine lv_aload_n hx hb dX2_bringBack_45 rfl (lv_at hl 1 rfl) ?_
  refine lv_iload_n hx hb dX2_bringBack_46 rfl (lv_at hl 0 rfl) ?_
  refine z_aldA (q0 := 10) (v := .ref (a 1)) hx hb hK hP rfl (vp_in_lit (by decide)) rfl dX2_bringBack_47 ?_
  refine lv_iconst (v := 0) hx hb dX2_bringBack_48 (by decide) ?_
  refine lv_aload_n hx hb dX2_bringBack_49 rfl (lv_at hl 1 rfl) ?_
  refine lv_iload_n hx hb dX2_bringBack_50 rfl (lv_at hl 0 rfl) ?_
  refine z_aldA (q0 := 10) (v := .ref (a 1)) hx hb hK hP rfl (vp_in_lit (by decide)) rfl dX2_bringBack_51 ?_
  refine va_alen (v := 84) hx hb hK hP 1 0 rfl rfl rfl dX2_bringBack_52 ?_
  refine va_copyi (sp := 0) (dp := 0) (n := 84) hx hb (hml.trans hl.1.symm) hown (hts (.methodLink RX2 57 arraycopyName) (List.mem_of_getElem? (i := 6) rfl)) (hts (.native arraycopyName) (List.mem_of_getElem? (i := 7) rfl)) (hts (.static arraycopyName) (List.mem_of_getElem? (i := 8) rfl)) (hts (.initialized "java/lang/System") (List.mem_of_getElem? (i := 9) rfl)) hK hP hD hS 6 1 0 0 rfl rfl rfl rfl rfl (by decide) (by decide) (by decide) (by decide) (by decide) (fun _ _ => rfl) (Nat.le_of_ble_eq_true rfl) (by decide) dX2_bringBack_53 (fun H locs hP hD hS => ?_)
  have hP := va_P.ext (k := 1) (a := a 1) (n := 84) (g := S0.2 0) hP rfl (fun j hj => va_cpy_all (n := 84) j hj)
  have hD := hD.set (p := 1) (a := a 1) (e := .inl (Z 0, 84, .inl (S0.2 0))) rfl
  have hP : va_P D vwCl (mwr Z a S.1 (S0.2 0) (S.2 1) (S.2 2) (S.2 3) ++ (kwl Z u S0 ++ [(q0, .inl (Z 2, 4, .inr (.inr (.inr (.inr (va_up (va_up (va_up (va_up (fun _ => none) 0 (some (a 1))) 1 (some (a 2))) 2 (some (a 3))) 3 (some (a 4))))))))])) H := hP
  have hD : va_D A (mwr Z a S.1 (S0.2 0) (S.2 1) (S.2 2) (S.2 3) ++ (kwl Z u S0 ++ [(q0, .inl (Z 2, 4, .inr (.inr (.inr (.inr (va_up (va_up (va_up (va_up (fun _ => none) 0 (some (a 1))) 1 (some (a 2))) 2 (some (a 3))) 3 (some (a 4))))))))])) := hD
  refine lv_iinc (v := 1) (lv' := [(3, .int 1), (2, .ref q0), (0, .ref (a 0)), (1, .ref (u 0))]) hx hb dX2_bringBack_56 hl (k := 0) rfl (by decide) (by decide) rfl (fun ls hl => ?_)
  refine lv_goto (tgt := 35) hx hb dX2_bringBack_59 (by decide) ?_
  refine lv_iload_n hx hb dX2_bringBack_35 rfl (lv_at hl 0 rfl) ?_
  refine lv_aload_n hx hb dX2_bringBack_36 rfl (lv_at hl 1 rfl) ?_
  refine va_alen (v := 4) hx hb hK hP 10 2 rfl rfl rfl dX2_bringBack_37 ?_
  refine lv_icmp_ge (tgt := 62) hx hb dX2_bringBack_38 (by decide) (fun c9 => absurd c9 (by decide)) (fun _ => ?_)
  refine lv_aload_n hx hb dX2_bringBack_41 rfl (lv_at hl 3 rfl) ?_
  refine lv_iload_n hx hb dX2_bringBack_42 rfl (lv_at hl 0 rfl) ?_
  refine z_aldA (q0 := 5) (v := .ref (u 2)) hx hb hK hP rfl (vp_in_lit (by decide)) rfl dX2_bringBack_43 ?_
  refine lv_iconst (v := 0) hx hb dX2_bringBack_44 (by decide) ?_
  refine lv_aload_n hx hb dX2_bringBack_45 rfl (lv_at hl 1 rfl) ?_
  refine lv_iload_n hx hb dX2_bringBack_46 rfl (lv_at hl 0 rfl) ?_
  refine z_aldA (q0 := 10) (v := .ref (a 2)) hx hb hK hP rfl (vp_in_lit (by decide)) rfl dX2_bringBack_47 ?_
  refine lv_iconst (v := 0) hx hb dX2_bringBack_48 (by decide) ?_
  refine lv_aload_n hx hb dX2_bringBack_49 rfl (lv_at hl 1 rfl) ?_
  refine lv_iload_n hx hb dX2_bringBack_50 rfl (lv_at hl 0 rfl) ?_
  refine z_aldA (q0 := 10) (v := .ref (a 2)) hx hb hK hP rfl (vp_in_lit (by decide)) rfl dX2_bringBack_51 ?_
  refine va_alen (v := 18) hx hb hK hP 2 0 rfl rfl rfl dX2_bringBack_52 ?_
  refine va_copyi (sp := 0) (dp := 0) (n := 18) hx hb (hml.trans hl.1.symm) hown (hts (.methodLink RX2 57 arraycopyName) (List.mem_of_getElem? (i := 6) rfl)) (hts (.native arraycopyName) (List.mem_of_getElem? (i := 7) rfl)) (hts (.static arraycopyName) (List.mem_of_getElem? (i := 8) rfl)) (hts (.initialized "java/lang/System") (List.mem_of_getElem? (i := 9) rfl)) hK hP hD hS 7 2 0 0 rfl rfl rfl rfl rfl (by decide) (by decide) (by decide) (by decide) (by decide) (fun _ _ => rfl) (Nat.le_of_ble_eq_true rfl) (by decide) dX2_bringBack_53 (fun H locs hP hD hS => ?_)
  have hP := va_P.ext (k := 2) (a := a 2) (n := 18) (g := S0.2 1) hP rfl (fun j hj => va_cpy_all (n := 18) j hj)
  have hD := hD.set (p := 2) (a := a 2) (e := .inl (Z 0, 18, .inl (S0.2 1))) rfl
  have hP : va_P D vwCl (mwr Z a S.1 (S0.2 0) (S0.2 1) (S.2 2) (S.2 3) ++ (kwl Z u S0 ++ [(q0, .inl (Z 2, 4, .inr (.inr (.inr (.inr (va_up (va_up (va_up (va_up (fun _ => none) 0 (some (a 1))) 1 (some (a 2))) 2 (some (a 3))) 3 (some (a 4))))))))])) H := hP
  have hD : va_D A (mwr Z a S.1 (S0.2 0) (S0.2 1) (S.2 2) (S.2 3) ++ (kwl Z u S0 ++ [(q0, .inl (Z 2, 4, .inr (.inr (.inr (.inr (va_up (va_up (va_up (va_up (fun _ => none) 0 (some (a 1))) 1 (some (a 2))) 2 (some (a 3))) 3 (some (a 4))))))))])) := hD
  refine lv_iinc (v := 2) (lv' := [(3, .int 2), (2, .ref q0), (0, .ref (a 0)), (1, .ref (u 0))]) hx hb dX2_bringBack_56 hl (k := 0) rfl (by decide) (by decide) rfl (fun ls hl => ?_)
  refine lv_goto (tgt := 35) hx hb dX2_bringBack_59 (by decide) ?_
  refine lv_iload_n hx hb dX2_bringBack_35 rfl (lv_at hl 0 rfl) ?_
  refine lv_aload_n hx hb dX2_bringBack_36 rfl (lv_at hl 1 rfl) ?_
  refine va_alen (v := 4) hx hb hK hP 10 2 rfl rfl rfl dX2_bringBack_37 ?_
  refine lv_icmp_ge (tgt := 62) hx hb dX2_bringBack_38 (by decide) (fun c9 => absurd c9 (by decide)) (fun _ => ?_)
  refine lv_aload_n hx hb dX2_bringBack_41 rfl (lv_at hl 3 rfl) ?_
  refine lv_iload_n hx hb dX2_bringBack_42 rfl (lv_at hl 0 rfl) ?_
  refine z_aldA (q0 := 5) (v := .ref (u 3)) hx hb hK hP rfl (vp_in_lit (by decide)) rfl dX2_bringBack_43 ?_
  refine lv_iconst (v := 0) hx hb dX2_bringBack_44 (by decide) ?_
  refine lv_aload_n hx hb dX2_bringBack_45 rfl (lv_at hl 1 rfl) ?_
  refine lv_iload_n hx hb dX2_bringBack_46 rfl (lv_at hl 0 rfl) ?_
  refine z_aldA (q0 := 10) (v := .ref (a 3)) hx hb hK hP rfl (vp_in_lit (by decide)) rfl dX2_bringBack_47 ?_
  refine lv_iconst (v := 0) hx hb dX2_bringBack_48 (by decide) ?_
  refine lv_aload_n hx hb dX2_bringBack_49 rfl (lv_at hl 1 rfl) ?_
  refine lv_iload_n hx hb dX2_bringBack_50 rfl (lv_at hl 0 rfl) ?_
  refine z_aldA (q0 := 10) (v := .ref (a 3)) hx hb hK hP rfl (vp_in_lit (by decide)) rfl dX2_bringBack_51 ?_
  refine va_alen (v := 162) hx hb hK hP 3 0 rfl rfl rfl dX2_bringBack_52 ?_
  refine va_copyi (sp := 0) (dp := 0) (n := 162) hx hb (hml.trans hl.1.symm) hown (hts (.methodLink RX2 57 arraycopyName) (List.mem_of_getElem? (i := 6) rfl)) (hts (.native arraycopyName) (List.mem_of_getElem? (i := 7) rfl)) (hts (.static arraycopyName) (List.mem_of_getElem? (i := 8) rfl)) (hts (.initialized "java/lang/System") (List.mem_of_getElem? (i := 9) rfl)) hK hP hD hS 8 3 0 0 rfl rfl rfl rfl rfl (by decide) (by decide) (by decide) (by decide) (by decide) (fun _ _ => rfl) (Nat.le_of_ble_eq_true rfl) (by decide) dX2_bringBack_53 (fun H locs hP hD hS => ?_)
  have hP := va_P.ext (k := 3) (a := a 3) (n := 162) (g := S0.2 2) hP rfl (fun j hj => va_cpy_all (n := 162) j hj)
  have hD := hD.set (p := 3) (a := a 3) (e := .inl (Z 0, 162, .inl (S0.2 2))) rfl
  have hP : va_P D vwCl (mwr Z a S.1 (S0.2 0) (S0.2 1) (S0.2 2) (S.2 3) ++ (kwl Z u S0 ++ [(q0, .inl (Z 2, 4, .inr (.inr (.inr (.inr (va_up (va_up (va_up (va_up (fun _ => none) 0 (some (a 1))) 1 (some (a 2))) 2 (some (a 3))) 3 (some (a 4))))))))])) H := hP
  have hD : va_D A (mwr Z a S.1 (S0.2 0) (S0.2 1) (S0.2 2) (S.2 3) ++ (kwl Z u S0 ++ [(q0, .inl (Z 2, 4, .inr (.inr (.inr (.inr (va_up (va_up (va_up (va_up (fun _ => none) 0 (some (a 1))) 1 (some (a 2))) 2 (some (a 3))) 3 (some (a 4))))))))])) := hD
  refine lv_iinc (v := 3) (lv' := [(3, .int 3), (2, .ref q0), (0, .ref (a 0)), (1, .ref (u 0))]) hx hb dX2_bringBack_56 hl (k := 0) rfl (by decide) (by decide) rfl (fun ls hl => ?_)
  refine lv_goto (tgt := 35) hx hb dX2_bringBack_59 (by decide) ?_
  refine lv_iload_n hx hb dX2_bringBack_35 rfl (lv_at hl 0 rfl) ?_
  refine lv_aload_n hx hb dX2_bringBack_36 rfl (lv_at hl 1 rfl) ?_
  refine va_alen (v := 4) hx hb hK hP 10 2 rfl rfl rfl dX2_bringBack_37 ?_
  refine lv_icmp_ge (tgt := 62) hx hb dX2_bringBack_38 (by decide) (fun c9 => absurd c9 (by decide)) (fun _ => ?_)
  refine lv_aload_n hx hb dX2_bringBack_41 rfl (lv_at hl 3 rfl) ?_
  refine lv_iload_n hx hb dX2_bringBack_42 rfl (lv_at hl 0 rfl) ?_
  refine z_aldA (q0 := 5) (v := .ref (u 4)) hx hb hK hP rfl (vp_in_lit (by decide)) rfl dX2_bringBack_43 ?_
  refine lv_iconst (v := 0) hx hb dX2_bringBack_44 (by decide) ?_
  refine lv_aload_n hx hb dX2_bringBack_45 rfl (lv_at hl 1 rfl) ?_
  refine lv_iload_n hx hb dX2_bringBack_46 rfl (lv_at hl 0 rfl) ?_
  refine z_aldA (q0 := 10) (v := .ref (a 4)) hx hb hK hP rfl (vp_in_lit (by decide)) rfl dX2_bringBack_47 ?_
  refine lv_iconst (v := 0) hx hb dX2_bringBack_48 (by decide) ?_
  refine lv_aload_n hx hb dX2_bringBack_49 rfl (lv_at hl 1 rfl) ?_
  refine lv_iload_n hx hb dX2_bringBack_50 rfl (lv_at hl 0 rfl) ?_
  refine z_aldA (q0 := 10) (v := .ref (a 4)) hx hb hK hP rfl (vp_in_lit (by decide)) rfl dX2_bringBack_51 ?_
  refine va_alen (v := 4) hx hb hK hP 4 0 rfl rfl rfl dX2_bringBack_52 ?_
  refine va_copyi (sp := 0) (dp := 0) (n := 4) hx hb (hml.trans hl.1.symm) hown (hts (.methodLink RX2 57 arraycopyName) (List.mem_of_getElem? (i := 6) rfl)) (hts (.native arraycopyName) (List.mem_of_getElem? (i := 7) rfl)) (hts (.static arraycopyName) (List.mem_of_getElem? (i := 8) rfl)) (hts (.initialized "java/lang/System") (List.mem_of_getElem? (i := 9) rfl)) hK hP hD hS 9 4 0 0 rfl rfl rfl rfl rfl (by decide) (by decide) (by decide) (by decide) (by decide) (fun _ _ => rfl) (Nat.le_of_ble_eq_true rfl) (by decide) dX2_bringBack_53 (fun H locs hP hD hS => ?_)
  have hP := va_P.ext (k := 4) (a := a 4) (n := 4) (g := S0.2 3) hP rfl (fun j hj => va_cpy_all (n := 4) j hj)
  have hD := hD.set (p := 4) (a := a 4) (e := .inl (Z 0, 4, .inl (S0.2 3))) rfl
  have hP : va_P D vwCl (mwr Z a S.1 (S0.2 0) (S0.2 1) (S0.2 2) (S0.2 3) ++ (kwl Z u S0 ++ [(q0, .inl (Z 2, 4, .inr (.inr (.inr (.inr (va_up (va_up (va_up (va_up (fun _ => none) 0 (some (a 1))) 1 (some (a 2))) 2 (some (a 3))) 3 (some (a 4))))))))])) H := hP
  have hD : va_D A (mwr Z a S.1 (S0.2 0) (S0.2 1) (S0.2 2) (S0.2 3) ++ (kwl Z u S0 ++ [(q0, .inl (Z 2, 4, .inr (.inr (.inr (.inr (va_up (va_up (va_up (va_up (fun _ => none) 0 (some (a 1))) 1 (some (a 2))) 2 (some (a 3))) 3 (some (a 4))))))))])) := hD
  refine lv_iinc (v := 4) (lv' := [(3, .int 4), (2, .ref q0), (0, .ref (a 0)), (1, .ref (u 0))]) hx hb dX2_bringBack_56 hl (k := 0) rfl (by decide) (by decide) rfl (fun ls hl => ?_)
  refine lv_goto (tgt := 35) hx hb dX2_bringBack_59 (by decide) ?_
  refine lv_iload_n hx hb dX2_bringBack_35 rfl (lv_at hl 0 rfl) ?_
  refine lv_aload_n hx hb dX2_bringBack_36 rfl (lv_at hl 1 rfl) ?_
  refine va_alen (v := 4) hx hb hK hP 10 2 rfl rfl rfl dX2_bringBack_37 ?_
  refine lv_icmp_ge (tgt := 62) hx hb dX2_bringBack_38 (by decide) (fun _ => ?_) (fun c9 => absurd (by decide) c9)
  have hP := hP.sub (ws' := mwl Z a (S.1, S0.2) ++ kwl Z u S0) [0, 1, 2, 3, 4, 5, 6, 7, 8, 9] rfl
  have hD := hD.sub (ws' := mwl Z a (S.1, S0.2) ++ kwl Z u S0) [0, 1, 2, 3, 4, 5, 6, 7, 8, 9] (by decide) rfl
  exact zw_v hx hb hr hlk hP hD hS rfl (Nat.le_of_ble_eq_true rfl) (Nat.le_of_ble_eq_true rfl) dX2_bringBack_62
def f_X2_when_L93   (S1 : RS) (y0 : Int32) (S : RS) : Option (Int32 × RS) :=
  lt ((S.1, S1.2) : RS) fun (S16 : RS) =>
  some (y0, S16)
def f_X2_when_L76   (S1 : RS) (x1 : Int32) (x3 : Int32) (x4 : Int32) (S : RS) : Option (Int32 × RS) :=
  ob (f_X2_po S x1 6) fun v14 =>
  if v14 = x3 then
    f_X2_when_L93 S1 (-1) S
  else
    f_X2_when_L93 S1 x4 S
def f_X2_when_L47   (S1 : RS) : Nat → Int32 → Int32 → Int32 → RS → Option (Int32 × RS)
  | 0, _, _, _, _ => none
  | n + 1, x1, x3, x4, S =>
    if 200 ≤ x4 then
      f_X2_when_L76 S1 x1 x3 x4 S
    else
      ob (f_X2_po S x1 6) fun v18 =>
      if v18 = x3 then
        ob (f_X2_minuteOn S) fun S21 =>
        f_X2_when_L47 S1 n x1 x3 (x4 + 1) S21
      else
        f_X2_when_L76 S1 x1 x3 x4 S
def f_X2_when  (S : RS) (p1 : Int32) : Option (Int32 × RS) :=
  lt (sI S 0 0) fun (S1 : RS) =>
  ob (f_X2_isPod S1 p1) fun v3 =>
  if v3 = 0 then
    ob2 (f_X2_fail S1 1) fun v24 S23 =>
    some (v24, S23)
  else
    ob (f_X2_po S1 p1 3) fun v7 =>
    if v7 = (-1) then
      some ((-1), S1)
    else
      ob (f_X2_po S1 p1 6) fun v11 =>
      f_X2_when_L47 S1 FU p1 v11 0 S1
abbrev rm_X2_when : Room := { frames := 6, cells := 6, slots := 276, locals := 134 }
theorem hdv_X2_when : yX2_when.cls = RX2 ∧ yX2_when.cls ≠ "java/lang/invoke/MethodHandle" ∧ yX2_when.cls ≠ "java/lang/invoke/VarHandle" ∧ (parseMethodDescriptor yX2_when.desc).map (fun d => d.parameters.length) = some 1 := by decide +kernel
set_option maxHeartbeats 4000000 in
set_option maxRecDepth 100000 in
theorem m_X2_when (l : Launch) (D : va_G) (Z : Nat → ClassId) (a : Nat → Nat) (S : RS) (p1 : Int32) (S' : RS) (r : Int32) (hf : f_X2_when S p1 = some (r, S')) : GWi l yX2_when wsX2_when rm_X2_when D Z mE [.ref (a 0), .int p1] (mwl Z a S) (mwl Z a S') r 6 276 := by
  refine GWi.of (cc := cX2_when) (nL := 6) (ret := (some .int)) (by decide +kernel) rfl (Nat.le_of_ble_eq_true rfl) ?_
  intro p e s m below meth c A hC hE hA hP hK hD hS ls hl
  obtain ⟨hx, hb, hr, hml, hown, hts, hlk, -⟩ := hC
  have hown : s.vm.findClass RX2 = some m.cls := hown
  have hin : ∀ w ∈ wsX20, w ∈ wsX2_when := fun w h => List.mem_cons_of_mem _ (List.mem_append_right _ h)
  have hl : lv_has ls 6 [(0, .ref (a 0)), (1, .int p1)] := hl
  have L93 : ∀ (u9 : Nat → Nat) (S1 : RS), ∀ (y0 : Int32) (S : RS) (H : Heap) (locs : List Loc), va_P D vwCl ((mwl Z a S) ++ kwl Z u9 S1) H → va_D A ((mwl Z a S) ++ kwl Z u9 S1) → va_S A s.heap H locs → ∀ ls : Array Slot, lv_has ls 6 [(0, .ref (a 0)), (2, .ref (u9 0))] → f_X2_when_L93 S1 y0 S = some (r, S') → W p l e rm_X2_when s m ([.ref (a 0), .int p1] : List Value).toArray below meth c H locs 5 272 (MQ below (zMi D A (mwl Z a S') r) ([.ref (a 0), .int p1] : List Value).toArray s 6 276 A) (F0 m 93 ls [.int y0]) := by
    intro u9 S1 y0 S H locs hP hD hS ls hl hf
    unfold f_X2_when_L93 at hf
    refine lv_istore (lv' := [(5, .int y0), (0, .ref (a 0)), (2, .ref (u9 0))]) hx hb dX2_when_93 hl (by decide) rfl (fun ls hl => ?_)
    refine lv_aload_n hx hb dX2_when_95 rfl (lv_at hl 1 rfl) ?_
    refine lv_aload_n hx hb dX2_when_96 rfl (lv_at hl 2 rfl) ?_
    obtain ⟨S16, eS16, hf⟩ := lt_ex hf
    refine zc_mv0 (z_VG (As := [.ref (u9 0)]) (rest := []) (q0 := 0) (ci := 2) mE_ok hE hS hA ⟨hx, hb, hml, hown, hts⟩ (m_X2_bringBack l D Z a u9 S S1) gX2_when_X2_bringBack rfl rfl rfl hdv_X2_bringBack ⟨Nat.le_of_ble_eq_true rfl, Nat.le_of_ble_eq_true rfl⟩ hK hP hD rfl rfl rfl rfl hl.1 rfl (Nat.le_of_ble_eq_true rfl) dX2_when_97 ⟨Nat.le_of_ble_eq_true rfl, Nat.le_of_ble_eq_true rfl⟩) hD hS hA (fun H locs hP hD hS => ?_)
    have hP : va_P D vwCl ((mwl Z a S16) ++ kwl Z u9 S1) H := by rw [eS16]; exact hP
    have hD : va_D A ((mwl Z a S16) ++ kwl Z u9 S1) := by rw [eS16]; exact hD
    refine lv_iload hx hb dX2_when_100 (lv_at hl 0 rfl) ?_
    have hP := hP.sub (ws' := (mwl Z a S16)) [0, 1, 2, 3, 4] rfl
    have hD := hD.sub (ws' := (mwl Z a S16)) [0, 1, 2, 3, 4] (by decide) rfl
    exact zw_i hx hb hr hlk hP hD hS (congrArg (fun z => ((mwl Z a z) : va_W)) (pr2 hf)) (pr1 hf) (Nat.le_of_ble_eq_true rfl) (Nat.le_of_ble_eq_true rfl) dX2_when_102
  have L76 : ∀ (u9 : Nat → Nat) (S1 : RS), ∀ (x1 : Int32) (x3 : Int32) (x4 : Int32) (S : RS) (H : Heap) (locs : List Loc), va_P D vwCl ((mwl Z a S) ++ kwl Z u9 S1) H → va_D A ((mwl Z a S) ++ kwl Z u9 S1) → va_S A s.heap H locs → ∀ ls : Array Slot, lv_has ls 6 [(0, .ref (a 0)), (1, .int x1), (2, .ref (u9 0)), (3, .int x3), (4, .int x4)] → f_X2_when_L76 S1 x1 x3 x4 S = some (r, S') → W p l e rm_X2_when s m ([.ref (a 0), .int p1] : List Value).toArray below meth c H locs 5 272 (MQ below (zMi D A (mwl Z a S') r) ([.ref (a 0), .int p1] : List Value).toArray s 6 276 A) (F0 m 76 ls []) := by
    intro u9 S1 x1 x3 x4 S H locs hP hD hS ls hl hf
    unfold f_X2_when_L76 at hf
    refine lv_aload_n hx hb dX2_when_76 rfl (lv_at hl 0 rfl) ?_
    refine lv_iload_n hx hb dX2_when_77 rfl (lv_at hl 1 rfl) ?_
    refine lv_bipush (v := 6) hx hb dX2_when_78 (by decide) ?_
    obtain ⟨v14, hv13, hf⟩ := ob_some hf
    refine zc_i (z_VD (As := [.int x1, .int 6]) (rest := []) (q0 := 0) (ci := 2) ⟨hx, hb, hml, hown, hts⟩ (m_X2_po l D Z a S x1 6 v14 hv13) gX2_when_X2_po rfl rfl rfl hdv_X2_po ⟨Nat.le_of_ble_eq_true rfl, Nat.le_of_ble_eq_true rfl⟩ hK (hP.sub (ws' := (mwl Z a S)) [0, 1, 2, 3, 4] rfl) (hD.sub (ws' := (mwl Z a S)) [0, 1, 2, 3, 4] (by decide) rfl) rfl rfl rfl rfl hl.1 rfl (Nat.le_of_ble_eq_true rfl) dX2_when_80 ⟨Nat.le_of_ble_eq_true rfl, Nat.le_of_ble_eq_true rfl⟩) hP hS hA (fun H locs hP hS => ?_)
    refine lv_iload_n hx hb dX2_when_83 rfl (lv_at hl 3 rfl) ?_
    refine lv_icmp_ne (tgt := 91) hx hb dX2_when_84 (by decide) (fun c15 => ?_) (fun c15 => ?_)
    · have hf := if_f hf c15
      refine lv_iload hx hb dX2_when_91 (lv_at hl 4 rfl) ?_
      exact L93 u9 S1 x4 S _ _ hP hD hS ls (lv_sub hl [0, 2] rfl) hf
    · have hf := if_t hf c15
      refine lv_iconst (v := (-1)) hx hb dX2_when_87 (by decide) ?_
      refine lv_goto (tgt := 93) hx hb dX2_when_88 (by decide) ?_
      exact L93 u9 S1 (-1) S _ _ hP hD hS ls (lv_sub hl [0, 2] rfl) hf
  have L47 : ∀ (u9 : Nat → Nat) (S1 : RS), ∀ (n : Nat) (x1 : Int32) (x3 : Int32) (x4 : Int32) (S : RS) (H : Heap) (locs : List Loc), va_P D vwCl ((mwl Z a S) ++ kwl Z u9 S1) H → va_D A ((mwl Z a S) ++ kwl Z u9 S1) → va_S A s.heap H locs → ∀ ls : Array Slot, lv_has ls 6 [(0, .ref (a 0)), (1, .int x1), (2, .ref (u9 0)), (3, .int x3), (4, .int x4)] → f_X2_when_L47 S1 n x1 x3 x4 S = some (r, S') → W p l e rm_X2_when s m ([.ref (a 0), .int p1] : List Value).toArray below meth c H locs 5 272 (MQ below (zMi D A (mwl Z a S') r) ([.ref (a 0), .int p1] : List Value).toArray s 6 276 A) (F0 m 47 ls []) := by
    intro u9 S1 n
    induction n with
    | zero =>
      intro x1 x3 x4 S H locs hP hD hS ls hl hf
      exact no_r hf
    | succ n ih =>
      intro x1 x3 x4 S H locs hP hD hS ls hl hf
      rw [f_X2_when_L47] at hf
      refine lv_iload hx hb dX2_when_47 (lv_at hl 4 rfl) ?_
      refine lv_sipush (v := 200) hx hb dX2_when_49 (by decide) ?_
      refine lv_icmp_ge (tgt := 76) hx hb dX2_when_52 (by decide) (fun c12 => ?_) (fun c12 => ?_)
      · have hf := if_t hf c12
        exact L76 u9 S1 x1 x3 x4 S _ _ hP hD hS ls (lv_sub hl [0, 1, 2, 3, 4] rfl) hf
      · have hf := if_f hf c12
        refine lv_aload_n hx hb dX2_when_55 rfl (lv_at hl 0 rfl) ?_
        refine lv_iload_n hx hb dX2_when_56 rfl (lv_at hl 1 rfl) ?_
        refine lv_bipush (v := 6) hx hb dX2_when_57 (by decide) ?_
        obtain ⟨v18, hv17, hf⟩ := ob_some hf
        refine zc_i (z_VD (As := [.int x1, .int 6]) (rest := []) (q0 := 0) (ci := 2) ⟨hx, hb, hml, hown, hts⟩ (m_X2_po l D Z a S x1 6 v18 hv17) gX2_when_X2_po rfl rfl rfl hdv_X2_po ⟨Nat.le_of_ble_eq_true rfl, Nat.le_of_ble_eq_true rfl⟩ hK (hP.sub (ws' := (mwl Z a S)) [0, 1, 2, 3, 4] rfl) (hD.sub (ws' := (mwl Z a S)) [0, 1, 2, 3, 4] (by decide) rfl) rfl rfl rfl rfl hl.1 rfl (Nat.le_of_ble_eq_true rfl) dX2_when_59 ⟨Nat.le_of_ble_eq_true rfl, Nat.le_of_ble_eq_true rfl⟩) hP hS hA (fun H locs hP hS => ?_)
        refine lv_iload_n hx hb dX2_when_62 rfl (lv_at hl 3 rfl) ?_
        refine lv_icmp_ne (tgt := 76) hx hb dX2_when_63 (by decide) (fun c19 => ?_) (fun c19 => ?_)
        · have hf := if_f hf c19
          exact L76 u9 S1 x1 x3 x4 S _ _ hP hD hS ls (lv_sub hl [0, 1, 2, 3, 4] rfl) hf
        · have hf := if_t hf c19
          refine lv_aload_n hx hb dX2_when_66 rfl (lv_at hl 0 rfl) ?_
          obtain ⟨S21, hv20, hf⟩ := ob_some hf
          refine zc_mv zI_kept (z_VD (As := []) (rest := []) (q0 := 0) (ci := 2) ⟨hx, hb, hml, hown, hts⟩ (m_X2_minuteOn l D Z a S S21 hv20) gX2_when_X2_minuteOn rfl rfl rfl hdv_X2_minuteOn ⟨Nat.le_of_ble_eq_true rfl, Nat.le_of_ble_eq_true rfl⟩ hK (hP.sub (ws' := (mwl Z a S)) [0, 1, 2, 3, 4] rfl) (hD.sub (ws' := (mwl Z a S)) [0, 1, 2, 3, 4] (by decide) rfl) rfl rfl rfl rfl hl.1 rfl (Nat.le_of_ble_eq_true rfl) dX2_when_67 ⟨Nat.le_of_ble_eq_true rfl, Nat.le_of_ble_eq_true rfl⟩) hP hD hS hA (fun H locs hP hD hS => ?_)
          refine lv_iinc (v := (x4 + 1)) (lv' := [(4, .int (x4 + 1)), (0, .ref (a 0)), (1, .int x1), (2, .ref (u9 0)), (3, .int x3)]) hx hb dX2_when_70 hl (k := 4) rfl rfl (by decide) rfl (fun ls hl => ?_)
          refine lv_goto (tgt := 47) hx hb dX2_when_73 (by decide) ?_
          exact ih x1 x3 (x4 + 1) S21 _ _ hP hD hS ls (lv_sub hl [1, 2, 3, 4, 0] rfl) hf
  unfold f_X2_when at hf
  refine lv_aload_n hx hb dX2_when_0 rfl (lv_at hl 0 rfl) ?_
  refine lv_iconst (v := 0) hx hb dX2_when_1 (by decide) ?_
  refine va_put (D := D) (ci := 2) (v := .int 0) (ty := .int) (C := RX2) (T := TX2) (N := 7) hx hb hts hin tyX2 tyX2_ok nmX2 hown hK hP hD hS 0 rfl rfl 0 (by decide) (hts (.fieldLink RX2 22 "PodGuidewayModel" "thrown" "I") (List.mem_of_getElem? (i := 1) rfl)) (fun _ h9 => h9) rfl (by decide +kernel) rfl rfl (Nat.le_of_ble_eq_true rfl) dX2_when_2 (fun H locs hP hD hS => ?_)
  obtain ⟨S1, eS1, hf⟩ := lt_ex hf
  have hP : va_P D vwCl (mwl Z a S1) H := by rw [eS1]; exact hP
  have hD : va_D A (mwl Z a S1) := by rw [eS1]; exact hD
  refine lv_aload_n hx hb dX2_when_5 rfl (lv_at hl 0 rfl) ?_
  refine lv_iload_n hx hb dX2_when_6 rfl (lv_at hl 1 rfl) ?_
  obtain ⟨v3, hv2, hf⟩ := ob_some hf
  refine zc_z (z_VD (As := [.int p1]) (rest := []) (q0 := 0) (ci := 2) ⟨hx, hb, hml, hown, hts⟩ (m_X2_isPod l D Z a S1 p1 v3 hv2) gX2_when_X2_isPod rfl rfl rfl hdv_X2_isPod ⟨Nat.le_of_ble_eq_true rfl, Nat.le_of_ble_eq_true rfl⟩ hK hP hD rfl rfl rfl rfl hl.1 rfl (Nat.le_of_ble_eq_true rfl) dX2_when_7 ⟨Nat.le_of_ble_eq_true rfl, Nat.le_of_ble_eq_true rfl⟩) hP hS hA (fun H locs hn4 hP hS => ?_)
  refine lv_if_ne (tgt := 19) hx hb dX2_when_10 (by decide) (fun c5 => ?_) (fun c5 => ?_)
  · have hf := if_f hf c5
    refine lv_aload_n hx hb dX2_when_19 rfl (lv_at hl 0 rfl) ?_
    refine lv_iload_n hx hb dX2_when_20 rfl (lv_at hl 1 rfl) ?_
    refine lv_iconst (v := 3) hx hb dX2_when_21 (by decide) ?_
    obtain ⟨v7, hv6, hf⟩ := ob_some hf
    refine zc_i (z_VD (As := [.int p1, .int 3]) (rest := []) (q0 := 0) (ci := 2) ⟨hx, hb, hml, hown, hts⟩ (m_X2_po l D Z a S1 p1 3 v7 hv6) gX2_when_X2_po rfl rfl rfl hdv_X2_po ⟨Nat.le_of_ble_eq_true rfl, Nat.le_of_ble_eq_true rfl⟩ hK hP hD rfl rfl rfl rfl hl.1 rfl (Nat.le_of_ble_eq_true rfl) dX2_when_22 ⟨Nat.le_of_ble_eq_true rfl, Nat.le_of_ble_eq_true rfl⟩) hP hS hA (fun H locs hP hS => ?_)
    refine lv_iconst (v := (-1)) hx hb dX2_when_25 (by decide) ?_
    refine lv_icmp_ne (tgt := 31) hx hb dX2_when_26 (by decide) (fun c8 => ?_) (fun c8 => ?_)
    · have hf := if_f hf c8
      refine lv_aload_n hx hb dX2_when_31 rfl (lv_at hl 0 rfl) ?_
      have hS0 := hS
      refine va_callr (z_VG (As := []) (rest := []) (q0 := 0) (ci := 2) mE_ok hE hS hA ⟨hx, hb, hml, hown, hts⟩ (m_X2_kept l D Z a S1) gX2_when_X2_kept rfl rfl rfl hdv_X2_kept ⟨Nat.le_of_ble_eq_true rfl, Nat.le_of_ble_eq_true rfl⟩ hK hP hD rfl rfl rfl rfl hl.1 rfl (Nat.le_of_ble_eq_true rfl) dX2_when_32 ⟨Nat.le_of_ble_eq_true rfl, Nat.le_of_ble_eq_true rfl⟩) hS (fun q _ h => z_hF hD hS hA q h) (z_hF hD hS hA) (fun u9 ra t H locs ht _ _ hB _ hk hS => ?_)
      obtain ⟨rfl, hP1, hD1⟩ := hB
      rw [ht] at hP1
      have hD := z_wk hD hS0 hA hD1
      have hP := hP1
      refine lv_astore_n (lv' := [(2, .ref (u9 0)), (0, .ref (a 0)), (1, .int p1)]) hx hb dX2_when_35 rfl hl (by decide) rfl (fun ls hl => ?_)
      refine lv_aload_n hx hb dX2_when_36 rfl (lv_at hl 1 rfl) ?_
      refine lv_iload_n hx hb dX2_when_37 rfl (lv_at hl 2 rfl) ?_
      refine lv_bipush (v := 6) hx hb dX2_when_38 (by decide) ?_
      obtain ⟨v11, hv10, hf⟩ := ob_some hf
      refine zc_i (z_VD (As := [.int p1, .int 6]) (rest := []) (q0 := 0) (ci := 2) ⟨hx, hb, hml, hown, hts⟩ (m_X2_po l D Z a S1 p1 6 v11 hv10) gX2_when_X2_po rfl rfl rfl hdv_X2_po ⟨Nat.le_of_ble_eq_true rfl, Nat.le_of_ble_eq_true rfl⟩ hK (hP.sub (ws' := (mwl Z a S1)) [0, 1, 2, 3, 4] rfl) (hD.sub (ws' := (mwl Z a S1)) [0, 1, 2, 3, 4] (by decide) rfl) rfl rfl rfl rfl hl.1 rfl (Nat.le_of_ble_eq_true rfl) dX2_when_40 ⟨Nat.le_of_ble_eq_true rfl, Nat.le_of_ble_eq_true rfl⟩) hP hS hA (fun H locs hP hS => ?_)
      refine lv_istore_n (lv' := [(3, .int v11), (2, .ref (u9 0)), (0, .ref (a 0)), (1, .int p1)]) hx hb dX2_when_43 rfl hl (by decide) rfl (fun ls hl => ?_)
      refine lv_iconst (v := 0) hx hb dX2_when_44 (by decide) ?_
      refine lv_istore (lv' := [(4, .int 0), (3, .int v11), (2, .ref (u9 0)), (0, .ref (a 0)), (1, .int p1)]) hx hb dX2_when_45 hl (by decide) rfl (fun ls hl => ?_)
      exact L47 u9 S1 FU p1 v11 0 S1 _ _ hP hD hS ls (lv_sub hl [3, 4, 2, 1, 0] rfl) hf
    · have hf := if_t hf c8
      refine lv_iconst (v := (-1)) hx hb dX2_when_29 (by decide) ?_
      exact zw_i hx hb hr hlk hP hD hS (congrArg (fun z => ((mwl Z a z) : va_W)) (pr2 hf)) (pr1 hf) (Nat.le_of_ble_eq_true rfl) (Nat.le_of_ble_eq_true rfl) dX2_when_30
  · have hf := if_t hf c5
    refine lv_aload_n hx hb dX2_when_13 rfl (lv_at hl 0 rfl) ?_
    refine lv_iconst (v := 1) hx hb dX2_when_14 (by decide) ?_
    obtain ⟨v24, S23, hv22, hf⟩ := ob2_some hf
    refine zc_mi0 (z_VD (As := [.int 1]) (rest := []) (q0 := 0) (ci := 2) ⟨hx, hb, hml, hown, hts⟩ (m_X2_fail l D Z a S1 1 S23 v24 hv22) gX2_when_X2_fail rfl rfl rfl hdv_X2_fail ⟨Nat.le_of_ble_eq_true rfl, Nat.le_of_ble_eq_true rfl⟩ hK hP hD rfl rfl rfl rfl hl.1 rfl (Nat.le_of_ble_eq_true rfl) dX2_when_15 ⟨Nat.le_of_ble_eq_true rfl, Nat.le_of_ble_eq_true rfl⟩) hD hS hA (fun H locs hP hD hS => ?_)
    exact zw_i hx hb hr hlk hP hD hS (congrArg (fun z => ((mwl Z a z) : va_W)) (pr2 hf)) (pr1 hf) (Nat.le_of_ble_eq_true rfl) (Nat.le_of_ble_eq_true rfl) dX2_when_18
def f_X2_takes_L127   (S1 : RS) (y0 : Int32) (S : RS) : Option (Int32 × RS) :=
  lt ((S.1, S1.2) : RS) fun (S23 : RS) =>
  some (y0, S23)
def f_X2_takes_L101   (S1 : RS) (S : RS) : Option (Int32 × RS) :=
  if (S.2 3 (3 : Int32).toNatClampNeg) = (-1) then
    f_X2_takes_L127 S1 (-1) S
  else
    f_X2_takes_L127 S1 ((S.2 3 (3 : Int32).toNatClampNeg) - ((S1.2 3) (0 : Int32).toNatClampNeg)) S
def f_X2_takes_L73   (S1 : RS) : Nat → Int32 → RS → Option (Int32 × RS)
  | 0, _, _ => none
  | n + 1, x4, S =>
    if 200 ≤ x4 then
      f_X2_takes_L101 S1 S
    else
      if (S.2 3 (3 : Int32).toNatClampNeg) = (-1) then
        ob (f_X2_minuteOn S) fun S26 =>
        f_X2_takes_L73 S1 n (x4 + 1) S26
      else
        f_X2_takes_L101 S1 S
def f_X2_takes  (S : RS) (p1 : Int32) (p2 : Int32) : Option (Int32 × RS) :=
  lt (sI S 0 0) fun (S1 : RS) =>
  ob (f_X2_isStation S1 p1) fun v3 =>
  if v3 = 0 then
    ob2 (f_X2_fail S1 1) fun v8 S7 =>
    some (v8, S7)
  else
    ob (f_X2_isStation S1 p2) fun v10 =>
    if v10 = 0 then
      ob2 (f_X2_fail S1 1) fun v32 S31 =>
      some (v32, S31)
    else
      if p1 = p2 then
        ob2 (f_X2_fail S1 2) fun v29 S28 =>
        some (v29, S28)
      else
        ob (f_X2_st S1 p1 1) fun v15 =>
        if v15 = 9 then
          some ((-1), S1)
        else
          lt (sR S1 3 (upd (S1.2 3) (3 : Int32).toNatClampNeg (-1))) fun (S18 : RS) =>
          ob (f_X2_line S18 p1 p2 1) fun S20 =>
          f_X2_takes_L73 S1 FU 0 S20
abbrev rm_X2_takes : Room := { frames := 6, cells := 7, slots := 279, locals := 134 }
theorem hdv_X2_takes : yX2_takes.cls = RX2 ∧ yX2_takes.cls ≠ "java/lang/invoke/MethodHandle" ∧ yX2_takes.cls ≠ "java/lang/invoke/VarHandle" ∧ (parseMethodDescriptor yX2_takes.desc).map (fun d => d.parameters.length) = some 2 := by decide +kernel
set_option maxHeartbeats 4000000 in
set_option maxRecDepth 100000 in
theorem m_X2_takes (l : Launch) (D : va_G) (Z : Nat → ClassId) (a : Nat → Nat) (S : RS) (p1 : Int32) (p2 : Int32) (S' : RS) (r : Int32) (hf : f_X2_takes S p1 p2 = some (r, S')) : GWi l yX2_takes wsX2_takes rm_X2_takes D Z mE [.ref (a 0), .int p1, .int p2] (mwl Z a S) (mwl Z a S') r 7 279 := by
  refine GWi.of (cc := cX2_takes) (nL := 5) (ret := (some .int)) (by decide +kernel) rfl (Nat.le_of_ble_eq_true rfl) ?_
  intro p e s m below meth c A hC hE hA hP hK hD hS ls hl
  obtain ⟨hx, hb, hr, hml, hown, hts, hlk, -⟩ := hC
  have hown : s.vm.findClass RX2 = some m.cls := hown
  have hin : ∀ w ∈ wsX20, w ∈ wsX2_takes := fun w h => List.mem_cons_of_mem _ (List.mem_append_right _ h)
  have hl : lv_has ls 5 [(0, .ref (a 0)), (1, .int p1), (2, .int p2)] := hl
  have L127 : ∀ (u17 : Nat → Nat) (S1 : RS), ∀ (y0 : Int32) (S : RS) (H : Heap) (locs : List Loc), va_P D vwCl ((mwl Z a S) ++ kwl Z u17 S1) H → va_D A ((mwl Z a S) ++ kwl Z u17 S1) → va_S A s.heap H locs → ∀ ls : Array Slot, lv_has ls 5 [(0, .ref (a 0)), (3, .ref (u17 0))] → f_X2_takes_L127 S1 y0 S = some (r, S') → W p l e rm_X2_takes s m ([.ref (a 0), .int p1, .int p2] : List Value).toArray below meth c H locs 6 275 (MQ below (zMi D A (mwl Z a S') r) ([.ref (a 0), .int p1, .int p2] : List Value).toArray s 7 279 A) (F0 m 127 ls [.int y0]) := by
    intro u17 S1 y0 S H locs hP hD hS ls hl hf
    unfold f_X2_takes_L127 at hf
    refine lv_istore (lv' := [(4, .int y0), (0, .ref (a 0)), (3, .ref (u17 0))]) hx hb dX2_takes_127 hl (by decide) rfl (fun ls hl => ?_)
    refine lv_aload_n hx hb dX2_takes_129 rfl (lv_at hl 1 rfl) ?_
    refine lv_aload_n hx hb dX2_takes_130 rfl (lv_at hl 2 rfl) ?_
    obtain ⟨S23, eS23, hf⟩ := lt_ex hf
    refine zc_mv0 (z_VG (As := [.ref (u17 0)]) (rest := []) (q0 := 0) (ci := 2) mE_ok hE hS hA ⟨hx, hb, hml, hown, hts⟩ (m_X2_bringBack l D Z a u17 S S1) gX2_takes_X2_bringBack rfl rfl rfl hdv_X2_bringBack ⟨Nat.le_of_ble_eq_true rfl, Nat.le_of_ble_eq_true rfl⟩ hK hP hD rfl rfl rfl rfl hl.1 rfl (Nat.le_of_ble_eq_true rfl) dX2_takes_131 ⟨Nat.le_of_ble_eq_true rfl, Nat.le_of_ble_eq_true rfl⟩) hD hS hA (fun H locs hP hD hS => ?_)
    have hP : va_P D vwCl ((mwl Z a S23) ++ kwl Z u17 S1) H := by rw [eS23]; exact hP
    have hD : va_D A ((mwl Z a S23) ++ kwl Z u17 S1) := by rw [eS23]; exact hD
    refine lv_iload hx hb dX2_takes_134 (lv_at hl 0 rfl) ?_
    have hP := hP.sub (ws' := (mwl Z a S23)) [0, 1, 2, 3, 4] rfl
    have hD := hD.sub (ws' := (mwl Z a S23)) [0, 1, 2, 3, 4] (by decide) rfl
    exact zw_i hx hb hr hlk hP hD hS (congrArg (fun z => ((mwl Z a z) : va_W)) (pr2 hf)) (pr1 hf) (Nat.le_of_ble_eq_true rfl) (Nat.le_of_ble_eq_true rfl) dX2_takes_136
  have L101 : ∀ (u17 : Nat → Nat) (S1 : RS), ∀ (S : RS) (H : Heap) (locs : List Loc), va_P D vwCl ((mwl Z a S) ++ kwl Z u17 S1) H → va_D A ((mwl Z a S) ++ kwl Z u17 S1) → va_S A s.heap H locs → ∀ ls : Array Slot, lv_has ls 5 [(0, .ref (a 0)), (3, .ref (u17 0))] → f_X2_takes_L101 S1 S = some (r, S') → W p l e rm_X2_takes s m ([.ref (a 0), .int p1, .int p2] : List Value).toArray below meth c H locs 6 275 (MQ below (zMi D A (mwl Z a S') r) ([.ref (a 0), .int p1, .int p2] : List Value).toArray s 7 279 A) (F0 m 101 ls []) := by
    intro u17 S1 S H locs hP hD hS ls hl hf
    unfold f_X2_takes_L101 at hf
    refine lv_aload_n hx hb dX2_takes_101 rfl (lv_at hl 0 rfl) ?_
    refine va_get (D := D) (ci := 2) (v := .ref (a 4)) (C := RX2) (T := TX2) (N := 7) hx hb hts hin hown hK hP 0 rfl rfl 6 (by decide) (hts (.fieldLink RX2 19 "PodGuidewayModel" "numbers" "[I") (List.mem_of_getElem? (i := 2) rfl)) (fun _ h9 => h9) rfl dX2_takes_102 ?_
    refine lv_iconst (v := 3) hx hb dX2_takes_105 (by decide) ?_
    refine va_iald hx hb hK hP 4 0 rfl rfl (vp_in_lit (by decide)) dX2_takes_106 ?_
    refine lv_iconst (v := (-1)) hx hb dX2_takes_107 (by decide) ?_
    refine lv_icmp_ne (tgt := 115) hx hb dX2_takes_108 (by decide) (fun c22 => ?_) (fun c22 => ?_)
    · have hf := if_f hf c22
      refine lv_aload_n hx hb dX2_takes_115 rfl (lv_at hl 0 rfl) ?_
      refine va_get (D := D) (ci := 2) (v := .ref (a 4)) (C := RX2) (T := TX2) (N := 7) hx hb hts hin hown hK hP 0 rfl rfl 6 (by decide) (hts (.fieldLink RX2 19 "PodGuidewayModel" "numbers" "[I") (List.mem_of_getElem? (i := 2) rfl)) (fun _ h9 => h9) rfl dX2_takes_116 ?_
      refine lv_iconst (v := 3) hx hb dX2_takes_119 (by decide) ?_
      refine va_iald hx hb hK hP 4 0 rfl rfl (vp_in_lit (by decide)) dX2_takes_120 ?_
      refine lv_aload_n hx hb dX2_takes_121 rfl (lv_at hl 1 rfl) ?_
      refine lv_iconst (v := 3) hx hb dX2_takes_122 (by decide) ?_
      refine z_aldA (q0 := 5) (v := .ref (u17 4)) hx hb hK hP rfl (vp_in_lit (by decide)) rfl dX2_takes_123 ?_
      refine lv_iconst (v := 0) hx hb dX2_takes_124 (by decide) ?_
      refine va_iald hx hb hK hP 9 0 rfl rfl (vp_in_lit (by decide)) dX2_takes_125 ?_
      refine lv_isub hx hb dX2_takes_126 ?_
      exact L127 u17 S1 ((S.2 3 (3 : Int32).toNatClampNeg) - ((S1.2 3) (0 : Int32).toNatClampNeg)) S _ _ hP hD hS ls (lv_sub hl [0, 1] rfl) hf
    · have hf := if_t hf c22
      refine lv_iconst (v := (-1)) hx hb dX2_takes_111 (by decide) ?_
      refine lv_goto (tgt := 127) hx hb dX2_takes_112 (by decide) ?_
      exact L127 u17 S1 (-1) S _ _ hP hD hS ls (lv_sub hl [0, 1] rfl) hf
  have L73 : ∀ (u17 : Nat → Nat) (S1 : RS), ∀ (n : Nat) (x4 : Int32) (S : RS) (H : Heap) (locs : List Loc), va_P D vwCl ((mwl Z a S) ++ kwl Z u17 S1) H → va_D A ((mwl Z a S) ++ kwl Z u17 S1) → va_S A s.heap H locs → ∀ ls : Array Slot, lv_has ls 5 [(0, .ref (a 0)), (3, .ref (u17 0)), (4, .int x4)] → f_X2_takes_L73 S1 n x4 S = some (r, S') → W p l e rm_X2_takes s m ([.ref (a 0), .int p1, .int p2] : List Value).toArray below meth c H locs 6 275 (MQ below (zMi D A (mwl Z a S') r) ([.ref (a 0), .int p1, .int p2] : List Value).toArray s 7 279 A) (F0 m 73 ls []) := by
    intro u17 S1 n
    induction n with
    | zero =>
      intro x4 S H locs hP hD hS ls hl hf
      exact no_r hf
    | succ n ih =>
      intro x4 S H locs hP hD hS ls hl hf
      rw [f_X2_takes_L73] at hf
      refine lv_iload hx hb dX2_takes_73 (lv_at hl 2 rfl) ?_
      refine lv_sipush (v := 200) hx hb dX2_takes_75 (by decide) ?_
      refine lv_icmp_ge (tgt := 101) hx hb dX2_takes_78 (by decide) (fun c21 => ?_) (fun c21 => ?_)
      · have hf := if_t hf c21
        exact L101 u17 S1 S _ _ hP hD hS ls (lv_sub hl [0, 1] rfl) hf
      · have hf := if_f hf c21
        refine lv_aload_n hx hb dX2_takes_81 rfl (lv_at hl 0 rfl) ?_
        refine va_get (D := D) (ci := 2) (v := .ref (a 4)) (C := RX2) (T := TX2) (N := 7) hx hb hts hin hown hK hP 0 rfl rfl 6 (by decide) (hts (.fieldLink RX2 19 "PodGuidewayModel" "numbers" "[I") (List.mem_of_getElem? (i := 2) rfl)) (fun _ h9 => h9) rfl dX2_takes_82 ?_
        refine lv_iconst (v := 3) hx hb dX2_takes_85 (by decide) ?_
        refine va_iald hx hb hK hP 4 0 rfl rfl (vp_in_lit (by decide)) dX2_takes_86 ?_
        refine lv_iconst (v := (-1)) hx hb dX2_takes_87 (by decide) ?_
        refine lv_icmp_ne (tgt := 101) hx hb dX2_takes_88 (by decide) (fun c24 => ?_) (fun c24 => ?_)
        · have hf := if_f hf c24
          exact L101 u17 S1 S _ _ hP hD hS ls (lv_sub hl [0, 1] rfl) hf
        · have hf := if_t hf c24
          refine lv_aload_n hx hb dX2_takes_91 rfl (lv_at hl 0 rfl) ?_
          obtain ⟨S26, hv25, hf⟩ := ob_some hf
          refine zc_mv zI_kept (z_VD (As := []) (rest := []) (q0 := 0) (ci := 2) ⟨hx, hb, hml, hown, hts⟩ (m_X2_minuteOn l D Z a S S26 hv25) gX2_takes_X2_minuteOn rfl rfl rfl hdv_X2_minuteOn ⟨Nat.le_of_ble_eq_true rfl, Nat.le_of_ble_eq_true rfl⟩ hK (hP.sub (ws' := (mwl Z a S)) [0, 1, 2, 3, 4] rfl) (hD.sub (ws' := (mwl Z a S)) [0, 1, 2, 3, 4] (by decide) rfl) rfl rfl rfl rfl hl.1 rfl (Nat.le_of_ble_eq_true rfl) dX2_takes_92 ⟨Nat.le_of_ble_eq_true rfl, Nat.le_of_ble_eq_true rfl⟩) hP hD hS hA (fun H locs hP hD hS => ?_)
          refine lv_iinc (v := (x4 + 1)) (lv' := [(4, .int (x4 + 1)), (0, .ref (a 0)), (3, .ref (u17 0))]) hx hb dX2_takes_95 hl (k := 2) rfl rfl (by decide) rfl (fun ls hl => ?_)
          refine lv_goto (tgt := 73) hx hb dX2_takes_98 (by decide) ?_
          exact ih (x4 + 1) S26 _ _ hP hD hS ls (lv_sub hl [1, 2, 0] rfl) hf
  unfold f_X2_takes at hf
  refine lv_aload_n hx hb dX2_takes_0 rfl (lv_at hl 0 rfl) ?_
  refine lv_iconst (v := 0) hx hb dX2_takes_1 (by decide) ?_
  refine va_put (D := D) (ci := 2) (v := .int 0) (ty := .int) (C := RX2) (T := TX2) (N := 7) hx hb hts hin tyX2 tyX2_ok nmX2 hown hK hP hD hS 0 rfl rfl 0 (by decide) (hts (.fieldLink RX2 22 "PodGuidewayModel" "thrown" "I") (List.mem_of_getElem? (i := 1) rfl)) (fun _ h9 => h9) rfl (by decide +kernel) rfl rfl (Nat.le_of_ble_eq_true rfl) dX2_takes_2 (fun H locs hP hD hS => ?_)
  obtain ⟨S1, eS1, hf⟩ := lt_ex hf
  have hP : va_P D vwCl (mwl Z a S1) H := by rw [eS1]; exact hP
  have hD : va_D A (mwl Z a S1) := by rw [eS1]; exact hD
  refine lv_aload_n hx hb dX2_takes_5 rfl (lv_at hl 0 rfl) ?_
  refine lv_iload_n hx hb dX2_takes_6 rfl (lv_at hl 1 rfl) ?_
  obtain ⟨v3, hv2, hf⟩ := ob_some hf
  refine zc_z (z_VD (As := [.int p1]) (rest := []) (q0 := 0) (ci := 2) ⟨hx, hb, hml, hown, hts⟩ (m_X2_isStation l D Z a S1 p1 v3 hv2) gX2_takes_X2_isStation rfl rfl rfl hdv_X2_isStation ⟨Nat.le_of_ble_eq_true rfl, Nat.le_of_ble_eq_true rfl⟩ hK hP hD rfl rfl rfl rfl hl.1 rfl (Nat.le_of_ble_eq_true rfl) dX2_takes_7 ⟨Nat.le_of_ble_eq_true rfl, Nat.le_of_ble_eq_true rfl⟩) hP hS hA (fun H locs hn4 hP hS => ?_)
  refine lv_if_eq (tgt := 21) hx hb dX2_takes_10 (by decide) (fun c5 => ?_) (fun c5 => ?_)
  · have hf := if_t hf c5
    refine lv_aload_n hx hb dX2_takes_21 rfl (lv_at hl 0 rfl) ?_
    refine lv_iconst (v := 1) hx hb dX2_takes_22 (by decide) ?_
    obtain ⟨v8, S7, hv6, hf⟩ := ob2_some hf
    refine zc_mi0 (z_VD (As := [.int 1]) (rest := []) (q0 := 0) (ci := 2) ⟨hx, hb, hml, hown, hts⟩ (m_X2_fail l D Z a S1 1 S7 v8 hv6) gX2_takes_X2_fail rfl rfl rfl hdv_X2_fail ⟨Nat.le_of_ble_eq_true rfl, Nat.le_of_ble_eq_true rfl⟩ hK hP hD rfl rfl rfl rfl hl.1 rfl (Nat.le_of_ble_eq_true rfl) dX2_takes_23 ⟨Nat.le_of_ble_eq_true rfl, Nat.le_of_ble_eq_true rfl⟩) hD hS hA (fun H locs hP hD hS => ?_)
    exact zw_i hx hb hr hlk hP hD hS (congrArg (fun z => ((mwl Z a z) : va_W)) (pr2 hf)) (pr1 hf) (Nat.le_of_ble_eq_true rfl) (Nat.le_of_ble_eq_true rfl) dX2_takes_26
  · have hf := if_f hf c5
    refine lv_aload_n hx hb dX2_takes_13 rfl (lv_at hl 0 rfl) ?_
    refine lv_iload_n hx hb dX2_takes_14 rfl (lv_at hl 2 rfl) ?_
    obtain ⟨v10, hv9, hf⟩ := ob_some hf
    refine zc_z (z_VD (As := [.int p2]) (rest := []) (q0 := 0) (ci := 2) ⟨hx, hb, hml, hown, hts⟩ (m_X2_isStation l D Z a S1 p2 v10 hv9) gX2_takes_X2_isStation rfl rfl rfl hdv_X2_isStation ⟨Nat.le_of_ble_eq_true rfl, Nat.le_of_ble_eq_true rfl⟩ hK hP hD rfl rfl rfl rfl hl.1 rfl (Nat.le_of_ble_eq_true rfl) dX2_takes_15 ⟨Nat.le_of_ble_eq_true rfl, Nat.le_of_ble_eq_true rfl⟩) hP hS hA (fun H locs hn11 hP hS => ?_)
    refine lv_if_ne (tgt := 27) hx hb dX2_takes_18 (by decide) (fun c12 => ?_) (fun c12 => ?_)
    · have hf := if_f hf c12
      refine lv_iload_n hx hb dX2_takes_27 rfl (lv_at hl 1 rfl) ?_
      refine lv_iload_n hx hb dX2_takes_28 rfl (lv_at hl 2 rfl) ?_
      refine lv_icmp_ne (tgt := 38) hx hb dX2_takes_29 (by decide) (fun c13 => ?_) (fun c13 => ?_)
      · have hf := if_f hf c13
        refine lv_aload_n hx hb dX2_takes_38 rfl (lv_at hl 0 rfl) ?_
        refine lv_iload_n hx hb dX2_takes_39 rfl (lv_at hl 1 rfl) ?_
        refine lv_iconst (v := 1) hx hb dX2_takes_40 (by decide) ?_
        obtain ⟨v15, hv14, hf⟩ := ob_some hf
        refine zc_i (z_VD (As := [.int p1, .int 1]) (rest := []) (q0 := 0) (ci := 2) ⟨hx, hb, hml, hown, hts⟩ (m_X2_st l D Z a S1 p1 1 v15 hv14) gX2_takes_X2_st rfl rfl rfl hdv_X2_st ⟨Nat.le_of_ble_eq_true rfl, Nat.le_of_ble_eq_true rfl⟩ hK hP hD rfl rfl rfl rfl hl.1 rfl (Nat.le_of_ble_eq_true rfl) dX2_takes_41 ⟨Nat.le_of_ble_eq_true rfl, Nat.le_of_ble_eq_true rfl⟩) hP hS hA (fun H locs hP hS => ?_)
        refine lv_bipush (v := 9) hx hb dX2_takes_44 (by decide) ?_
        refine lv_icmp_ne (tgt := 51) hx hb dX2_takes_46 (by decide) (fun c16 => ?_) (fun c16 => ?_)
        · have hf := if_f hf c16
          refine lv_aload_n hx hb dX2_takes_51 rfl (lv_at hl 0 rfl) ?_
          have hS0 := hS
          refine va_callr (z_VG (As := []) (rest := []) (q0 := 0) (ci := 2) mE_ok hE hS hA ⟨hx, hb, hml, hown, hts⟩ (m_X2_kept l D Z a S1) gX2_takes_X2_kept rfl rfl rfl hdv_X2_kept ⟨Nat.le_of_ble_eq_true rfl, Nat.le_of_ble_eq_true rfl⟩ hK hP hD rfl rfl rfl rfl hl.1 rfl (Nat.le_of_ble_eq_true rfl) dX2_takes_52 ⟨Nat.le_of_ble_eq_true rfl, Nat.le_of_ble_eq_true rfl⟩) hS (fun q _ h => z_hF hD hS hA q h) (z_hF hD hS hA) (fun u17 ra t H locs ht _ _ hB _ hk hS => ?_)
          obtain ⟨rfl, hP1, hD1⟩ := hB
          rw [ht] at hP1
          have hD := z_wk hD hS0 hA hD1
          have hP := hP1
          refine lv_astore_n (lv' := [(3, .ref (u17 0)), (0, .ref (a 0)), (1, .int p1), (2, .int p2)]) hx hb dX2_takes_55 rfl hl (by decide) rfl (fun ls hl => ?_)
          refine lv_aload_n hx hb dX2_takes_56 rfl (lv_at hl 1 rfl) ?_
          refine va_get (D := D) (ci := 2) (v := .ref (a 4)) (C := RX2) (T := TX2) (N := 7) hx hb hts hin hown hK hP 0 rfl rfl 6 (by decide) (hts (.fieldLink RX2 19 "PodGuidewayModel" "numbers" "[I") (List.mem_of_getElem? (i := 2) rfl)) (fun _ h9 => h9) rfl dX2_takes_57 ?_
          refine lv_iconst (v := 3) hx hb dX2_takes_60 (by decide) ?_
          refine lv_iconst (v := (-1)) hx hb dX2_takes_61 (by decide) ?_
          refine va_iast hx hb hK hP hD hS 4 0 rfl rfl (vp_in_lit (by decide)) dX2_takes_62 (fun H locs hP hD hS => ?_)
          obtain ⟨S18, eS18, hf⟩ := lt_ex hf
          have hP : va_P D vwCl ((mwl Z a S18) ++ kwl Z u17 S1) H := by rw [eS18]; exact hP
          have hD : va_D A ((mwl Z a S18) ++ kwl Z u17 S1) := by rw [eS18]; exact hD
          refine lv_aload_n hx hb dX2_takes_63 rfl (lv_at hl 1 rfl) ?_
          refine lv_iload_n hx hb dX2_takes_64 rfl (lv_at hl 2 rfl) ?_
          refine lv_iload_n hx hb dX2_takes_65 rfl (lv_at hl 3 rfl) ?_
          refine lv_iconst (v := 1) hx hb dX2_takes_66 (by decide) ?_
          obtain ⟨S20, hv19, hf⟩ := ob_some hf
          refine zc_mv zI_kept (z_VD (As := [.int p1, .int p2, .int 1]) (rest := []) (q0 := 0) (ci := 2) ⟨hx, hb, hml, hown, hts⟩ (m_X2_line l D Z a S18 p1 p2 1 S20 hv19) gX2_takes_X2_line rfl rfl rfl hdv_X2_line ⟨Nat.le_of_ble_eq_true rfl, Nat.le_of_ble_eq_true rfl⟩ hK (hP.sub (ws' := (mwl Z a S18)) [0, 1, 2, 3, 4] rfl) (hD.sub (ws' := (mwl Z a S18)) [0, 1, 2, 3, 4] (by decide) rfl) rfl rfl rfl rfl hl.1 rfl (Nat.le_of_ble_eq_true rfl) dX2_takes_67 ⟨Nat.le_of_ble_eq_true rfl, Nat.le_of_ble_eq_true rfl⟩) hP hD hS hA (fun H locs hP hD hS => ?_)
          refine lv_iconst (v := 0) hx hb dX2_takes_70 (by decide) ?_
          refine lv_istore (lv' := [(4, .int 0), (3, .ref (u17 0)), (0, .ref (a 0)), (1, .int p1), (2, .int p2)]) hx hb dX2_takes_71 hl (by decide) rfl (fun ls hl => ?_)
          exact L73 u17 S1 FU 0 S20 _ _ hP hD hS ls (lv_sub hl [2, 1, 0] rfl) hf
        · have hf := if_t hf c16
          refine lv_iconst (v := (-1)) hx hb dX2_takes_49 (by decide) ?_
          exact zw_i hx hb hr hlk hP hD hS (congrArg (fun z => ((mwl Z a z) : va_W)) (pr2 hf)) (pr1 hf) (Nat.le_of_ble_eq_true rfl) (Nat.le_of_ble_eq_true rfl) dX2_takes_50
      · have hf := if_t hf c13
        refine lv_aload_n hx hb dX2_takes_32 rfl (lv_at hl 0 rfl) ?_
        refine lv_iconst (v := 2) hx hb dX2_takes_33 (by decide) ?_
        obtain ⟨v29, S28, hv27, hf⟩ := ob2_some hf
        refine zc_mi0 (z_VD (As := [.int 2]) (rest := []) (q0 := 0) (ci := 2) ⟨hx, hb, hml, hown, hts⟩ (m_X2_fail l D Z a S1 2 S28 v29 hv27) gX2_takes_X2_fail rfl rfl rfl hdv_X2_fail ⟨Nat.le_of_ble_eq_true rfl, Nat.le_of_ble_eq_true rfl⟩ hK hP hD rfl rfl rfl rfl hl.1 rfl (Nat.le_of_ble_eq_true rfl) dX2_takes_34 ⟨Nat.le_of_ble_eq_true rfl, Nat.le_of_ble_eq_true rfl⟩) hD hS hA (fun H locs hP hD hS => ?_)
        exact zw_i hx hb hr hlk hP hD hS (congrArg (fun z => ((mwl Z a z) : va_W)) (pr2 hf)) (pr1 hf) (Nat.le_of_ble_eq_true rfl) (Nat.le_of_ble_eq_true rfl) dX2_takes_37
    · have hf := if_t hf c12
      refine lv_aload_n hx hb dX2_takes_21 rfl (lv_at hl 0 rfl) ?_
      refine lv_iconst (v := 1) hx hb dX2_takes_22 (by decide) ?_
      obtain ⟨v32, S31, hv30, hf⟩ := ob2_some hf
      refine zc_mi0 (z_VD (As := [.int 1]) (rest := []) (q0 := 0) (ci := 2) ⟨hx, hb, hml, hown, hts⟩ (m_X2_fail l D Z a S1 1 S31 v32 hv30) gX2_takes_X2_fail rfl rfl rfl hdv_X2_fail ⟨Nat.le_of_ble_eq_true rfl, Nat.le_of_ble_eq_true rfl⟩ hK hP hD rfl rfl rfl rfl hl.1 rfl (Nat.le_of_ble_eq_true rfl) dX2_takes_23 ⟨Nat.le_of_ble_eq_true rfl, Nat.le_of_ble_eq_true rfl⟩) hD hS hA (fun H locs hP hD hS => ?_)
      exact zw_i hx hb hr hlk hP hD hS (congrArg (fun z => ((mwl Z a z) : va_W)) (pr2 hf)) (pr1 hf) (Nat.le_of_ble_eq_true rfl) (Nat.le_of_ble_eq_true rfl) dX2_takes_26
def f_X2_foresee  (S : RS) (p1 : Int32) (p2 : Int32) : Option (Int32 × RS) :=
  lt (sI S 0 0) fun (S1 : RS) =>
  ob (f_X2_isIn p1 1 100) fun v3 =>
  if v3 = 0 then
    ob2 (f_X2_fail S1 1) fun v22 S21 =>
    some (v22, S21)
  else
    ob (f_X2_isIn p2 3 7) fun v7 =>
    if v7 = 0 then
      ob2 (f_X2_fail S1 2) fun v19 S18 =>
      some (v19, S18)
    else
      ob2 (f_X2_minutesOn S1 p1) fun v13 S12 =>
      ob (f_X2_counted S12 p2) fun v15 =>
      lt ((S12.1, S1.2) : RS) fun (S16 : RS) =>
      some (v15, S16)
abbrev rm_X2_foresee : Room := { frames := 7, cells := 6, slots := 276, locals := 157 }
theorem hdv_X2_foresee : yX2_foresee.cls = RX2 ∧ yX2_foresee.cls ≠ "java/lang/invoke/MethodHandle" ∧ yX2_foresee.cls ≠ "java/lang/invoke/VarHandle" ∧ (parseMethodDescriptor yX2_foresee.desc).map (fun d => d.parameters.length) = some 2 := by decide +kernel
set_option maxHeartbeats 4000000 in
set_option maxRecDepth 100000 in
theorem m_X2_foresee (l : Launch) (D : va_G) (Z : Nat → ClassId) (a : Nat → Nat) (S : RS) (p1 : Int32) (p2 : Int32) (S' : RS) (r : Int32) (hf : f_X2_foresee S p1 p2 = some (r, S')) : GWi l yX2_foresee wsX2_foresee rm_X2_foresee D Z mE [.ref (a 0), .int p1, .int p2] (mwl Z a S) (mwl Z a S') r 6 276 := by
  refine GWi.of (cc := cX2_foresee) (nL := 5) (ret := (some .int)) (by decide +kernel) rfl (Nat.le_of_ble_eq_true rfl) ?_
  intro p e s m below meth c A hC hE hA hP hK hD hS ls hl
  obtain ⟨hx, hb, hr, hml, hown, hts, hlk, -⟩ := hC
  have hown : s.vm.findClass RX2 = some m.cls := hown
  have hin : ∀ w ∈ wsX20, w ∈ wsX2_foresee := fun w h => List.mem_cons_of_mem _ (List.mem_append_right _ h)
  have hl : lv_has ls 5 [(0, .ref (a 0)), (1, .int p1), (2, .int p2)] := hl
  unfold f_X2_foresee at hf
  refine lv_aload_n hx hb dX2_foresee_0 rfl (lv_at hl 0 rfl) ?_
  refine lv_iconst (v := 0) hx hb dX2_foresee_1 (by decide) ?_
  refine va_put (D := D) (ci := 2) (v := .int 0) (ty := .int) (C := RX2) (T := TX2) (N := 7) hx hb hts hin tyX2 tyX2_ok nmX2 hown hK hP hD hS 0 rfl rfl 0 (by decide) (hts (.fieldLink RX2 22 "PodGuidewayModel" "thrown" "I") (List.mem_of_getElem? (i := 1) rfl)) (fun _ h9 => h9) rfl (by decide +kernel) rfl rfl (Nat.le_of_ble_eq_true rfl) dX2_foresee_2 (fun H locs hP hD hS => ?_)
  obtain ⟨S1, eS1, hf⟩ := lt_ex hf
  have hP : va_P D vwCl (mwl Z a S1) H := by rw [eS1]; exact hP
  have hD : va_D A (mwl Z a S1) := by rw [eS1]; exact hD
  refine lv_iload_n hx hb dX2_foresee_5 rfl (lv_at hl 1 rfl) ?_
  refine lv_iconst (v := 1) hx hb dX2_foresee_6 (by decide) ?_
  refine lv_bipush (v := 100) hx hb dX2_foresee_7 (by decide) ?_
  obtain ⟨v3, hv2, hf⟩ := ob_some hf
  refine zc_z (z_SD (As := [.int p1, .int 1, .int 100]) (rest := []) ⟨hx, hb, hml, hown, hts⟩ (m_X2_isIn l D Z p1 1 100 v3 hv2) gX2_foresee_X2_isIn rfl rfl rfl hds_X2_isIn ⟨Nat.le_of_ble_eq_true rfl, Nat.le_of_ble_eq_true rfl⟩ hK (hP.sub (ws' := []) [] rfl) (hD.sub (ws' := []) [] (by decide) rfl) rfl hl.1 rfl (Nat.le_of_ble_eq_true rfl) dX2_foresee_9 ⟨Nat.le_of_ble_eq_true rfl, Nat.le_of_ble_eq_true rfl⟩) hP hS hA (fun H locs hn4 hP hS => ?_)
  refine lv_if_ne (tgt := 21) hx hb dX2_foresee_12 (by decide) (fun c5 => ?_) (fun c5 => ?_)
  · have hf := if_f hf c5
    refine lv_iload_n hx hb dX2_foresee_21 rfl (lv_at hl 2 rfl) ?_
    refine lv_iconst (v := 3) hx hb dX2_foresee_22 (by decide) ?_
    refine lv_bipush (v := 7) hx hb dX2_foresee_23 (by decide) ?_
    obtain ⟨v7, hv6, hf⟩ := ob_some hf
    refine zc_z (z_SD (As := [.int p2, .int 3, .int 7]) (rest := []) ⟨hx, hb, hml, hown, hts⟩ (m_X2_isIn l D Z p2 3 7 v7 hv6) gX2_foresee_X2_isIn rfl rfl rfl hds_X2_isIn ⟨Nat.le_of_ble_eq_true rfl, Nat.le_of_ble_eq_true rfl⟩ hK (hP.sub (ws' := []) [] rfl) (hD.sub (ws' := []) [] (by decide) rfl) rfl hl.1 rfl (Nat.le_of_ble_eq_true rfl) dX2_foresee_25 ⟨Nat.le_of_ble_eq_true rfl, Nat.le_of_ble_eq_true rfl⟩) hP hS hA (fun H locs hn8 hP hS => ?_)
    refine lv_if_ne (tgt := 37) hx hb dX2_foresee_28 (by decide) (fun c9 => ?_) (fun c9 => ?_)
    · have hf := if_f hf c9
      refine lv_aload_n hx hb dX2_foresee_37 rfl (lv_at hl 0 rfl) ?_
      have hS0 := hS
      refine va_callr (z_VG (As := []) (rest := []) (q0 := 0) (ci := 2) mE_ok hE hS hA ⟨hx, hb, hml, hown, hts⟩ (m_X2_kept l D Z a S1) gX2_foresee_X2_kept rfl rfl rfl hdv_X2_kept ⟨Nat.le_of_ble_eq_true rfl, Nat.le_of_ble_eq_true rfl⟩ hK hP hD rfl rfl rfl rfl hl.1 rfl (Nat.le_of_ble_eq_true rfl) dX2_foresee_38 ⟨Nat.le_of_ble_eq_true rfl, Nat.le_of_ble_eq_true rfl⟩) hS (fun q _ h => z_hF hD hS hA q h) (z_hF hD hS hA) (fun u10 ra t H locs ht _ _ hB _ hk hS => ?_)
      obtain ⟨rfl, hP1, hD1⟩ := hB
      rw [ht] at hP1
      have hD := z_wk hD hS0 hA hD1
      have hP := hP1
      refine lv_astore_n (lv' := [(3, .ref (u10 0)), (0, .ref (a 0)), (1, .int p1), (2, .int p2)]) hx hb dX2_foresee_41 rfl hl (by decide) rfl (fun ls hl => ?_)
      refine lv_aload_n hx hb dX2_foresee_42 rfl (lv_at hl 1 rfl) ?_
      refine lv_iload_n hx hb dX2_foresee_43 rfl (lv_at hl 2 rfl) ?_
      obtain ⟨v13, S12, hv11, hf⟩ := ob2_some hf
      refine zc_mi zI_kept (z_VD (As := [.int p1]) (rest := []) (q0 := 0) (ci := 2) ⟨hx, hb, hml, hown, hts⟩ (m_X2_minutesOn l D Z a S1 p1 S12 v13 hv11) gX2_foresee_X2_minutesOn rfl rfl rfl hdv_X2_minutesOn ⟨Nat.le_of_ble_eq_true rfl, Nat.le_of_ble_eq_true rfl⟩ hK (hP.sub (ws' := (mwl Z a S1)) [0, 1, 2, 3, 4] rfl) (hD.sub (ws' := (mwl Z a S1)) [0, 1, 2, 3, 4] (by decide) rfl) rfl rfl rfl rfl hl.1 rfl (Nat.le_of_ble_eq_true rfl) dX2_foresee_44 ⟨Nat.le_of_ble_eq_true rfl, Nat.le_of_ble_eq_true rfl⟩) hP hD hS hA (fun H locs hP hD hS => ?_)
      refine lv_pop hx hb dX2_foresee_47 rfl ?_
      refine lv_aload_n hx hb dX2_foresee_48 rfl (lv_at hl 1 rfl) ?_
      refine lv_iload_n hx hb dX2_foresee_49 rfl (lv_at hl 3 rfl) ?_
      obtain ⟨v15, hv14, hf⟩ := ob_some hf
      refine zc_i (z_VD (As := [.int p2]) (rest := []) (q0 := 0) (ci := 2) ⟨hx, hb, hml, hown, hts⟩ (m_X2_counted l D Z a S12 p2 v15 hv14) gX2_foresee_X2_counted rfl rfl rfl hdv_X2_counted ⟨Nat.le_of_ble_eq_true rfl, Nat.le_of_ble_eq_true rfl⟩ hK (hP.sub (ws' := (mwl Z a S12)) [0, 1, 2, 3, 4] rfl) (hD.sub (ws' := (mwl Z a S12)) [0, 1, 2, 3, 4] (by decide) rfl) rfl rfl rfl rfl hl.1 rfl (Nat.le_of_ble_eq_true rfl) dX2_foresee_50 ⟨Nat.le_of_ble_eq_true rfl, Nat.le_of_ble_eq_true rfl⟩) hP hS hA (fun H locs hP hS => ?_)
      refine lv_istore (lv' := [(4, .int v15), (3, .ref (u10 0)), (0, .ref (a 0)), (1, .int p1), (2, .int p2)]) hx hb dX2_foresee_53 hl (by decide) rfl (fun ls hl => ?_)
      refine lv_aload_n hx hb dX2_foresee_55 rfl (lv_at hl 2 rfl) ?_
      refine lv_aload_n hx hb dX2_foresee_56 rfl (lv_at hl 1 rfl) ?_
      obtain ⟨S16, eS16, hf⟩ := lt_ex hf
      refine zc_mv0 (z_VG (As := [.ref (u10 0)]) (rest := []) (q0 := 0) (ci := 2) mE_ok hE hS hA ⟨hx, hb, hml, hown, hts⟩ (m_X2_bringBack l D Z a u10 S12 S1) gX2_foresee_X2_bringBack rfl rfl rfl hdv_X2_bringBack ⟨Nat.le_of_ble_eq_true rfl, Nat.le_of_ble_eq_true rfl⟩ hK hP hD rfl rfl rfl rfl hl.1 rfl (Nat.le_of_ble_eq_true rfl) dX2_foresee_57 ⟨Nat.le_of_ble_eq_true rfl, Nat.le_of_ble_eq_true rfl⟩) hD hS hA (fun H locs hP hD hS => ?_)
      have hP : va_P D vwCl ((mwl Z a S16) ++ kwl Z u10 S1) H := by rw [eS16]; exact hP
      have hD : va_D A ((mwl Z a S16) ++ kwl Z u10 S1) := by rw [eS16]; exact hD
      refine lv_iload hx hb dX2_foresee_60 (lv_at hl 0 rfl) ?_
      have hP := hP.sub (ws' := (mwl Z a S16)) [0, 1, 2, 3, 4] rfl
      have hD := hD.sub (ws' := (mwl Z a S16)) [0, 1, 2, 3, 4] (by decide) rfl
      exact zw_i hx hb hr hlk hP hD hS (congrArg (fun z => ((mwl Z a z) : va_W)) (pr2 hf)) (pr1 hf) (Nat.le_of_ble_eq_true rfl) (Nat.le_of_ble_eq_true rfl) dX2_foresee_62
    · have hf := if_t hf c9
      refine lv_aload_n hx hb dX2_foresee_31 rfl (lv_at hl 0 rfl) ?_
      refine lv_iconst (v := 2) hx hb dX2_foresee_32 (by decide) ?_
      obtain ⟨v19, S18, hv17, hf⟩ := ob2_some hf
      refine zc_mi0 (z_VD (As := [.int 2]) (rest := []) (q0 := 0) (ci := 2) ⟨hx, hb, hml, hown, hts⟩ (m_X2_fail l D Z a S1 2 S18 v19 hv17) gX2_foresee_X2_fail rfl rfl rfl hdv_X2_fail ⟨Nat.le_of_ble_eq_true rfl, Nat.le_of_ble_eq_true rfl⟩ hK hP hD rfl rfl rfl rfl hl.1 rfl (Nat.le_of_ble_eq_true rfl) dX2_foresee_33 ⟨Nat.le_of_ble_eq_true rfl, Nat.le_of_ble_eq_true rfl⟩) hD hS hA (fun H locs hP hD hS => ?_)
      exact zw_i hx hb hr hlk hP hD hS (congrArg (fun z => ((mwl Z a z) : va_W)) (pr2 hf)) (pr1 hf) (Nat.le_of_ble_eq_true rfl) (Nat.le_of_ble_eq_true rfl) dX2_foresee_36
  · have hf := if_t hf c5
    refine lv_aload_n hx hb dX2_foresee_15 rfl (lv_at hl 0 rfl) ?_
    refine lv_iconst (v := 1) hx hb dX2_foresee_16 (by decide) ?_
    obtain ⟨v22, S21, hv20, hf⟩ := ob2_some hf
    refine zc_mi0 (z_VD (As := [.int 1]) (rest := []) (q0 := 0) (ci := 2) ⟨hx, hb, hml, hown, hts⟩ (m_X2_fail l D Z a S1 1 S21 v22 hv20) gX2_foresee_X2_fail rfl rfl rfl hdv_X2_fail ⟨Nat.le_of_ble_eq_true rfl, Nat.le_of_ble_eq_true rfl⟩ hK hP hD rfl rfl rfl rfl hl.1 rfl (Nat.le_of_ble_eq_true rfl) dX2_foresee_17 ⟨Nat.le_of_ble_eq_true rfl, Nat.le_of_ble_eq_true rfl⟩) hD hS hA (fun H locs hP hD hS => ?_)
    exact zw_i hx hb hr hlk hP hD hS (congrArg (fun z => ((mwl Z a z) : va_W)) (pr2 hf)) (pr1 hf) (Nat.le_of_ble_eq_true rfl) (Nat.le_of_ble_eq_true rfl) dX2_foresee_20

