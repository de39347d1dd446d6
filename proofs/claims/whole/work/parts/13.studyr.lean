theorem d_St_howMany_0 : decode prog_4_method_3_code 0 = .ok (.aload_n 0, 1) := by decide +kernel
theorem d_St_howMany_1 : decode prog_4_method_3_code 1 = .ok (.getfield 21, 3) := by decide +kernel
theorem d_St_howMany_4 : decode prog_4_method_3_code 4 = .ok (.iload_n 1, 1) := by decide +kernel
theorem d_St_howMany_5 : decode prog_4_method_3_code 5 = .ok (.iconst 1, 1) := by decide +kernel
theorem d_St_howMany_6 : decode prog_4_method_3_code 6 = .ok (.iadd, 1) := by decide +kernel
theorem d_St_howMany_7 : decode prog_4_method_3_code 7 = .ok (.iaload, 1) := by decide +kernel
theorem d_St_howMany_8 : decode prog_4_method_3_code 8 = .ok (.aload_n 0, 1) := by decide +kernel
theorem d_St_howMany_9 : decode prog_4_method_3_code 9 = .ok (.getfield 21, 3) := by decide +kernel
theorem d_St_howMany_12 : decode prog_4_method_3_code 12 = .ok (.iload_n 1, 1) := by decide +kernel
theorem d_St_howMany_13 : decode prog_4_method_3_code 13 = .ok (.iaload, 1) := by decide +kernel
theorem d_St_howMany_14 : decode prog_4_method_3_code 14 = .ok (.isub, 1) := by decide +kernel
theorem d_St_howMany_15 : decode prog_4_method_3_code 15 = .ok (.ireturn, 1) := by decide +kernel
def f_S_howMany (s_starts_n : Nat) (s_starts : Nat → Int32) (kind0 : Int32) : Option (Int32) :=
  ck_in (kind0 + 1) s_starts_n <| ck_in kind0 s_starts_n <| some ((s_starts (kind0 + 1).toNatClampNeg) - (s_starts kind0.toNatClampNeg))
set_option maxHeartbeats 4000000 in
set_option maxRecDepth 100000 in
theorem c_S_howMany (l : Launch) (dC : Nat → ClassId) (dI : Nat → Nat → Nat) (cI cJ cB cZ cT cN : ClassId) (sz : Nat) (h_s : Nat) (h_s_ranks : Nat) (h_s_signs : Nat) (h_s_members : Nat) (h_s_starts : Nat) (h_s_defects : Nat) (s_columnCount : Int32) (s_fullRank : Int32) (s_starts_n : Nat) (s_starts : Nat → Int32) (kind0 : Int32) (r : Int32) (h : f_S_howMany s_starts_n s_starts kind0 = some r) : Met l y_St_howMany w_St_howMany ({ frames := 0, cells := 0, slots := 0, locals := 0 } : Room) (va_Pc [.ref h_s, .int kind0] (fun U => U.heap.size = sz ∧ va_P (dC, dI) cl_all [(h_s, .inr (2, [.int s_columnCount, .int s_fullRank, .ref h_s_ranks, .ref h_s_signs, .ref h_s_members, .ref h_s_starts, .ref h_s_defects])), (h_s_starts, .inl (cI, s_starts_n, .inl s_starts))] U.heap ∧ va_K (dC, dI) cl_all [(cI, .int), (cJ, .long), (cB, .byte), (cZ, .boolean), (cT, .object "BasisWalk$Table"), (cN, .object "BasisWalkModel$Num")] U ∧ NW U ∧ va_D (fun _ => True) [(h_s, .inr (2, [.int s_columnCount, .int s_fullRank, .ref h_s_ranks, .ref h_s_signs, .ref h_s_members, .ref h_s_starts, .ref h_s_defects])), (h_s_starts, .inl (cI, s_starts_n, .inl s_starts))])) (va_Qi (fun (v : Int32) (_ : Unit) => v = r) (fun (u : Unit) (t : State) => va_P (dC, dI) cl_all [(h_s, .inr (2, [.int s_columnCount, .int s_fullRank, .ref h_s_ranks, .ref h_s_signs, .ref h_s_members, .ref h_s_starts, .ref h_s_defects])), (h_s_starts, .inl (cI, s_starts_n, .inl s_starts))] t.heap ∧ va_K (dC, dI) cl_all [(cI, .int), (cJ, .long), (cB, .byte), (cZ, .boolean), (cT, .object "BasisWalk$Table"), (cN, .object "BasisWalkModel$Num")] t ∧ va_D (va_A [(h_s, .inr (2, [.int s_columnCount, .int s_fullRank, .ref h_s_ranks, .ref h_s_signs, .ref h_s_members, .ref h_s_starts, .ref h_s_defects])), (h_s_starts, .inl (cI, s_starts_n, .inl s_starts))] sz) [(h_s, .inr (2, [.int s_columnCount, .int s_fullRank, .ref h_s_ranks, .ref h_s_signs, .ref h_s_members, .ref h_s_starts, .ref h_s_defects])), (h_s_starts, .inl (cI, s_starts_n, .inl s_starts))]) (va_A [(h_s, .inr (2, [.int s_columnCount, .int s_fullRank, .ref h_s_ranks, .ref h_s_signs, .ref h_s_members, .ref h_s_starts, .ref h_s_defects])), (h_s_starts, .inl (cI, s_starts_n, .inl s_starts))] sz)) 0 0 (va_A [(h_s, .inr (2, [.int s_columnCount, .int s_fullRank, .ref h_s_ranks, .ref h_s_signs, .ref h_s_members, .ref h_s_starts, .ref h_s_defects])), (h_s_starts, .inl (cI, s_starts_n, .inl s_starts))] sz) := by
  refine Met.ofW (cc := prog_4_method_3_code) (maxL := 2) (ret := (Option.some Jvm.ClassFile.FieldType.int)) (by decide) rfl ?_
  intro p e s m args below meth c s₁ B hml hv
  obtain ⟨hAR, hsz, hP, hK, hN, hD0⟩ := hv
  have hx := B.exec
  have hb := B.bytes
  have hr := B.returns
  have hts := atoms_spec (ws := w_St_howMany) B.pre
  have hown : s.vm.findClass "BasisWalk$Study" = some m.cls := findClass_of_methodNamed B.named
  have hlocks := B.notSynchronized
  clear B
  subst hsz
  have hD := hD0.self (sz := s.heap.size)
  generalize hAe : va_A [(h_s, .inr (2, [.int s_columnCount, .int s_fullRank, .ref h_s_ranks, .ref h_s_signs, .ref h_s_members, .ref h_s_starts, .ref h_s_defects])), (h_s_starts, .inl (cI, s_starts_n, .inl s_starts))] s.heap.size = A at hD ⊢
  have hA : ∀ q : Nat, s.heap.size ≤ q → A q := fun q h => by rw [← hAe]; exact Or.inr h
  clear hAe hD0
  have hS : va_S A s.heap s.heap [] := va_S.rf
  have hl := lv_entry ([.ref h_s, .int kind0]) (n := 2) (Nat.le_of_ble_eq_true rfl)
  subst hAR
  rw [lg_entry_eq]
  generalize (lg_sl ([.ref h_s, .int kind0]) ++ List.replicate (2 - (lg_sl ([.ref h_s, .int kind0])).length) Slot.unset).toArray = ls at hl ⊢
  have hl : lv_has ls 2 [(0, .ref h_s), (1, .int kind0)] := hl
  change W p l e ({ frames := 0, cells := 0, slots := 0, locals := 0 } : Room) s m _ below meth c s.heap [] 0 0 _ _
  generalize hARe : ([.ref h_s, .int kind0] : List Value).toArray = AR at hts ⊢
  clear hARe
  generalize hQ : MQ below _ AR s 0 0 A = QQ
  have fl0 := hts _ (List.mem_cons_of_mem _ tw_40)
  have iw1 := (fun w hw => List.mem_cons_of_mem _ (in_St w hw) : ∀ w ∈ u_ws "BasisWalk$Study" T_St 7, w ∈ w_St_howMany)
  obtain ⟨H, hHe⟩ : ∃ H : Heap, H = s.heap := ⟨_, rfl⟩
  rw [← hHe] at hP ⊢
  replace hS : va_S A s.heap H [] := by rw [hHe]; exact va_S.rf
  clear hHe
  unfold f_S_howMany at h
  refine lv_aload_n hx hb d_St_howMany_0 rfl (lv_at hl 0 rfl) ?_
  refine va_get (D := (dC, dI)) (ci := 2) (v := .ref h_s_starts) (C := "BasisWalk$Study") (T := T_St) (N := 7) hx hb hts iw1 hown hK hP 0 rfl rfl 5 (by decide) fl0 (fun _ h9 => h9) rfl d_St_howMany_1 ?_
  refine lv_iload_n hx hb d_St_howMany_4 rfl (lv_at hl 1 rfl) ?_
  refine lv_iconst (v := 1) hx hb d_St_howMany_5 (by decide) ?_
  refine lv_iadd hx hb d_St_howMany_6 ?_
  obtain ⟨g_1, h⟩ := ck_in_s h
  refine va_iald hx hb hK hP 1 0 rfl rfl g_1 d_St_howMany_7 ?_
  refine lv_aload_n hx hb d_St_howMany_8 rfl (lv_at hl 0 rfl) ?_
  refine va_get (D := (dC, dI)) (ci := 2) (v := .ref h_s_starts) (C := "BasisWalk$Study") (T := T_St) (N := 7) hx hb hts iw1 hown hK hP 0 rfl rfl 5 (by decide) fl0 (fun _ h9 => h9) rfl d_St_howMany_9 ?_
  refine lv_iload_n hx hb d_St_howMany_12 rfl (lv_at hl 1 rfl) ?_
  obtain ⟨g_2, h⟩ := ck_in_s h
  refine va_iald hx hb hK hP 1 0 rfl rfl g_2 d_St_howMany_13 ?_
  refine lv_isub hx hb d_St_howMany_14 ?_
  obtain rfl := Option.some.inj h
  subst hQ
  exact W.iret (v := ((s_starts (kind0 + 1).toNatClampNeg) - (s_starts kind0.toNatClampNeg))) hx hb hr (fun t ht hW => ⟨⟨((s_starts (kind0 + 1).toNatClampNeg) - (s_starts kind0.toNatClampNeg)), (), rfl, rfl, by rw [ht]; exact hP, va_K.moved hW.alike hK, hD⟩, hS.F ht⟩) hS.2.2 d_St_howMany_15
theorem d_St_memberAt_0 : decode prog_4_method_4_code 0 = .ok (.iload_n 2, 1) := by decide +kernel
theorem d_St_memberAt_1 : decode prog_4_method_4_code 1 = .ok (.ifCond .lt 12, 3) := by decide +kernel
theorem d_St_memberAt_4 : decode prog_4_method_4_code 4 = .ok (.iload_n 2, 1) := by decide +kernel
theorem d_St_memberAt_5 : decode prog_4_method_4_code 5 = .ok (.aload_n 0, 1) := by decide +kernel
theorem d_St_memberAt_6 : decode prog_4_method_4_code 6 = .ok (.iload_n 1, 1) := by decide +kernel
theorem d_St_memberAt_7 : decode prog_4_method_4_code 7 = .ok (.invokevirtual 58, 3) := by decide +kernel
theorem d_St_memberAt_10 : decode prog_4_method_4_code 10 = .ok (.if_icmp .lt 7, 3) := by decide +kernel
theorem d_St_memberAt_13 : decode prog_4_method_4_code 13 = .ok (.iconst (-1), 1) := by decide +kernel
theorem d_St_memberAt_14 : decode prog_4_method_4_code 14 = .ok (.goto 16, 3) := by decide +kernel
theorem d_St_memberAt_17 : decode prog_4_method_4_code 17 = .ok (.aload_n 0, 1) := by decide +kernel
theorem d_St_memberAt_18 : decode prog_4_method_4_code 18 = .ok (.getfield 18, 3) := by decide +kernel
theorem d_St_memberAt_21 : decode prog_4_method_4_code 21 = .ok (.aload_n 0, 1) := by decide +kernel
theorem d_St_memberAt_22 : decode prog_4_method_4_code 22 = .ok (.getfield 21, 3) := by decide +kernel
theorem d_St_memberAt_25 : decode prog_4_method_4_code 25 = .ok (.iload_n 1, 1) := by decide +kernel
theorem d_St_memberAt_26 : decode prog_4_method_4_code 26 = .ok (.iaload, 1) := by decide +kernel
theorem d_St_memberAt_27 : decode prog_4_method_4_code 27 = .ok (.iload_n 2, 1) := by decide +kernel
theorem d_St_memberAt_28 : decode prog_4_method_4_code 28 = .ok (.iadd, 1) := by decide +kernel
theorem d_St_memberAt_29 : decode prog_4_method_4_code 29 = .ok (.iaload, 1) := by decide +kernel
theorem d_St_memberAt_30 : decode prog_4_method_4_code 30 = .ok (.ireturn, 1) := by decide +kernel
def f_S_memberAt (s_starts_n : Nat) (s_starts : Nat → Int32) (s_members_n : Nat) (s_members : Nat → Int32) (kind0 : Int32) (i0 : Int32) : Option (Int32) :=
  ck_if (i0 < 0) (some (-1)) (ck_b1 (f_S_howMany s_starts_n s_starts kind0) <| fun r_2 => ck_if (i0 < r_2) (ck_in kind0 s_starts_n <| ck_in ((s_starts kind0.toNatClampNeg) + i0) s_members_n <| some (s_members ((s_starts kind0.toNatClampNeg) + i0).toNatClampNeg)) (some (-1)))
set_option maxHeartbeats 4000000 in
set_option maxRecDepth 100000 in
theorem c_S_memberAt (l : Launch) (dC : Nat → ClassId) (dI : Nat → Nat → Nat) (cI cJ cB cZ cT cN : ClassId) (sz : Nat) (h_s : Nat) (h_s_ranks : Nat) (h_s_signs : Nat) (h_s_members : Nat) (h_s_starts : Nat) (h_s_defects : Nat) (s_columnCount : Int32) (s_fullRank : Int32) (s_starts_n : Nat) (s_starts : Nat → Int32) (s_members_n : Nat) (s_members : Nat → Int32) (kind0 : Int32) (i0 : Int32) (r : Int32) (h : f_S_memberAt s_starts_n s_starts s_members_n s_members kind0 i0 = some r) : Met l y_St_memberAt w_St_memberAt ({ frames := 1, cells := 0, slots := 0, locals := 21 } : Room) (va_Pc [.ref h_s, .int kind0, .int i0] (fun U => U.heap.size = sz ∧ va_P (dC, dI) cl_all [(h_s, .inr (2, [.int s_columnCount, .int s_fullRank, .ref h_s_ranks, .ref h_s_signs, .ref h_s_members, .ref h_s_starts, .ref h_s_defects])), (h_s_starts, .inl (cI, s_starts_n, .inl s_starts)), (h_s_members, .inl (cI, s_members_n, .inl s_members))] U.heap ∧ va_K (dC, dI) cl_all [(cI, .int), (cJ, .long), (cB, .byte), (cZ, .boolean), (cT, .object "BasisWalk$Table"), (cN, .object "BasisWalkModel$Num")] U ∧ NW U ∧ va_D (fun _ => True) [(h_s, .inr (2, [.int s_columnCount, .int s_fullRank, .ref h_s_ranks, .ref h_s_signs, .ref h_s_members, .ref h_s_starts, .ref h_s_defects])), (h_s_starts, .inl (cI, s_starts_n, .inl s_starts)), (h_s_members, .inl (cI, s_members_n, .inl s_members))])) (va_Qi (fun (v : Int32) (_ : Unit) => v = r) (fun (u : Unit) (t : State) => va_P (dC, dI) cl_all [(h_s, .inr (2, [.int s_columnCount, .int s_fullRank, .ref h_s_ranks, .ref h_s_signs, .ref h_s_members, .ref h_s_starts, .ref h_s_defects])), (h_s_starts, .inl (cI, s_starts_n, .inl s_starts)), (h_s_members, .inl (cI, s_members_n, .inl s_members))] t.heap ∧ va_K (dC, dI) cl_all [(cI, .int), (cJ, .long), (cB, .byte), (cZ, .boolean), (cT, .object "BasisWalk$Table"), (cN, .object "BasisWalkModel$Num")] t ∧ va_D (va_A [(h_s, .inr (2, [.int s_columnCount, .int s_fullRank, .ref h_s_ranks, .ref h_s_signs, .ref h_s_members, .ref h_s_starts, .ref h_s_defects])), (h_s_starts, .inl (cI, s_starts_n, .inl s_starts)), (h_s_members, .inl (cI, s_members_n, .inl s_members))] sz) [(h_s, .inr (2, [.int s_columnCount, .int s_fullRank, .ref h_s_ranks, .ref h_s_signs, .ref h_s_members, .ref h_s_starts, .ref h_s_defects])), (h_s_starts, .inl (cI, s_starts_n, .inl s_starts)), (h_s_members, .inl (cI, s_members_n, .inl s_members))]) (va_A [(h_s, .inr (2, [.int s_columnCount, .int s_fullRank, .ref h_s_ranks, .ref h_s_signs, .ref h_s_members, .ref h_s_starts, .ref h_s_defects])), (h_s_starts, .inl (cI, s_starts_n, .inl s_starts)), (h_s_members, .inl (cI, s_members_n, .inl s_members))] sz)) 0 0 (va_A [(h_s, .inr (2, [.int s_columnCount, .int s_fullRank, .ref h_s_ranks, .ref h_s_signs, .ref h_s_members, .ref h_s_starts, .ref h_s_defects])), (h_s_starts, .inl (cI, s_starts_n, .inl s_starts)), (h_s_members, .inl (cI, s_members_n, .inl s_members))] sz) := by
  refine Met.ofW (cc := prog_4_method_4_code) (maxL := 3) (ret := (Option.some Jvm.ClassFile.FieldType.int)) (by decide) rfl ?_
  intro p e s m args below meth c s₁ B hml hv
  obtain ⟨hAR, hsz, hP, hK, hN, hD0⟩ := hv
  have hx := B.exec
  have hb := B.bytes
  have hr := B.returns
  have hts := atoms_spec (ws := w_St_memberAt) B.pre
  have hown : s.vm.findClass "BasisWalk$Study" = some m.cls := findClass_of_methodNamed B.named
  have hlocks := B.notSynchronized
  clear B
  subst hsz
  have hD := hD0.self (sz := s.heap.size)
  generalize hAe : va_A [(h_s, .inr (2, [.int s_columnCount, .int s_fullRank, .ref h_s_ranks, .ref h_s_signs, .ref h_s_members, .ref h_s_starts, .ref h_s_defects])), (h_s_starts, .inl (cI, s_starts_n, .inl s_starts)), (h_s_members, .inl (cI, s_members_n, .inl s_members))] s.heap.size = A at hD ⊢
  have hA : ∀ q : Nat, s.heap.size ≤ q → A q := fun q h => by rw [← hAe]; exact Or.inr h
  clear hAe hD0
  have hS : va_S A s.heap s.heap [] := va_S.rf
  have hl := lv_entry ([.ref h_s, .int kind0, .int i0]) (n := 3) (Nat.le_of_ble_eq_true rfl)
  subst hAR
  rw [lg_entry_eq]
  generalize (lg_sl ([.ref h_s, .int kind0, .int i0]) ++ List.replicate (3 - (lg_sl ([.ref h_s, .int kind0, .int i0])).length) Slot.unset).toArray = ls at hl ⊢
  have hl : lv_has ls 3 [(0, .ref h_s), (1, .int kind0), (2, .int i0)] := hl
  change W p l e ({ frames := 1, cells := 0, slots := 0, locals := 21 } : Room) s m _ below meth c s.heap [] 0 0 _ _
  generalize hARe : ([.ref h_s, .int kind0, .int i0] : List Value).toArray = AR at hts ⊢
  clear hARe
  generalize hQ : MQ below _ AR s 0 0 A = QQ
  have fl0 := hts _ (List.mem_cons_of_mem _ tw_39)
  have iw1 := (fun w hw => List.mem_cons_of_mem _ (in_St w hw) : ∀ w ∈ u_ws "BasisWalk$Study" T_St 7, w ∈ w_St_memberAt)
  have fl2 := hts _ (List.mem_cons_of_mem _ tw_40)
  obtain ⟨H, hHe⟩ : ∃ H : Heap, H = s.heap := ⟨_, rfl⟩
  rw [← hHe] at hP ⊢
  replace hS : va_S A s.heap H [] := by rw [hHe]; exact va_S.rf
  clear hHe
  unfold f_S_memberAt at h
  refine lv_iload_n hx hb d_St_memberAt_0 rfl (lv_at hl 2 rfl) ?_
  refine lv_if_lt (tgt := 13) hx hb d_St_memberAt_1 (by decide) (fun c_1 => ?_) (fun c_1 => ?_)
  · replace h := ck_if_t h c_1
    refine lv_iconst (v := (-1)) hx hb d_St_memberAt_13 (by decide) ?_
    refine lv_goto (tgt := 30) hx hb d_St_memberAt_14 (by decide) ?_
    obtain rfl := Option.some.inj h
    subst hQ
    exact W.iret (v := (-1)) hx hb hr (fun t ht hW => ⟨⟨(-1), (), rfl, rfl, by rw [ht]; exact hP, va_K.moved hW.alike hK, hD⟩, hS.F ht⟩) hS.2.2 d_St_memberAt_30
  · replace h := ck_if_f h c_1
    refine lv_iload_n hx hb d_St_memberAt_4 rfl (lv_at hl 2 rfl) ?_
    refine lv_aload_n hx hb d_St_memberAt_5 rfl (lv_at hl 0 rfl) ?_
    refine lv_iload_n hx hb d_St_memberAt_6 rfl (lv_at hl 1 rfl) ?_
    obtain ⟨r_2, hc_3, h⟩ := ck_b1_s h
    have hPc := hP.sub (ws' := [(h_s, .inr (2, [.int s_columnCount, .int s_fullRank, .ref h_s_ranks, .ref h_s_signs, .ref h_s_members, .ref h_s_starts, .ref h_s_defects])), (h_s_starts, .inl (cI, s_starts_n, .inl s_starts))]) [0, 1] rfl
    have hDc := hD.sub (ws' := [(h_s, .inr (2, [.int s_columnCount, .int s_fullRank, .ref h_s_ranks, .ref h_s_signs, .ref h_s_members, .ref h_s_starts, .ref h_s_defects])), (h_s_starts, .inl (cI, s_starts_n, .inl s_starts))]) [0, 1] (by decide) rfl
    have hFc := va_free (wc := [(h_s, .inr (2, [.int s_columnCount, .int s_fullRank, .ref h_s_ranks, .ref h_s_signs, .ref h_s_members, .ref h_s_starts, .ref h_s_defects])), (h_s_starts, .inl (cI, s_starts_n, .inl s_starts))]) hD hS hA [0, 1] rfl
    refine va_calli (va_runV (As := [.int kind0]) (rest := [.int i0]) ⟨hx, hb, hml, hown, hts⟩ (c_S_howMany l dC dI cI cJ cB cZ cT cN H.size h_s h_s_ranks h_s_signs h_s_members h_s_starts h_s_defects s_columnCount s_fullRank s_starts_n s_starts kind0 _ hc_3) (cwV 1 hts (tb_V tw_299 tw_288 tw_289 tw_3 tw_290) rfl rfl rfl (by decide +kernel) ⟨Nat.le_of_ble_eq_true rfl, Nat.le_of_ble_eq_true rfl⟩) ⟨fun a U g mk q => by obtain ⟨q0, q1, qP, qK, qN, qD⟩ := q; exact ⟨q0, q1, qP, va_K.moved (u := U) (U := U.calling g mk a) (Vm.Alike.refl U.vm) qK, qN.same rfl, qD⟩, va_recv hK hPc (ci := 2) (q0 := 0) rfl rfl, fun U hU hW => ⟨rfl, by rw [hU], by rw [hU]; exact hPc, va_K.moved hW.alike hK, hN.warm hW, hDc.weaken (fun _ _ _ _ => trivial)⟩⟩ rfl rfl hl.1 rfl (lv_room (Nat.le_of_ble_eq_true rfl)) d_St_memberAt_7 ⟨Nat.zero_le _, Nat.zero_le _⟩) hS (fun q _ h => hFc q h) hFc (fun rr u t H1 locs ht hvm hw hB hz1 hk1 hS => ?_)
    replace hw := hw.symm
    subst hw
    obtain ⟨hP1, -, hD1⟩ := hB
    rw [ht] at hP1
    obtain ⟨hP, hD⟩ := va_join (wr := [(h_s_members, .inl (cI, s_members_n, .inl s_members))]) (w1 := [(h_s, .inr (2, [.int s_columnCount, .int s_fullRank, .ref h_s_ranks, .ref h_s_signs, .ref h_s_members, .ref h_s_starts, .ref h_s_defects])), (h_s_starts, .inl (cI, s_starts_n, .inl s_starts))]) hP hD [0, 1] [2] rfl rfl (by decide) (by decide) hk1 hFc hP1 hD1
    generalize H1 = H at hP hS ⊢
    have hP : va_P (dC, dI) cl_all [(h_s, .inr (2, [.int s_columnCount, .int s_fullRank, .ref h_s_ranks, .ref h_s_signs, .ref h_s_members, .ref h_s_starts, .ref h_s_defects])), (h_s_starts, .inl (cI, s_starts_n, .inl s_starts)), (h_s_members, .inl (cI, s_members_n, .inl s_members))] H := hP.sub [1, 2, 0] rfl
    have hD : va_D A [(h_s, .inr (2, [.int s_columnCount, .int s_fullRank, .ref h_s_ranks, .ref h_s_signs, .ref h_s_members, .ref h_s_starts, .ref h_s_defects])), (h_s_starts, .inl (cI, s_starts_n, .inl s_starts)), (h_s_members, .inl (cI, s_members_n, .inl s_members))] := hD.sub [1, 2, 0] (by decide) rfl
    refine lv_icmp_lt (tgt := 17) hx hb d_St_memberAt_10 (by decide) (fun c_4 => ?_) (fun c_4 => ?_)
    · replace h := ck_if_t h c_4
      refine lv_aload_n hx hb d_St_memberAt_17 rfl (lv_at hl 0 rfl) ?_
      refine va_get (D := (dC, dI)) (ci := 2) (v := .ref h_s_members) (C := "BasisWalk$Study") (T := T_St) (N := 7) hx hb hts iw1 hown hK hP 0 rfl rfl 4 (by decide) fl0 (fun _ h9 => h9) rfl d_St_memberAt_18 ?_
      refine lv_aload_n hx hb d_St_memberAt_21 rfl (lv_at hl 0 rfl) ?_
      refine va_get (D := (dC, dI)) (ci := 2) (v := .ref h_s_starts) (C := "BasisWalk$Study") (T := T_St) (N := 7) hx hb hts iw1 hown hK hP 0 rfl rfl 5 (by decide) fl2 (fun _ h9 => h9) rfl d_St_memberAt_22 ?_
      refine lv_iload_n hx hb d_St_memberAt_25 rfl (lv_at hl 1 rfl) ?_
      obtain ⟨g_5, h⟩ := ck_in_s h
      refine va_iald hx hb hK hP 1 0 rfl rfl g_5 d_St_memberAt_26 ?_
      refine lv_iload_n hx hb d_St_memberAt_27 rfl (lv_at hl 2 rfl) ?_
      refine lv_iadd hx hb d_St_memberAt_28 ?_
      obtain ⟨g_6, h⟩ := ck_in_s h
      refine va_iald hx hb hK hP 2 0 rfl rfl g_6 d_St_memberAt_29 ?_
      obtain rfl := Option.some.inj h
      subst hQ
      exact W.iret (v := (s_members ((s_starts kind0.toNatClampNeg) + i0).toNatClampNeg)) hx hb hr (fun t ht hW => ⟨⟨(s_members ((s_starts kind0.toNatClampNeg) + i0).toNatClampNeg), (), rfl, rfl, by rw [ht]; exact hP, va_K.moved hW.alike hK, hD⟩, hS.F ht⟩) hS.2.2 d_St_memberAt_30
    · replace h := ck_if_f h c_4
      refine lv_iconst (v := (-1)) hx hb d_St_memberAt_13 (by decide) ?_
      refine lv_goto (tgt := 30) hx hb d_St_memberAt_14 (by decide) ?_
      obtain rfl := Option.some.inj h
      subst hQ
      exact W.iret (v := (-1)) hx hb hr (fun t ht hW => ⟨⟨(-1), (), rfl, rfl, by rw [ht]; exact hP, va_K.moved hW.alike hK, hD⟩, hS.F ht⟩) hS.2.2 d_St_memberAt_30
theorem d_St_coefficient_0 : decode prog_4_method_5_code 0 = .ok (.lconst 0, 1) := by decide +kernel
theorem d_St_coefficient_1 : decode prog_4_method_5_code 1 = .ok (.lstore_n 3, 1) := by decide +kernel
theorem d_St_coefficient_2 : decode prog_4_method_5_code 2 = .ok (.iload_n 1, 1) := by decide +kernel
theorem d_St_coefficient_3 : decode prog_4_method_5_code 3 = .ok (.istore 5, 2) := by decide +kernel
theorem d_St_coefficient_5 : decode prog_4_method_5_code 5 = .ok (.iload 5, 2) := by decide +kernel
theorem d_St_coefficient_7 : decode prog_4_method_5_code 7 = .ok (.aload_n 0, 1) := by decide +kernel
theorem d_St_coefficient_8 : decode prog_4_method_5_code 8 = .ok (.getfield 38, 3) := by decide +kernel
theorem d_St_coefficient_11 : decode prog_4_method_5_code 11 = .ok (.if_icmp .gt 89, 3) := by decide +kernel
theorem d_St_coefficient_14 : decode prog_4_method_5_code 14 = .ok (.iload_n 2, 1) := by decide +kernel
theorem d_St_coefficient_15 : decode prog_4_method_5_code 15 = .ok (.istore 6, 2) := by decide +kernel
theorem d_St_coefficient_17 : decode prog_4_method_5_code 17 = .ok (.iload 6, 2) := by decide +kernel
theorem d_St_coefficient_19 : decode prog_4_method_5_code 19 = .ok (.aload_n 0, 1) := by decide +kernel
theorem d_St_coefficient_20 : decode prog_4_method_5_code 20 = .ok (.getfield 33, 3) := by decide +kernel
theorem d_St_coefficient_23 : decode prog_4_method_5_code 23 = .ok (.aload_n 0, 1) := by decide +kernel
theorem d_St_coefficient_24 : decode prog_4_method_5_code 24 = .ok (.getfield 38, 3) := by decide +kernel
theorem d_St_coefficient_27 : decode prog_4_method_5_code 27 = .ok (.isub, 1) := by decide +kernel
theorem d_St_coefficient_28 : decode prog_4_method_5_code 28 = .ok (.if_icmp .gt 66, 3) := by decide +kernel
theorem d_St_coefficient_31 : decode prog_4_method_5_code 31 = .ok (.iload 5, 2) := by decide +kernel
theorem d_St_coefficient_33 : decode prog_4_method_5_code 33 = .ok (.iload_n 1, 1) := by decide +kernel
theorem d_St_coefficient_34 : decode prog_4_method_5_code 34 = .ok (.invokestatic 62, 3) := by decide +kernel
theorem d_St_coefficient_37 : decode prog_4_method_5_code 37 = .ok (.i2l, 1) := by decide +kernel
theorem d_St_coefficient_38 : decode prog_4_method_5_code 38 = .ok (.iload 6, 2) := by decide +kernel
theorem d_St_coefficient_40 : decode prog_4_method_5_code 40 = .ok (.iload_n 2, 1) := by decide +kernel
theorem d_St_coefficient_41 : decode prog_4_method_5_code 41 = .ok (.invokestatic 62, 3) := by decide +kernel
theorem d_St_coefficient_44 : decode prog_4_method_5_code 44 = .ok (.i2l, 1) := by decide +kernel
theorem d_St_coefficient_45 : decode prog_4_method_5_code 45 = .ok (.lmul, 1) := by decide +kernel
theorem d_St_coefficient_46 : decode prog_4_method_5_code 46 = .ok (.aload_n 0, 1) := by decide +kernel
theorem d_St_coefficient_47 : decode prog_4_method_5_code 47 = .ok (.getfield 24, 3) := by decide +kernel
theorem d_St_coefficient_50 : decode prog_4_method_5_code 50 = .ok (.iload 5, 2) := by decide +kernel
theorem d_St_coefficient_52 : decode prog_4_method_5_code 52 = .ok (.bipush 13, 2) := by decide +kernel
theorem d_St_coefficient_54 : decode prog_4_method_5_code 54 = .ok (.imul, 1) := by decide +kernel
theorem d_St_coefficient_55 : decode prog_4_method_5_code 55 = .ok (.iload 6, 2) := by decide +kernel
theorem d_St_coefficient_57 : decode prog_4_method_5_code 57 = .ok (.iadd, 1) := by decide +kernel
theorem d_St_coefficient_58 : decode prog_4_method_5_code 58 = .ok (.iaload, 1) := by decide +kernel
theorem d_St_coefficient_59 : decode prog_4_method_5_code 59 = .ok (.i2l, 1) := by decide +kernel
theorem d_St_coefficient_60 : decode prog_4_method_5_code 60 = .ok (.lmul, 1) := by decide +kernel
theorem d_St_coefficient_61 : decode prog_4_method_5_code 61 = .ok (.lstore 7, 2) := by decide +kernel
theorem d_St_coefficient_63 : decode prog_4_method_5_code 63 = .ok (.lload_n 3, 1) := by decide +kernel
theorem d_St_coefficient_64 : decode prog_4_method_5_code 64 = .ok (.iload 5, 2) := by decide +kernel
theorem d_St_coefficient_66 : decode prog_4_method_5_code 66 = .ok (.iload_n 1, 1) := by decide +kernel
theorem d_St_coefficient_67 : decode prog_4_method_5_code 67 = .ok (.isub, 1) := by decide +kernel
theorem d_St_coefficient_68 : decode prog_4_method_5_code 68 = .ok (.iload 6, 2) := by decide +kernel
theorem d_St_coefficient_70 : decode prog_4_method_5_code 70 = .ok (.iadd, 1) := by decide +kernel
theorem d_St_coefficient_71 : decode prog_4_method_5_code 71 = .ok (.iload_n 2, 1) := by decide +kernel
theorem d_St_coefficient_72 : decode prog_4_method_5_code 72 = .ok (.isub, 1) := by decide +kernel
theorem d_St_coefficient_73 : decode prog_4_method_5_code 73 = .ok (.iconst 2, 1) := by decide +kernel
theorem d_St_coefficient_74 : decode prog_4_method_5_code 74 = .ok (.irem, 1) := by decide +kernel
theorem d_St_coefficient_75 : decode prog_4_method_5_code 75 = .ok (.ifCond .ne 8, 3) := by decide +kernel
theorem d_St_coefficient_78 : decode prog_4_method_5_code 78 = .ok (.lload 7, 2) := by decide +kernel
theorem d_St_coefficient_80 : decode prog_4_method_5_code 80 = .ok (.goto 6, 3) := by decide +kernel
theorem d_St_coefficient_83 : decode prog_4_method_5_code 83 = .ok (.lload 7, 2) := by decide +kernel
theorem d_St_coefficient_85 : decode prog_4_method_5_code 85 = .ok (.lneg, 1) := by decide +kernel
theorem d_St_coefficient_86 : decode prog_4_method_5_code 86 = .ok (.ladd, 1) := by decide +kernel
theorem d_St_coefficient_87 : decode prog_4_method_5_code 87 = .ok (.lstore_n 3, 1) := by decide +kernel
theorem d_St_coefficient_88 : decode prog_4_method_5_code 88 = .ok (.iinc 6 1, 3) := by decide +kernel
theorem d_St_coefficient_91 : decode prog_4_method_5_code 91 = .ok (.goto (-74), 3) := by decide +kernel
theorem d_St_coefficient_94 : decode prog_4_method_5_code 94 = .ok (.iinc 5 1, 3) := by decide +kernel
theorem d_St_coefficient_97 : decode prog_4_method_5_code 97 = .ok (.goto (-92), 3) := by decide +kernel
theorem d_St_coefficient_100 : decode prog_4_method_5_code 100 = .ok (.lload_n 3, 1) := by decide +kernel
theorem d_St_coefficient_101 : decode prog_4_method_5_code 101 = .ok (.lreturn, 1) := by decide +kernel
def f_S_coefficient (s_columnCount : Int32) (s_fullRank : Int32) (s_defects_n : Nat) (s_defects : Nat → Int32) (i0 : Int32) (j0 : Int32) : Option (Int64) :=
  lo2 (fun k_5 (v5_1 : Int32) (v3_2 : Int64) => ck_if (s_fullRank < v5_1) (some v3_2) (ck_jn (fun (v3_4 : Int64) => ck_nm (v5_1 + 1) <| fun x_5 => k_5 x_5 v3_4) <| fun k_94 => lo2 (fun k_17 (v6_6 : Int32) (v3_7 : Int64) => ck_if ((s_columnCount - s_fullRank) < v6_6) (k_94 v3_7) (ck_b1 (f_choose v5_1 i0) <| fun r_9 => ck_b1 (f_choose v6_6 j0) <| fun r_11 => ck_in ((v5_1 * 13) + v6_6) s_defects_n <| ck_nm ((r_9.toInt64 * r_11.toInt64) * ((s_defects ((v5_1 * 13) + v6_6).toNatClampNeg).toInt64)) <| fun x_14 => ck_jn (fun (s0_15 : Int64) => ck_nm (v3_7 + s0_15) <| fun x_16 => ck_nm (v6_6 + 1) <| fun x_17 => k_17 x_17 x_16) <| fun k_86 => ck_if (((((v5_1 - i0) + v6_6) - j0) - (((v5_1 - i0) + v6_6) - j0) / 2 * 2) = 0) (k_86 x_14) (k_86 (-x_14)))) ck_F j0 v3_2)) ck_F i0 0
set_option maxHeartbeats 4000000 in
set_option maxRecDepth 100000 in
theorem c_S_coefficient (l : Launch) (dC : Nat → ClassId) (dI : Nat → Nat → Nat) (cI cJ cB cZ cT cN : ClassId) (sz : Nat) (h_s : Nat) (h_s_ranks : Nat) (h_s_signs : Nat) (h_s_members : Nat) (h_s_starts : Nat) (h_s_defects : Nat) (s_columnCount : Int32) (s_fullRank : Int32) (s_defects_n : Nat) (s_defects : Nat → Int32) (i0 : Int32) (j0 : Int32) (r : Int64) (h : f_S_coefficient s_columnCount s_fullRank s_defects_n s_defects i0 j0 = some r) : Met l y_St_coefficient w_St_coefficient ({ frames := 1, cells := 0, slots := 0, locals := 23 } : Room) (va_Pc [.ref h_s, .int i0, .int j0] (fun U => U.heap.size = sz ∧ va_P (dC, dI) cl_all [(h_s, .inr (2, [.int s_columnCount, .int s_fullRank, .ref h_s_ranks, .ref h_s_signs, .ref h_s_members, .ref h_s_starts, .ref h_s_defects])), (h_s_defects, .inl (cI, s_defects_n, .inl s_defects))] U.heap ∧ va_K (dC, dI) cl_all [(cI, .int), (cJ, .long), (cB, .byte), (cZ, .boolean), (cT, .object "BasisWalk$Table"), (cN, .object "BasisWalkModel$Num")] U ∧ NW U ∧ va_D (fun _ => True) [(h_s, .inr (2, [.int s_columnCount, .int s_fullRank, .ref h_s_ranks, .ref h_s_signs, .ref h_s_members, .ref h_s_starts, .ref h_s_defects])), (h_s_defects, .inl (cI, s_defects_n, .inl s_defects))])) (va_Ql (fun (v : Int64) (_ : Unit) => v = r) (fun (u : Unit) (t : State) => va_P (dC, dI) cl_all [(h_s, .inr (2, [.int s_columnCount, .int s_fullRank, .ref h_s_ranks, .ref h_s_signs, .ref h_s_members, .ref h_s_starts, .ref h_s_defects])), (h_s_defects, .inl (cI, s_defects_n, .inl s_defects))] t.heap ∧ va_K (dC, dI) cl_all [(cI, .int), (cJ, .long), (cB, .byte), (cZ, .boolean), (cT, .object "BasisWalk$Table"), (cN, .object "BasisWalkModel$Num")] t ∧ va_D (va_A [(h_s, .inr (2, [.int s_columnCount, .int s_fullRank, .ref h_s_ranks, .ref h_s_signs, .ref h_s_members, .ref h_s_starts, .ref h_s_defects])), (h_s_defects, .inl (cI, s_defects_n, .inl s_defects))] sz) [(h_s, .inr (2, [.int s_columnCount, .int s_fullRank, .ref h_s_ranks, .ref h_s_signs, .ref h_s_members, .ref h_s_starts, .ref h_s_defects])), (h_s_defects, .inl (cI, s_defects_n, .inl s_defects))]) (va_A [(h_s, .inr (2, [.int s_columnCount, .int s_fullRank, .ref h_s_ranks, .ref h_s_signs, .ref h_s_members, .ref h_s_starts, .ref h_s_defects])), (h_s_defects, .inl (cI, s_defects_n, .inl s_defects))] sz)) 0 0 (va_A [(h_s, .inr (2, [.int s_columnCount, .int s_fullRank, .ref h_s_ranks, .ref h_s_signs, .ref h_s_members, .ref h_s_starts, .ref h_s_defects])), (h_s_defects, .inl (cI, s_defects_n, .inl s_defects))] sz) := by
  refine Met.ofW (cc := prog_4_method_5_code) (maxL := 9) (ret := (Option.some Jvm.ClassFile.FieldType.long)) (by decide) rfl ?_
  intro p e s m args below meth c s₁ B hml hv
  obtain ⟨hAR, hsz, hP, hK, hN, hD0⟩ := hv
  have hx := B.exec
  have hb := B.bytes
  have hr := B.returns
  have hts := atoms_spec (ws := w_St_coefficient) B.pre
  have hown : s.vm.findClass "BasisWalk$Study" = some m.cls := findClass_of_methodNamed B.named
  have hlocks := B.notSynchronized
  clear B
  subst hsz
  have hD := hD0.self (sz := s.heap.size)
  generalize hAe : va_A [(h_s, .inr (2, [.int s_columnCount, .int s_fullRank, .ref h_s_ranks, .ref h_s_signs, .ref h_s_members, .ref h_s_starts, .ref h_s_defects])), (h_s_defects, .inl (cI, s_defects_n, .inl s_defects))] s.heap.size = A at hD ⊢
  have hA : ∀ q : Nat, s.heap.size ≤ q → A q := fun q h => by rw [← hAe]; exact Or.inr h
  clear hAe hD0
  have hS : va_S A s.heap s.heap [] := va_S.rf
  have hl := lv_entry ([.ref h_s, .int i0, .int j0]) (n := 9) (Nat.le_of_ble_eq_true rfl)
  subst hAR
  rw [lg_entry_eq]
  generalize (lg_sl ([.ref h_s, .int i0, .int j0]) ++ List.replicate (9 - (lg_sl ([.ref h_s, .int i0, .int j0])).length) Slot.unset).toArray = ls at hl ⊢
  have hl : lv_has ls 9 [(0, .ref h_s), (1, .int i0), (2, .int j0)] := hl
  change W p l e ({ frames := 1, cells := 0, slots := 0, locals := 23 } : Room) s m _ below meth c s.heap [] 0 0 _ _
  generalize hARe : ([.ref h_s, .int i0, .int j0] : List Value).toArray = AR at hts ⊢
  clear hARe
  generalize hQ : MQ below _ AR s 0 0 A = QQ
  have fl0 := hts _ (List.mem_cons_of_mem _ tw_33)
  have iw1 := (fun w hw => List.mem_cons_of_mem _ (in_St w hw) : ∀ w ∈ u_ws "BasisWalk$Study" T_St 7, w ∈ w_St_coefficient)
  have fl2 := hts _ (List.mem_cons_of_mem _ tw_32)
  have fl3 := hts _ (List.mem_cons_of_mem _ tw_41)
  obtain ⟨H, hHe⟩ : ∃ H : Heap, H = s.heap := ⟨_, rfl⟩
  rw [← hHe] at hP ⊢
  replace hS : va_S A s.heap H [] := by rw [hHe]; exact va_S.rf
  clear hHe
  unfold f_S_coefficient at h
  refine lv_lconst (v := 0) hx hb d_St_coefficient_0 (by decide) ?_
  refine lv_lstore_n (lv' := [(3, .long 0), (0, .ref h_s), (1, .int i0), (2, .int j0)]) hx hb d_St_coefficient_1 rfl hl (by decide) rfl (fun ls hl => ?_)
  refine lv_iload_n hx hb d_St_coefficient_2 rfl (lv_at hl 2 rfl) ?_
  refine lv_istore (lv' := [(5, .int i0), (3, .long 0), (0, .ref h_s), (1, .int i0), (2, .int j0)]) hx hb d_St_coefficient_3 hl (by decide) rfl (fun ls hl => ?_)
  refine lo2_W (r := r) (fun (v5_1 : Int32) (v3_2 : Int64) => ∀ (H : Heap) (locs : List Loc), va_P (dC, dI) cl_all [(h_s, .inr (2, [.int s_columnCount, .int s_fullRank, .ref h_s_ranks, .ref h_s_signs, .ref h_s_members, .ref h_s_starts, .ref h_s_defects])), (h_s_defects, .inl (cI, s_defects_n, .inl s_defects))] H → va_D A [(h_s, .inr (2, [.int s_columnCount, .int s_fullRank, .ref h_s_ranks, .ref h_s_signs, .ref h_s_members, .ref h_s_starts, .ref h_s_defects])), (h_s_defects, .inl (cI, s_defects_n, .inl s_defects))] → va_S A s.heap H locs → ∀ ls : Array Slot, lv_has ls 9 [(0, .ref h_s), (1, .int i0), (2, .int j0), (3, .long v3_2), (5, .int v5_1)] → W p l e ({ frames := 1, cells := 0, slots := 0, locals := 23 } : Room) s m AR below meth c H locs 0 0 QQ (F0 m 5 ls [])) ?_ _ _ _ h _ _ hP hD hS _ (lv_sub hl [2, 3, 4, 1, 0] rfl)
  intro k_5 v5_1 v3_2 J_5 h H locs hP hD hS ls hl
  refine lv_iload hx hb d_St_coefficient_5 (lv_at hl 4 rfl) ?_
  refine lv_aload_n hx hb d_St_coefficient_7 rfl (lv_at hl 0 rfl) ?_
  refine va_get (D := (dC, dI)) (ci := 2) (v := .int s_fullRank) (C := "BasisWalk$Study") (T := T_St) (N := 7) hx hb hts iw1 hown hK hP 0 rfl rfl 1 (by decide) fl0 (fun _ h9 => h9) rfl d_St_coefficient_8 ?_
  refine lv_icmp_gt (tgt := 100) hx hb d_St_coefficient_11 (by decide) (fun c_3 => ?_) (fun c_3 => ?_)
  · replace h := ck_if_t h c_3
    refine lv_lload_n hx hb d_St_coefficient_100 rfl (lv_at hl 3 rfl) ?_
    obtain rfl := Option.some.inj h
    subst hQ
    exact W.lret (v := v3_2) hx hb hr (fun t ht hW => ⟨⟨v3_2, (), rfl, rfl, by rw [ht]; exact hP, va_K.moved hW.alike hK, hD⟩, hS.F ht⟩) hS.2.2 d_St_coefficient_101
  · replace h := ck_if_f h c_3
    refine lv_iload_n hx hb d_St_coefficient_14 rfl (lv_at hl 2 rfl) ?_
    refine lv_istore (lv' := [(6, .int j0), (0, .ref h_s), (1, .int i0), (2, .int j0), (3, .long v3_2), (5, .int v5_1)]) hx hb d_St_coefficient_15 hl (by decide) rfl (fun ls hl => ?_)
    refine ck_jn_W h (fun k' => ∀ (v3_4 : Int64), k' v3_4 = some r → ∀ (H : Heap) (locs : List Loc), va_P (dC, dI) cl_all [(h_s, .inr (2, [.int s_columnCount, .int s_fullRank, .ref h_s_ranks, .ref h_s_signs, .ref h_s_members, .ref h_s_starts, .ref h_s_defects])), (h_s_defects, .inl (cI, s_defects_n, .inl s_defects))] H → va_D A [(h_s, .inr (2, [.int s_columnCount, .int s_fullRank, .ref h_s_ranks, .ref h_s_signs, .ref h_s_members, .ref h_s_starts, .ref h_s_defects])), (h_s_defects, .inl (cI, s_defects_n, .inl s_defects))] → va_S A s.heap H locs → ∀ ls : Array Slot, lv_has ls 9 [(0, .ref h_s), (1, .int i0), (2, .int j0), (3, .long v3_4), (5, .int v5_1)] → W p l e ({ frames := 1, cells := 0, slots := 0, locals := 23 } : Room) s m AR below meth c H locs 0 0 QQ (F0 m 94 ls [])) ?_ ?_
    · intro v3_4 h H locs hP hD hS ls hl
      obtain ⟨x_5, ex_5⟩ : ∃ y : Int32, y = v5_1 + 1 := ⟨_, rfl⟩
      replace h := ck_nm_s h ex_5
      refine lv_iinc (v := x_5) (lv' := [(5, .int x_5), (0, .ref h_s), (1, .int i0), (2, .int j0), (3, .long v3_4)]) hx hb d_St_coefficient_94 hl (k := 4) rfl (by rw [ex_5]; rfl) (by decide) rfl (fun ls hl => ?_)
      refine lv_goto (tgt := 5) hx hb d_St_coefficient_97 (by decide) ?_
      exact J_5 _ _ h _ _ hP hD hS _ (lv_sub hl [1, 2, 3, 4, 0] rfl)
    · intro k_94 J_94 h
      refine lo2_W (r := r) (fun (v6_6 : Int32) (v3_7 : Int64) => ∀ (H : Heap) (locs : List Loc), va_P (dC, dI) cl_all [(h_s, .inr (2, [.int s_columnCount, .int s_fullRank, .ref h_s_ranks, .ref h_s_signs, .ref h_s_members, .ref h_s_starts, .ref h_s_defects])), (h_s_defects, .inl (cI, s_defects_n, .inl s_defects))] H → va_D A [(h_s, .inr (2, [.int s_columnCount, .int s_fullRank, .ref h_s_ranks, .ref h_s_signs, .ref h_s_members, .ref h_s_starts, .ref h_s_defects])), (h_s_defects, .inl (cI, s_defects_n, .inl s_defects))] → va_S A s.heap H locs → ∀ ls : Array Slot, lv_has ls 9 [(0, .ref h_s), (1, .int i0), (2, .int j0), (3, .long v3_7), (5, .int v5_1), (6, .int v6_6)] → W p l e ({ frames := 1, cells := 0, slots := 0, locals := 23 } : Room) s m AR below meth c H locs 0 0 QQ (F0 m 17 ls [])) ?_ _ _ _ h _ _ hP hD hS _ (lv_sub hl [1, 2, 3, 4, 5, 0] rfl)
      intro k_17 v6_6 v3_7 J_17 h H locs hP hD hS ls hl
      refine lv_iload hx hb d_St_coefficient_17 (lv_at hl 5 rfl) ?_
      refine lv_aload_n hx hb d_St_coefficient_19 rfl (lv_at hl 0 rfl) ?_
      refine va_get (D := (dC, dI)) (ci := 2) (v := .int s_columnCount) (C := "BasisWalk$Study") (T := T_St) (N := 7) hx hb hts iw1 hown hK hP 0 rfl rfl 0 (by decide) fl2 (fun _ h9 => h9) rfl d_St_coefficient_20 ?_
      refine lv_aload_n hx hb d_St_coefficient_23 rfl (lv_at hl 0 rfl) ?_
      refine va_get (D := (dC, dI)) (ci := 2) (v := .int s_fullRank) (C := "BasisWalk$Study") (T := T_St) (N := 7) hx hb hts iw1 hown hK hP 0 rfl rfl 1 (by decide) fl0 (fun _ h9 => h9) rfl d_St_coefficient_24 ?_
      refine lv_isub hx hb d_St_coefficient_27 ?_
      refine lv_icmp_gt (tgt := 94) hx hb d_St_coefficient_28 (by decide) (fun c_8 => ?_) (fun c_8 => ?_)
      · replace h := ck_if_t h c_8
        exact J_94 _ h _ _ hP hD hS _ (lv_sub hl [0, 1, 2, 3, 4] rfl)
      · replace h := ck_if_f h c_8
        refine lv_iload hx hb d_St_coefficient_31 (lv_at hl 4 rfl) ?_
        refine lv_iload_n hx hb d_St_coefficient_33 rfl (lv_at hl 1 rfl) ?_
        obtain ⟨r_9, hc_10, h⟩ := ck_b1_s h
        have hPc := hP.sub (ws' := []) [] rfl
        have hDc := hD.sub (ws' := []) [] (by decide) rfl
        have hFc := va_free (wc := []) hD hS hA [] rfl
        refine va_calli (va_runSN (As := [.int v5_1, .int i0]) (rest := []) ⟨hx, hb, hml, hown, hts⟩ (c_choose l dC dI cI cJ cB cZ cT cN H.size v5_1 i0 _ hc_10) ⟨va_cnB 2 hts (tb_G tw_194) rfl rfl rfl (hN _ tn_308) (hts _ (List.mem_cons_of_mem _ tw_1)) (by decide +kernel) ⟨Nat.le_of_ble_eq_true rfl, Nat.le_of_ble_eq_true rfl⟩, hts _ (List.mem_cons_of_mem _ tw_193), trivial⟩ ⟨fun a U g mk q => by obtain ⟨q0, q1, qP, qK, qN, qD⟩ := q; exact ⟨q0, q1, qP, va_K.moved (u := U) (U := U.calling g mk a) (Vm.Alike.refl U.vm) qK, qN.same rfl, qD⟩, fun U hU hW => ⟨rfl, by rw [hU], by rw [hU]; exact hPc, va_K.moved hW.alike hK, hN.warm hW, hDc.weaken (fun _ _ _ _ => trivial)⟩⟩ rfl rfl hl.1 rfl (lv_room (Nat.le_of_ble_eq_true rfl)) d_St_coefficient_34 ⟨Nat.zero_le _, Nat.zero_le _⟩) hS (fun q _ h => hFc q h) hFc (fun rr u t H1 locs ht hvm hw hB hz1 hk1 hS => ?_)
        replace hw := hw.symm
        subst hw
        obtain ⟨hP1, -, hD1⟩ := hB
        rw [ht] at hP1
        obtain ⟨hP, hD⟩ := va_join (wr := [(h_s, .inr (2, [.int s_columnCount, .int s_fullRank, .ref h_s_ranks, .ref h_s_signs, .ref h_s_members, .ref h_s_starts, .ref h_s_defects])), (h_s_defects, .inl (cI, s_defects_n, .inl s_defects))]) (w1 := []) hP hD [] [0, 1] rfl rfl (by decide) (by decide) hk1 hFc hP1 hD1
        generalize H1 = H at hP hS ⊢
        have hP : va_P (dC, dI) cl_all [(h_s, .inr (2, [.int s_columnCount, .int s_fullRank, .ref h_s_ranks, .ref h_s_signs, .ref h_s_members, .ref h_s_starts, .ref h_s_defects])), (h_s_defects, .inl (cI, s_defects_n, .inl s_defects))] H := hP.sub [0, 1] rfl
        have hD : va_D A [(h_s, .inr (2, [.int s_columnCount, .int s_fullRank, .ref h_s_ranks, .ref h_s_signs, .ref h_s_members, .ref h_s_starts, .ref h_s_defects])), (h_s_defects, .inl (cI, s_defects_n, .inl s_defects))] := hD.sub [0, 1] (by decide) rfl
        refine lv_i2l hx hb d_St_coefficient_37 rfl ?_
        refine lv_iload hx hb d_St_coefficient_38 (lv_at hl 5 rfl) ?_
        refine lv_iload_n hx hb d_St_coefficient_40 rfl (lv_at hl 2 rfl) ?_
        obtain ⟨r_11, hc_12, h⟩ := ck_b1_s h
        have hPc := hP.sub (ws' := []) [] rfl
        have hDc := hD.sub (ws' := []) [] (by decide) rfl
        have hFc := va_free (wc := []) hD hS hA [] rfl
        refine va_calli (va_runSN (As := [.int v6_6, .int j0]) (rest := [.long r_9.toInt64]) ⟨hx, hb, hml, hown, hts⟩ (c_choose l dC dI cI cJ cB cZ cT cN H.size v6_6 j0 _ hc_12) ⟨va_cnB 2 hts (tb_G tw_194) rfl rfl rfl (hN _ tn_308) (hts _ (List.mem_cons_of_mem _ tw_1)) (by decide +kernel) ⟨Nat.le_of_ble_eq_true rfl, Nat.le_of_ble_eq_true rfl⟩, hts _ (List.mem_cons_of_mem _ tw_193), trivial⟩ ⟨fun a U g mk q => by obtain ⟨q0, q1, qP, qK, qN, qD⟩ := q; exact ⟨q0, q1, qP, va_K.moved (u := U) (U := U.calling g mk a) (Vm.Alike.refl U.vm) qK, qN.same rfl, qD⟩, fun U hU hW => ⟨rfl, by rw [hU], by rw [hU]; exact hPc, va_K.moved hW.alike hK, hN.warm hW, hDc.weaken (fun _ _ _ _ => trivial)⟩⟩ rfl rfl hl.1 rfl (lv_room (Nat.le_of_ble_eq_true rfl)) d_St_coefficient_41 ⟨Nat.zero_le _, Nat.zero_le _⟩) hS (fun q _ h => hFc q h) hFc (fun rr u t H1 locs ht hvm hw hB hz1 hk1 hS => ?_)
        replace hw := hw.symm
        subst hw
        obtain ⟨hP1, -, hD1⟩ := hB
        rw [ht] at hP1
        obtain ⟨hP, hD⟩ := va_join (wr := [(h_s, .inr (2, [.int s_columnCount, .int s_fullRank, .ref h_s_ranks, .ref h_s_signs, .ref h_s_members, .ref h_s_starts, .ref h_s_defects])), (h_s_defects, .inl (cI, s_defects_n, .inl s_defects))]) (w1 := []) hP hD [] [0, 1] rfl rfl (by decide) (by decide) hk1 hFc hP1 hD1
        generalize H1 = H at hP hS ⊢
        have hP : va_P (dC, dI) cl_all [(h_s, .inr (2, [.int s_columnCount, .int s_fullRank, .ref h_s_ranks, .ref h_s_signs, .ref h_s_members, .ref h_s_starts, .ref h_s_defects])), (h_s_defects, .inl (cI, s_defects_n, .inl s_defects))] H := hP.sub [0, 1] rfl
        have hD : va_D A [(h_s, .inr (2, [.int s_columnCount, .int s_fullRank, .ref h_s_ranks, .ref h_s_signs, .ref h_s_members, .ref h_s_starts, .ref h_s_defects])), (h_s_defects, .inl (cI, s_defects_n, .inl s_defects))] := hD.sub [0, 1] (by decide) rfl
        refine lv_i2l hx hb d_St_coefficient_44 rfl ?_
        refine lv_lmul hx hb d_St_coefficient_45 ?_
        refine lv_aload_n hx hb d_St_coefficient_46 rfl (lv_at hl 0 rfl) ?_
        refine va_get (D := (dC, dI)) (ci := 2) (v := .ref h_s_defects) (C := "BasisWalk$Study") (T := T_St) (N := 7) hx hb hts iw1 hown hK hP 0 rfl rfl 6 (by decide) fl3 (fun _ h9 => h9) rfl d_St_coefficient_47 ?_
        refine lv_iload hx hb d_St_coefficient_50 (lv_at hl 4 rfl) ?_
        refine lv_bipush (v := 13) hx hb d_St_coefficient_52 (by decide) ?_
        refine lv_imul hx hb d_St_coefficient_54 ?_
        refine lv_iload hx hb d_St_coefficient_55 (lv_at hl 5 rfl) ?_
        refine lv_iadd hx hb d_St_coefficient_57 ?_
        obtain ⟨g_13, h⟩ := ck_in_s h
        refine va_iald hx hb hK hP 1 0 rfl rfl g_13 d_St_coefficient_58 ?_
        refine lv_i2l hx hb d_St_coefficient_59 rfl ?_
        refine lv_lmul hx hb d_St_coefficient_60 ?_
        refine lv_topl (fun x_14 ex_14 => ?_)
        replace h := ck_nm_s h ex_14
        refine lv_lstore (lv' := [(7, .long x_14), (0, .ref h_s), (1, .int i0), (2, .int j0), (3, .long v3_7), (5, .int v5_1), (6, .int v6_6)]) hx hb d_St_coefficient_61 hl (by decide) rfl (fun ls hl => ?_)
        refine lv_lload_n hx hb d_St_coefficient_63 rfl (lv_at hl 4 rfl) ?_
        refine lv_iload hx hb d_St_coefficient_64 (lv_at hl 5 rfl) ?_
        refine lv_iload_n hx hb d_St_coefficient_66 rfl (lv_at hl 2 rfl) ?_
        refine lv_isub hx hb d_St_coefficient_67 ?_
        refine lv_iload hx hb d_St_coefficient_68 (lv_at hl 6 rfl) ?_
        refine lv_iadd hx hb d_St_coefficient_70 ?_
        refine lv_iload_n hx hb d_St_coefficient_71 rfl (lv_at hl 3 rfl) ?_
        refine lv_isub hx hb d_St_coefficient_72 ?_
        refine lv_iconst (v := 2) hx hb d_St_coefficient_73 (by decide) ?_
        refine lv_irem hx hb d_St_coefficient_74 (by decide) ?_
        refine ck_jn_W h (fun k' => ∀ (s0_15 : Int64), k' s0_15 = some r → ∀ (H : Heap) (locs : List Loc), va_P (dC, dI) cl_all [(h_s, .inr (2, [.int s_columnCount, .int s_fullRank, .ref h_s_ranks, .ref h_s_signs, .ref h_s_members, .ref h_s_starts, .ref h_s_defects])), (h_s_defects, .inl (cI, s_defects_n, .inl s_defects))] H → va_D A [(h_s, .inr (2, [.int s_columnCount, .int s_fullRank, .ref h_s_ranks, .ref h_s_signs, .ref h_s_members, .ref h_s_starts, .ref h_s_defects])), (h_s_defects, .inl (cI, s_defects_n, .inl s_defects))] → va_S A s.heap H locs → ∀ ls : Array Slot, lv_has ls 9 [(0, .ref h_s), (1, .int i0), (2, .int j0), (5, .int v5_1), (6, .int v6_6)] → W p l e ({ frames := 1, cells := 0, slots := 0, locals := 23 } : Room) s m AR below meth c H locs 0 0 QQ (F0 m 86 ls [.long s0_15, .long v3_7])) ?_ ?_
        · intro s0_15 h H locs hP hD hS ls hl
          refine lv_ladd hx hb d_St_coefficient_86 ?_
          refine lv_topl (fun x_16 ex_16 => ?_)
          replace h := ck_nm_s h ex_16
          refine lv_lstore_n (lv' := [(3, .long x_16), (0, .ref h_s), (1, .int i0), (2, .int j0), (5, .int v5_1), (6, .int v6_6)]) hx hb d_St_coefficient_87 rfl hl (by decide) rfl (fun ls hl => ?_)
          obtain ⟨x_17, ex_17⟩ : ∃ y : Int32, y = v6_6 + 1 := ⟨_, rfl⟩
          replace h := ck_nm_s h ex_17
          refine lv_iinc (v := x_17) (lv' := [(6, .int x_17), (3, .long x_16), (0, .ref h_s), (1, .int i0), (2, .int j0), (5, .int v5_1)]) hx hb d_St_coefficient_88 hl (k := 5) rfl (by rw [ex_17]; rfl) (by decide) rfl (fun ls hl => ?_)
          refine lv_goto (tgt := 17) hx hb d_St_coefficient_91 (by decide) ?_
          exact J_17 _ _ h _ _ hP hD hS _ (lv_sub hl [2, 3, 4, 1, 5, 0] rfl)
        · intro k_86 J_86 h
          refine lv_if_ne (tgt := 83) hx hb d_St_coefficient_75 (by decide) (fun c_18 => ?_) (fun c_18 => ?_)
          · replace h := ck_if_f h c_18
            refine lv_lload hx hb d_St_coefficient_83 (lv_at hl 0 rfl) ?_
            refine lv_lneg hx hb d_St_coefficient_85 ?_
            exact J_86 _ h _ _ hP hD hS _ (lv_sub hl [1, 2, 3, 5, 6] rfl)
          · replace h := ck_if_t h c_18
            refine lv_lload hx hb d_St_coefficient_78 (lv_at hl 0 rfl) ?_
            refine lv_goto (tgt := 86) hx hb d_St_coefficient_80 (by decide) ?_
            exact J_86 _ h _ _ hP hD hS _ (lv_sub hl [1, 2, 3, 5, 6] rfl)
theorem d_St_widened_0 : decode prog_4_method_7_code 0 = .ok (.iload_n 1, 1) := by decide +kernel
theorem d_St_widened_1 : decode prog_4_method_7_code 1 = .ok (.istore_n 2, 1) := by decide +kernel
theorem d_St_widened_2 : decode prog_4_method_7_code 2 = .ok (.iconst 0, 1) := by decide +kernel
theorem d_St_widened_3 : decode prog_4_method_7_code 3 = .ok (.istore_n 3, 1) := by decide +kernel
theorem d_St_widened_4 : decode prog_4_method_7_code 4 = .ok (.iload_n 3, 1) := by decide +kernel
theorem d_St_widened_5 : decode prog_4_method_7_code 5 = .ok (.aload_n 0, 1) := by decide +kernel
theorem d_St_widened_6 : decode prog_4_method_7_code 6 = .ok (.getfield 33, 3) := by decide +kernel
theorem d_St_widened_9 : decode prog_4_method_7_code 9 = .ok (.if_icmp .ge 34, 3) := by decide +kernel
theorem d_St_widened_12 : decode prog_4_method_7_code 12 = .ok (.aload_n 0, 1) := by decide +kernel
theorem d_St_widened_13 : decode prog_4_method_7_code 13 = .ok (.getfield 9, 3) := by decide +kernel
theorem d_St_widened_16 : decode prog_4_method_7_code 16 = .ok (.iload_n 2, 1) := by decide +kernel
theorem d_St_widened_17 : decode prog_4_method_7_code 17 = .ok (.iconst 1, 1) := by decide +kernel
theorem d_St_widened_18 : decode prog_4_method_7_code 18 = .ok (.iload_n 3, 1) := by decide +kernel
theorem d_St_widened_19 : decode prog_4_method_7_code 19 = .ok (.ishl, 1) := by decide +kernel
theorem d_St_widened_20 : decode prog_4_method_7_code 20 = .ok (.ior, 1) := by decide +kernel
theorem d_St_widened_21 : decode prog_4_method_7_code 21 = .ok (.iaload, 1) := by decide +kernel
theorem d_St_widened_22 : decode prog_4_method_7_code 22 = .ok (.aload_n 0, 1) := by decide +kernel
theorem d_St_widened_23 : decode prog_4_method_7_code 23 = .ok (.getfield 9, 3) := by decide +kernel
theorem d_St_widened_26 : decode prog_4_method_7_code 26 = .ok (.iload_n 2, 1) := by decide +kernel
theorem d_St_widened_27 : decode prog_4_method_7_code 27 = .ok (.iaload, 1) := by decide +kernel
theorem d_St_widened_28 : decode prog_4_method_7_code 28 = .ok (.if_icmp .le 9, 3) := by decide +kernel
theorem d_St_widened_31 : decode prog_4_method_7_code 31 = .ok (.iload_n 2, 1) := by decide +kernel
theorem d_St_widened_32 : decode prog_4_method_7_code 32 = .ok (.iconst 1, 1) := by decide +kernel
theorem d_St_widened_33 : decode prog_4_method_7_code 33 = .ok (.iload_n 3, 1) := by decide +kernel
theorem d_St_widened_34 : decode prog_4_method_7_code 34 = .ok (.ishl, 1) := by decide +kernel
theorem d_St_widened_35 : decode prog_4_method_7_code 35 = .ok (.ior, 1) := by decide +kernel
theorem d_St_widened_36 : decode prog_4_method_7_code 36 = .ok (.istore_n 2, 1) := by decide +kernel
theorem d_St_widened_37 : decode prog_4_method_7_code 37 = .ok (.iinc 3 1, 3) := by decide +kernel
theorem d_St_widened_40 : decode prog_4_method_7_code 40 = .ok (.goto (-36), 3) := by decide +kernel
theorem d_St_widened_43 : decode prog_4_method_7_code 43 = .ok (.iload_n 2, 1) := by decide +kernel
theorem d_St_widened_44 : decode prog_4_method_7_code 44 = .ok (.ireturn, 1) := by decide +kernel
def f_S_widened (s_columnCount : Int32) (s_ranks_n : Nat) (s_ranks : Nat → Int32) (set0 : Int32) : Option (Int32) :=
  lo2 (fun k_4 (v3_1 : Int32) (v2_2 : Int32) => ck_if (s_columnCount ≤ v3_1) (some v2_2) (ck_in (v2_2 ||| ((1 : Int32) <<< (v3_1 &&& 31))) s_ranks_n <| ck_in v2_2 s_ranks_n <| ck_jn (fun (v2_6 : Int32) => ck_nm (v3_1 + 1) <| fun x_7 => k_4 x_7 v2_6) <| fun k_37 => ck_if ((s_ranks (v2_2 ||| ((1 : Int32) <<< (v3_1 &&& 31))).toNatClampNeg) ≤ (s_ranks v2_2.toNatClampNeg)) (k_37 v2_2) (ck_nm (v2_2 ||| ((1 : Int32) <<< (v3_1 &&& 31))) <| fun x_9 => k_37 x_9))) ck_F 0 set0
set_option maxHeartbeats 4000000 in
set_option maxRecDepth 100000 in
theorem c_S_widened (l : Launch) (dC : Nat → ClassId) (dI : Nat → Nat → Nat) (cI cJ cB cZ cT cN : ClassId) (sz : Nat) (h_s : Nat) (h_s_ranks : Nat) (h_s_signs : Nat) (h_s_members : Nat) (h_s_starts : Nat) (h_s_defects : Nat) (s_columnCount : Int32) (s_fullRank : Int32) (s_ranks_n : Nat) (s_ranks : Nat → Int32) (set0 : Int32) (r : Int32) (h : f_S_widened s_columnCount s_ranks_n s_ranks set0 = some r) : Met l y_St_widened w_St_widened ({ frames := 0, cells := 0, slots := 0, locals := 0 } : Room) (va_Pc [.ref h_s, .int set0] (fun U => U.heap.size = sz ∧ va_P (dC, dI) cl_all [(h_s, .inr (2, [.int s_columnCount, .int s_fullRank, .ref h_s_ranks, .ref h_s_signs, .ref h_s_members, .ref h_s_starts, .ref h_s_defects])), (h_s_ranks, .inl (cI, s_ranks_n, .inl s_ranks))] U.heap ∧ va_K (dC, dI) cl_all [(cI, .int), (cJ, .long), (cB, .byte), (cZ, .boolean), (cT, .object "BasisWalk$Table"), (cN, .object "BasisWalkModel$Num")] U ∧ NW U ∧ va_D (fun _ => True) [(h_s, .inr (2, [.int s_columnCount, .int s_fullRank, .ref h_s_ranks, .ref h_s_signs, .ref h_s_members, .ref h_s_starts, .ref h_s_defects])), (h_s_ranks, .inl (cI, s_ranks_n, .inl s_ranks))])) (va_Qi (fun (v : Int32) (_ : Unit) => v = r) (fun (u : Unit) (t : State) => va_P (dC, dI) cl_all [(h_s, .inr (2, [.int s_columnCount, .int s_fullRank, .ref h_s_ranks, .ref h_s_signs, .ref h_s_members, .ref h_s_starts, .ref h_s_defects])), (h_s_ranks, .inl (cI, s_ranks_n, .inl s_ranks))] t.heap ∧ va_K (dC, dI) cl_all [(cI, .int), (cJ, .long), (cB, .byte), (cZ, .boolean), (cT, .object "BasisWalk$Table"), (cN, .object "BasisWalkModel$Num")] t ∧ va_D (va_A [(h_s, .inr (2, [.int s_columnCount, .int s_fullRank, .ref h_s_ranks, .ref h_s_signs, .ref h_s_members, .ref h_s_starts, .ref h_s_defects])), (h_s_ranks, .inl (cI, s_ranks_n, .inl s_ranks))] sz) [(h_s, .inr (2, [.int s_columnCount, .int s_fullRank, .ref h_s_ranks, .ref h_s_signs, .ref h_s_members, .ref h_s_starts, .ref h_s_defects])), (h_s_ranks, .inl (cI, s_ranks_n, .inl s_ranks))]) (va_A [(h_s, .inr (2, [.int s_columnCount, .int s_fullRank, .ref h_s_ranks, .ref h_s_signs, .ref h_s_members, .ref h_s_starts, .ref h_s_defects])), (h_s_ranks, .inl (cI, s_ranks_n, .inl s_ranks))] sz)) 0 0 (va_A [(h_s, .inr (2, [.int s_columnCount, .int s_fullRank, .ref h_s_ranks, .ref h_s_signs, .ref h_s_members, .ref h_s_starts, .ref h_s_defects])), (h_s_ranks, .inl (cI, s_ranks_n, .inl s_ranks))] sz) := by
  refine Met.ofW (cc := prog_4_method_7_code) (maxL := 4) (ret := (Option.some Jvm.ClassFile.FieldType.int)) (by decide) rfl ?_
  intro p e s m args below meth c s₁ B hml hv
  obtain ⟨hAR, hsz, hP, hK, hN, hD0⟩ := hv
  have hx := B.exec
  have hb := B.bytes
  have hr := B.returns
  have hts := atoms_spec (ws := w_St_widened) B.pre
  have hown : s.vm.findClass "BasisWalk$Study" = some m.cls := findClass_of_methodNamed B.named
  have hlocks := B.notSynchronized
  clear B
  subst hsz
  have hD := hD0.self (sz := s.heap.size)
  generalize hAe : va_A [(h_s, .inr (2, [.int s_columnCount, .int s_fullRank, .ref h_s_ranks, .ref h_s_signs, .ref h_s_members, .ref h_s_starts, .ref h_s_defects])), (h_s_ranks, .inl (cI, s_ranks_n, .inl s_ranks))] s.heap.size = A at hD ⊢
  have hA : ∀ q : Nat, s.heap.size ≤ q → A q := fun q h => by rw [← hAe]; exact Or.inr h
  clear hAe hD0
  have hS : va_S A s.heap s.heap [] := va_S.rf
  have hl := lv_entry ([.ref h_s, .int set0]) (n := 4) (Nat.le_of_ble_eq_true rfl)
  subst hAR
  rw [lg_entry_eq]
  generalize (lg_sl ([.ref h_s, .int set0]) ++ List.replicate (4 - (lg_sl ([.ref h_s, .int set0])).length) Slot.unset).toArray = ls at hl ⊢
  have hl : lv_has ls 4 [(0, .ref h_s), (1, .int set0)] := hl
  change W p l e ({ frames := 0, cells := 0, slots := 0, locals := 0 } : Room) s m _ below meth c s.heap [] 0 0 _ _
  generalize hARe : ([.ref h_s, .int set0] : List Value).toArray = AR at hts ⊢
  clear hARe
  generalize hQ : MQ below _ AR s 0 0 A = QQ
  have fl0 := hts _ (List.mem_cons_of_mem _ tw_32)
  have iw1 := (fun w hw => List.mem_cons_of_mem _ (in_St w hw) : ∀ w ∈ u_ws "BasisWalk$Study" T_St 7, w ∈ w_St_widened)
  have fl2 := hts _ (List.mem_cons_of_mem _ tw_35)
  obtain ⟨H, hHe⟩ : ∃ H : Heap, H = s.heap := ⟨_, rfl⟩
  rw [← hHe] at hP ⊢
  replace hS : va_S A s.heap H [] := by rw [hHe]; exact va_S.rf
  clear hHe
  unfold f_S_widened at h
  refine lv_iload_n hx hb d_St_widened_0 rfl (lv_at hl 1 rfl) ?_
  refine lv_istore_n (lv' := [(2, .int set0), (0, .ref h_s), (1, .int set0)]) hx hb d_St_widened_1 rfl hl (by decide) rfl (fun ls hl => ?_)
  refine lv_iconst (v := 0) hx hb d_St_widened_2 (by decide) ?_
  refine lv_istore_n (lv' := [(3, .int 0), (2, .int set0), (0, .ref h_s), (1, .int set0)]) hx hb d_St_widened_3 rfl hl (by decide) rfl (fun ls hl => ?_)
  refine lo2_W (r := r) (fun (v3_1 : Int32) (v2_2 : Int32) => ∀ (H : Heap) (locs : List Loc), va_P (dC, dI) cl_all [(h_s, .inr (2, [.int s_columnCount, .int s_fullRank, .ref h_s_ranks, .ref h_s_signs, .ref h_s_members, .ref h_s_starts, .ref h_s_defects])), (h_s_ranks, .inl (cI, s_ranks_n, .inl s_ranks))] H → va_D A [(h_s, .inr (2, [.int s_columnCount, .int s_fullRank, .ref h_s_ranks, .ref h_s_signs, .ref h_s_members, .ref h_s_starts, .ref h_s_defects])), (h_s_ranks, .inl (cI, s_ranks_n, .inl s_ranks))] → va_S A s.heap H locs → ∀ ls : Array Slot, lv_has ls 4 [(0, .ref h_s), (2, .int v2_2), (3, .int v3_1)] → W p l e ({ frames := 0, cells := 0, slots := 0, locals := 0 } : Room) s m AR below meth c H locs 0 0 QQ (F0 m 4 ls [])) ?_ _ _ _ h _ _ hP hD hS _ (lv_sub hl [2, 1, 0] rfl)
  intro k_4 v3_1 v2_2 J_4 h H locs hP hD hS ls hl
  refine lv_iload_n hx hb d_St_widened_4 rfl (lv_at hl 2 rfl) ?_
  refine lv_aload_n hx hb d_St_widened_5 rfl (lv_at hl 0 rfl) ?_
  refine va_get (D := (dC, dI)) (ci := 2) (v := .int s_columnCount) (C := "BasisWalk$Study") (T := T_St) (N := 7) hx hb hts iw1 hown hK hP 0 rfl rfl 0 (by decide) fl0 (fun _ h9 => h9) rfl d_St_widened_6 ?_
  refine lv_icmp_ge (tgt := 43) hx hb d_St_widened_9 (by decide) (fun c_3 => ?_) (fun c_3 => ?_)
  · replace h := ck_if_t h c_3
    refine lv_iload_n hx hb d_St_widened_43 rfl (lv_at hl 1 rfl) ?_
    obtain rfl := Option.some.inj h
    subst hQ
    exact W.iret (v := v2_2) hx hb hr (fun t ht hW => ⟨⟨v2_2, (), rfl, rfl, by rw [ht]; exact hP, va_K.moved hW.alike hK, hD⟩, hS.F ht⟩) hS.2.2 d_St_widened_44
  · replace h := ck_if_f h c_3
    refine lv_aload_n hx hb d_St_widened_12 rfl (lv_at hl 0 rfl) ?_
    refine va_get (D := (dC, dI)) (ci := 2) (v := .ref h_s_ranks) (C := "BasisWalk$Study") (T := T_St) (N := 7) hx hb hts iw1 hown hK hP 0 rfl rfl 2 (by decide) fl2 (fun _ h9 => h9) rfl d_St_widened_13 ?_
    refine lv_iload_n hx hb d_St_widened_16 rfl (lv_at hl 1 rfl) ?_
    refine lv_iconst (v := 1) hx hb d_St_widened_17 (by decide) ?_
    refine lv_iload_n hx hb d_St_widened_18 rfl (lv_at hl 2 rfl) ?_
    refine lv_ishl hx hb d_St_widened_19 ?_
    refine lv_ior hx hb d_St_widened_20 ?_
    obtain ⟨g_4, h⟩ := ck_in_s h
    refine va_iald hx hb hK hP 1 0 rfl rfl g_4 d_St_widened_21 ?_
    refine lv_aload_n hx hb d_St_widened_22 rfl (lv_at hl 0 rfl) ?_
    refine va_get (D := (dC, dI)) (ci := 2) (v := .ref h_s_ranks) (C := "BasisWalk$Study") (T := T_St) (N := 7) hx hb hts iw1 hown hK hP 0 rfl rfl 2 (by decide) fl2 (fun _ h9 => h9) rfl d_St_widened_23 ?_
    refine lv_iload_n hx hb d_St_widened_26 rfl (lv_at hl 1 rfl) ?_
    obtain ⟨g_5, h⟩ := ck_in_s h
    refine va_iald hx hb hK hP 1 0 rfl rfl g_5 d_St_widened_27 ?_
    refine ck_jn_W h (fun k' => ∀ (v2_6 : Int32), k' v2_6 = some r → ∀ (H : Heap) (locs : List Loc), va_P (dC, dI) cl_all [(h_s, .inr (2, [.int s_columnCount, .int s_fullRank, .ref h_s_ranks, .ref h_s_signs, .ref h_s_members, .ref h_s_starts, .ref h_s_defects])), (h_s_ranks, .inl (cI, s_ranks_n, .inl s_ranks))] H → va_D A [(h_s, .inr (2, [.int s_columnCount, .int s_fullRank, .ref h_s_ranks, .ref h_s_signs, .ref h_s_members, .ref h_s_starts, .ref h_s_defects])), (h_s_ranks, .inl (cI, s_ranks_n, .inl s_ranks))] → va_S A s.heap H locs → ∀ ls : Array Slot, lv_has ls 4 [(0, .ref h_s), (2, .int v2_6), (3, .int v3_1)] → W p l e ({ frames := 0, cells := 0, slots := 0, locals := 0 } : Room) s m AR below meth c H locs 0 0 QQ (F0 m 37 ls [])) ?_ ?_
    · intro v2_6 h H locs hP hD hS ls hl
      obtain ⟨x_7, ex_7⟩ : ∃ y : Int32, y = v3_1 + 1 := ⟨_, rfl⟩
      replace h := ck_nm_s h ex_7
      refine lv_iinc (v := x_7) (lv' := [(3, .int x_7), (0, .ref h_s), (2, .int v2_6)]) hx hb d_St_widened_37 hl (k := 2) rfl (by rw [ex_7]; rfl) (by decide) rfl (fun ls hl => ?_)
      refine lv_goto (tgt := 4) hx hb d_St_widened_40 (by decide) ?_
      exact J_4 _ _ h _ _ hP hD hS _ (lv_sub hl [1, 2, 0] rfl)
    · intro k_37 J_37 h
      refine lv_icmp_le (tgt := 37) hx hb d_St_widened_28 (by decide) (fun c_8 => ?_) (fun c_8 => ?_)
      · replace h := ck_if_t h c_8
        exact J_37 _ h _ _ hP hD hS _ (lv_sub hl [0, 1, 2] rfl)
      · replace h := ck_if_f h c_8
        refine lv_iload_n hx hb d_St_widened_31 rfl (lv_at hl 1 rfl) ?_
        refine lv_iconst (v := 1) hx hb d_St_widened_32 (by decide) ?_
        refine lv_iload_n hx hb d_St_widened_33 rfl (lv_at hl 2 rfl) ?_
        refine lv_ishl hx hb d_St_widened_34 ?_
        refine lv_ior hx hb d_St_widened_35 ?_
        refine lv_topi (fun x_9 ex_9 => ?_)
        replace h := ck_nm_s h ex_9
        refine lv_istore_n (lv' := [(2, .int x_9), (0, .ref h_s), (3, .int v3_1)]) hx hb d_St_widened_36 rfl hl (by decide) rfl (fun ls hl => ?_)
        exact J_37 _ h _ _ hP hD hS _ (lv_sub hl [1, 0, 2] rfl)
theorem d_St_negativePart_0 : decode prog_4_method_6_code 0 = .ok (.aload_n 0, 1) := by decide +kernel
theorem d_St_negativePart_1 : decode prog_4_method_6_code 1 = .ok (.iload_n 1, 1) := by decide +kernel
theorem d_St_negativePart_2 : decode prog_4_method_6_code 2 = .ok (.invokevirtual 66, 3) := by decide +kernel
theorem d_St_negativePart_5 : decode prog_4_method_6_code 5 = .ok (.istore_n 2, 1) := by decide +kernel
theorem d_St_negativePart_6 : decode prog_4_method_6_code 6 = .ok (.iconst 0, 1) := by decide +kernel
theorem d_St_negativePart_7 : decode prog_4_method_6_code 7 = .ok (.istore_n 3, 1) := by decide +kernel
theorem d_St_negativePart_8 : decode prog_4_method_6_code 8 = .ok (.iconst 0, 1) := by decide +kernel
theorem d_St_negativePart_9 : decode prog_4_method_6_code 9 = .ok (.istore 4, 2) := by decide +kernel
theorem d_St_negativePart_11 : decode prog_4_method_6_code 11 = .ok (.iconst 1, 1) := by decide +kernel
theorem d_St_negativePart_12 : decode prog_4_method_6_code 12 = .ok (.istore 5, 2) := by decide +kernel
theorem d_St_negativePart_14 : decode prog_4_method_6_code 14 = .ok (.iconst 0, 1) := by decide +kernel
theorem d_St_negativePart_15 : decode prog_4_method_6_code 15 = .ok (.istore 6, 2) := by decide +kernel
theorem d_St_negativePart_17 : decode prog_4_method_6_code 17 = .ok (.iload 6, 2) := by decide +kernel
theorem d_St_negativePart_19 : decode prog_4_method_6_code 19 = .ok (.aload_n 0, 1) := by decide +kernel
theorem d_St_negativePart_20 : decode prog_4_method_6_code 20 = .ok (.getfield 33, 3) := by decide +kernel
theorem d_St_negativePart_23 : decode prog_4_method_6_code 23 = .ok (.if_icmp .ge 83, 3) := by decide +kernel
theorem d_St_negativePart_26 : decode prog_4_method_6_code 26 = .ok (.iconst 1, 1) := by decide +kernel
theorem d_St_negativePart_27 : decode prog_4_method_6_code 27 = .ok (.iload 6, 2) := by decide +kernel
theorem d_St_negativePart_29 : decode prog_4_method_6_code 29 = .ok (.ishl, 1) := by decide +kernel
theorem d_St_negativePart_30 : decode prog_4_method_6_code 30 = .ok (.istore 7, 2) := by decide +kernel
theorem d_St_negativePart_32 : decode prog_4_method_6_code 32 = .ok (.iload_n 1, 1) := by decide +kernel
theorem d_St_negativePart_33 : decode prog_4_method_6_code 33 = .ok (.iload 7, 2) := by decide +kernel
theorem d_St_negativePart_35 : decode prog_4_method_6_code 35 = .ok (.iand, 1) := by decide +kernel
theorem d_St_negativePart_36 : decode prog_4_method_6_code 36 = .ok (.ifCond .eq 47, 3) := by decide +kernel
theorem d_St_negativePart_39 : decode prog_4_method_6_code 39 = .ok (.iload 5, 2) := by decide +kernel
theorem d_St_negativePart_41 : decode prog_4_method_6_code 41 = .ok (.aload_n 0, 1) := by decide +kernel
theorem d_St_negativePart_42 : decode prog_4_method_6_code 42 = .ok (.getfield 15, 3) := by decide +kernel
theorem d_St_negativePart_45 : decode prog_4_method_6_code 45 = .ok (.iload_n 2, 1) := by decide +kernel
theorem d_St_negativePart_46 : decode prog_4_method_6_code 46 = .ok (.iload 7, 2) := by decide +kernel
theorem d_St_negativePart_48 : decode prog_4_method_6_code 48 = .ok (.ixor, 1) := by decide +kernel
theorem d_St_negativePart_49 : decode prog_4_method_6_code 49 = .ok (.iaload, 1) := by decide +kernel
theorem d_St_negativePart_50 : decode prog_4_method_6_code 50 = .ok (.imul, 1) := by decide +kernel
theorem d_St_negativePart_51 : decode prog_4_method_6_code 51 = .ok (.istore 8, 2) := by decide +kernel
theorem d_St_negativePart_53 : decode prog_4_method_6_code 53 = .ok (.iload 4, 2) := by decide +kernel
theorem d_St_negativePart_55 : decode prog_4_method_6_code 55 = .ok (.ifCond .ne 8, 3) := by decide +kernel
theorem d_St_negativePart_58 : decode prog_4_method_6_code 58 = .ok (.iload 8, 2) := by decide +kernel
theorem d_St_negativePart_60 : decode prog_4_method_6_code 60 = .ok (.goto 5, 3) := by decide +kernel
theorem d_St_negativePart_63 : decode prog_4_method_6_code 63 = .ok (.iload 4, 2) := by decide +kernel
theorem d_St_negativePart_65 : decode prog_4_method_6_code 65 = .ok (.istore 4, 2) := by decide +kernel
theorem d_St_negativePart_67 : decode prog_4_method_6_code 67 = .ok (.iload_n 3, 1) := by decide +kernel
theorem d_St_negativePart_68 : decode prog_4_method_6_code 68 = .ok (.iload 8, 2) := by decide +kernel
theorem d_St_negativePart_70 : decode prog_4_method_6_code 70 = .ok (.iload 4, 2) := by decide +kernel
theorem d_St_negativePart_72 : decode prog_4_method_6_code 72 = .ok (.if_icmp .ne 7, 3) := by decide +kernel
theorem d_St_negativePart_75 : decode prog_4_method_6_code 75 = .ok (.iconst 0, 1) := by decide +kernel
theorem d_St_negativePart_76 : decode prog_4_method_6_code 76 = .ok (.goto 5, 3) := by decide +kernel
theorem d_St_negativePart_79 : decode prog_4_method_6_code 79 = .ok (.iload 7, 2) := by decide +kernel
theorem d_St_negativePart_81 : decode prog_4_method_6_code 81 = .ok (.ior, 1) := by decide +kernel
theorem d_St_negativePart_82 : decode prog_4_method_6_code 82 = .ok (.istore_n 3, 1) := by decide +kernel
theorem d_St_negativePart_83 : decode prog_4_method_6_code 83 = .ok (.iload_n 2, 1) := by decide +kernel
theorem d_St_negativePart_84 : decode prog_4_method_6_code 84 = .ok (.iload 7, 2) := by decide +kernel
theorem d_St_negativePart_86 : decode prog_4_method_6_code 86 = .ok (.iand, 1) := by decide +kernel
theorem d_St_negativePart_87 : decode prog_4_method_6_code 87 = .ok (.ifCond .eq 9, 3) := by decide +kernel
theorem d_St_negativePart_90 : decode prog_4_method_6_code 90 = .ok (.iload 5, 2) := by decide +kernel
theorem d_St_negativePart_92 : decode prog_4_method_6_code 92 = .ok (.ineg, 1) := by decide +kernel
theorem d_St_negativePart_93 : decode prog_4_method_6_code 93 = .ok (.goto 5, 3) := by decide +kernel
theorem d_St_negativePart_96 : decode prog_4_method_6_code 96 = .ok (.iload 5, 2) := by decide +kernel
theorem d_St_negativePart_98 : decode prog_4_method_6_code 98 = .ok (.istore 5, 2) := by decide +kernel
theorem d_St_negativePart_100 : decode prog_4_method_6_code 100 = .ok (.iinc 6 1, 3) := by decide +kernel
theorem d_St_negativePart_103 : decode prog_4_method_6_code 103 = .ok (.goto (-86), 3) := by decide +kernel
theorem d_St_negativePart_106 : decode prog_4_method_6_code 106 = .ok (.iload_n 3, 1) := by decide +kernel
theorem d_St_negativePart_107 : decode prog_4_method_6_code 107 = .ok (.ireturn, 1) := by decide +kernel
def f_S_negativePart (s_columnCount : Int32) (s_ranks_n : Nat) (s_ranks : Nat → Int32) (s_signs_n : Nat) (s_signs : Nat → Int32) (cir0 : Int32) : Option (Int32) :=
  ck_b1 (f_S_widened s_columnCount s_ranks_n s_ranks cir0) <| fun r_1 => lo4 (fun k_17 (v6_3 : Int32) (v5_4 : Int32) (v4_5 : Int32) (v3_6 : Int32) => ck_if (s_columnCount ≤ v6_3) (some v3_6) (ck_nm ((1 : Int32) <<< (v6_3 &&& 31)) <| fun x_8 => ck_jn (fun (v3_9 : Int32) (v4_10 : Int32) => ck_jn (fun (s0_11 : Int32) => ck_nm (v6_3 + 1) <| fun x_12 => k_17 x_12 s0_11 v4_10 v3_9) <| fun k_98 => ck_if ((r_1 &&& x_8) = 0) (k_98 v5_4) (k_98 (-v5_4))) <| fun k_83 => ck_if ((cir0 &&& x_8) = 0) (k_83 v3_6 v4_5) (ck_in (r_1 ^^^ x_8) s_signs_n <| ck_nm (v5_4 * (s_signs (r_1 ^^^ x_8).toNatClampNeg)) <| fun x_16 => ck_jn (fun (s0_17 : Int32) => ck_jn (fun (s0_18 : Int32) => ck_nm (v3_6 ||| s0_18) <| fun x_19 => k_83 x_19 s0_17) <| fun k_81 => ck_if (x_16 = s0_17) (k_81 0) (k_81 x_8)) <| fun k_65 => ck_if (v4_5 = 0) (k_65 x_16) (k_65 v4_5)))) ck_F 0 1 0 0
set_option maxHeartbeats 4000000 in
set_option maxRecDepth 100000 in
theorem c_S_negativePart (l : Launch) (dC : Nat → ClassId) (dI : Nat → Nat → Nat) (cI cJ cB cZ cT cN : ClassId) (sz : Nat) (h_s : Nat) (h_s_ranks : Nat) (h_s_signs : Nat) (h_s_members : Nat) (h_s_starts : Nat) (h_s_defects : Nat) (s_columnCount : Int32) (s_fullRank : Int32) (s_ranks_n : Nat) (s_ranks : Nat → Int32) (s_signs_n : Nat) (s_signs : Nat → Int32) (cir0 : Int32) (r : Int32) (h : f_S_negativePart s_columnCount s_ranks_n s_ranks s_signs_n s_signs cir0 = some r) : Met l y_St_negativePart w_St_negativePart ({ frames := 1, cells := 0, slots := 0, locals := 23 } : Room) (va_Pc [.ref h_s, .int cir0] (fun U => U.heap.size = sz ∧ va_P (dC, dI) cl_all [(h_s, .inr (2, [.int s_columnCount, .int s_fullRank, .ref h_s_ranks, .ref h_s_signs, .ref h_s_members, .ref h_s_starts, .ref h_s_defects])), (h_s_ranks, .inl (cI, s_ranks_n, .inl s_ranks)), (h_s_signs, .inl (cI, s_signs_n, .inl s_signs))] U.heap ∧ va_K (dC, dI) cl_all [(cI, .int), (cJ, .long), (cB, .byte), (cZ, .boolean), (cT, .object "BasisWalk$Table"), (cN, .object "BasisWalkModel$Num")] U ∧ NW U ∧ va_D (fun _ => True) [(h_s, .inr (2, [.int s_columnCount, .int s_fullRank, .ref h_s_ranks, .ref h_s_signs, .ref h_s_members, .ref h_s_starts, .ref h_s_defects])), (h_s_ranks, .inl (cI, s_ranks_n, .inl s_ranks)), (h_s_signs, .inl (cI, s_signs_n, .inl s_signs))])) (va_Qi (fun (v : Int32) (_ : Unit) => v = r) (fun (u : Unit) (t : State) => va_P (dC, dI) cl_all [(h_s, .inr (2, [.int s_columnCount, .int s_fullRank, .ref h_s_ranks, .ref h_s_signs, .ref h_s_members, .ref h_s_starts, .ref h_s_defects])), (h_s_ranks, .inl (cI, s_ranks_n, .inl s_ranks)), (h_s_signs, .inl (cI, s_signs_n, .inl s_signs))] t.heap ∧ va_K (dC, dI) cl_all [(cI, .int), (cJ, .long), (cB, .byte), (cZ, .boolean), (cT, .object "BasisWalk$Table"), (cN, .object "BasisWalkModel$Num")] t ∧ va_D (va_A [(h_s, .inr (2, [.int s_columnCount, .int s_fullRank, .ref h_s_ranks, .ref h_s_signs, .ref h_s_members, .ref h_s_starts, .ref h_s_defects])), (h_s_ranks, .inl (cI, s_ranks_n, .inl s_ranks)), (h_s_signs, .inl (cI, s_signs_n, .inl s_signs))] sz) [(h_s, .inr (2, [.int s_columnCount, .int s_fullRank, .ref h_s_ranks, .ref h_s_signs, .ref h_s_members, .ref h_s_starts, .ref h_s_defects])), (h_s_ranks, .inl (cI, s_ranks_n, .inl s_ranks)), (h_s_signs, .inl (cI, s_signs_n, .inl s_signs))]) (va_A [(h_s, .inr (2, [.int s_columnCount, .int s_fullRank, .ref h_s_ranks, .ref h_s_signs, .ref h_s_members, .ref h_s_starts, .ref h_s_defects])), (h_s_ranks, .inl (cI, s_ranks_n, .inl s_ranks)), (h_s_signs, .inl (cI, s_signs_n, .inl s_signs))] sz)) 0 0 (va_A [(h_s, .inr (2, [.int s_columnCount, .int s_fullRank, .ref h_s_ranks, .ref h_s_signs, .ref h_s_members, .ref h_s_starts, .ref h_s_defects])), (h_s_ranks, .inl (cI, s_ranks_n, .inl s_ranks)), (h_s_signs, .inl (cI, s_signs_n, .inl s_signs))] sz) := by
  refine Met.ofW (cc := prog_4_method_6_code) (maxL := 9) (ret := (Option.some Jvm.ClassFile.FieldType.int)) (by decide) rfl ?_
  intro p e s m args below meth c s₁ B hml hv
  obtain ⟨hAR, hsz, hP, hK, hN, hD0⟩ := hv
  have hx := B.exec
  have hb := B.bytes
  have hr := B.returns
  have hts := atoms_spec (ws := w_St_negativePart) B.pre
  have hown : s.vm.findClass "BasisWalk$Study" = some m.cls := findClass_of_methodNamed B.named
  have hlocks := B.notSynchronized
  clear B
  subst hsz
  have hD := hD0.self (sz := s.heap.size)
  generalize hAe : va_A [(h_s, .inr (2, [.int s_columnCount, .int s_fullRank, .ref h_s_ranks, .ref h_s_signs, .ref h_s_members, .ref h_s_starts, .ref h_s_defects])), (h_s_ranks, .inl (cI, s_ranks_n, .inl s_ranks)), (h_s_signs, .inl (cI, s_signs_n, .inl s_signs))] s.heap.size = A at hD ⊢
  have hA : ∀ q : Nat, s.heap.size ≤ q → A q := fun q h => by rw [← hAe]; exact Or.inr h
  clear hAe hD0
  have hS : va_S A s.heap s.heap [] := va_S.rf
  have hl := lv_entry ([.ref h_s, .int cir0]) (n := 9) (Nat.le_of_ble_eq_true rfl)
  subst hAR
  rw [lg_entry_eq]
  generalize (lg_sl ([.ref h_s, .int cir0]) ++ List.replicate (9 - (lg_sl ([.ref h_s, .int cir0])).length) Slot.unset).toArray = ls at hl ⊢
  have hl : lv_has ls 9 [(0, .ref h_s), (1, .int cir0)] := hl
  change W p l e ({ frames := 1, cells := 0, slots := 0, locals := 23 } : Room) s m _ below meth c s.heap [] 0 0 _ _
  generalize hARe : ([.ref h_s, .int cir0] : List Value).toArray = AR at hts ⊢
  clear hARe
  generalize hQ : MQ below _ AR s 0 0 A = QQ
  have fl0 := hts _ (List.mem_cons_of_mem _ tw_32)
  have iw1 := (fun w hw => List.mem_cons_of_mem _ (in_St w hw) : ∀ w ∈ u_ws "BasisWalk$Study" T_St 7, w ∈ w_St_negativePart)
  have fl2 := hts _ (List.mem_cons_of_mem _ tw_37)
  obtain ⟨H, hHe⟩ : ∃ H : Heap, H = s.heap := ⟨_, rfl⟩
  rw [← hHe] at hP ⊢
  replace hS : va_S A s.heap H [] := by rw [hHe]; exact va_S.rf
  clear hHe
  unfold f_S_negativePart at h
  refine lv_aload_n hx hb d_St_negativePart_0 rfl (lv_at hl 0 rfl) ?_
  refine lv_iload_n hx hb d_St_negativePart_1 rfl (lv_at hl 1 rfl) ?_
  obtain ⟨r_1, hc_2, h⟩ := ck_b1_s h
  have hPc := hP.sub (ws' := [(h_s, .inr (2, [.int s_columnCount, .int s_fullRank, .ref h_s_ranks, .ref h_s_signs, .ref h_s_members, .ref h_s_starts, .ref h_s_defects])), (h_s_ranks, .inl (cI, s_ranks_n, .inl s_ranks))]) [0, 1] rfl
  have hDc := hD.sub (ws' := [(h_s, .inr (2, [.int s_columnCount, .int s_fullRank, .ref h_s_ranks, .ref h_s_signs, .ref h_s_members, .ref h_s_starts, .ref h_s_defects])), (h_s_ranks, .inl (cI, s_ranks_n, .inl s_ranks))]) [0, 1] (by decide) rfl
  have hFc := va_free (wc := [(h_s, .inr (2, [.int s_columnCount, .int s_fullRank, .ref h_s_ranks, .ref h_s_signs, .ref h_s_members, .ref h_s_starts, .ref h_s_defects])), (h_s_ranks, .inl (cI, s_ranks_n, .inl s_ranks))]) hD hS hA [0, 1] rfl
  refine va_calli (va_runV (As := [.int cir0]) (rest := []) ⟨hx, hb, hml, hown, hts⟩ (c_S_widened l dC dI cI cJ cB cZ cT cN H.size h_s h_s_ranks h_s_signs h_s_members h_s_starts h_s_defects s_columnCount s_fullRank s_ranks_n s_ranks cir0 _ hc_2) (cwV 1 hts (tb_V tw_322 tw_324 tp_16 tw_3 tw_325) rfl rfl rfl (by decide +kernel) ⟨Nat.le_of_ble_eq_true rfl, Nat.le_of_ble_eq_true rfl⟩) ⟨fun a U g mk q => by obtain ⟨q0, q1, qP, qK, qN, qD⟩ := q; exact ⟨q0, q1, qP, va_K.moved (u := U) (U := U.calling g mk a) (Vm.Alike.refl U.vm) qK, qN.same rfl, qD⟩, va_recv hK hPc (ci := 2) (q0 := 0) rfl rfl, fun U hU hW => ⟨rfl, by rw [hU], by rw [hU]; exact hPc, va_K.moved hW.alike hK, hN.warm hW, hDc.weaken (fun _ _ _ _ => trivial)⟩⟩ rfl rfl hl.1 rfl (lv_room (Nat.le_of_ble_eq_true rfl)) d_St_negativePart_2 ⟨Nat.zero_le _, Nat.zero_le _⟩) hS (fun q _ h => hFc q h) hFc (fun rr u t H1 locs ht hvm hw hB hz1 hk1 hS => ?_)
  replace hw := hw.symm
  subst hw
  obtain ⟨hP1, -, hD1⟩ := hB
  rw [ht] at hP1
  obtain ⟨hP, hD⟩ := va_join (wr := [(h_s_signs, .inl (cI, s_signs_n, .inl s_signs))]) (w1 := [(h_s, .inr (2, [.int s_columnCount, .int s_fullRank, .ref h_s_ranks, .ref h_s_signs, .ref h_s_members, .ref h_s_starts, .ref h_s_defects])), (h_s_ranks, .inl (cI, s_ranks_n, .inl s_ranks))]) hP hD [0, 1] [2] rfl rfl (by decide) (by decide) hk1 hFc hP1 hD1
  generalize H1 = H at hP hS ⊢
  have hP : va_P (dC, dI) cl_all [(h_s, .inr (2, [.int s_columnCount, .int s_fullRank, .ref h_s_ranks, .ref h_s_signs, .ref h_s_members, .ref h_s_starts, .ref h_s_defects])), (h_s_ranks, .inl (cI, s_ranks_n, .inl s_ranks)), (h_s_signs, .inl (cI, s_signs_n, .inl s_signs))] H := hP.sub [1, 2, 0] rfl
  have hD : va_D A [(h_s, .inr (2, [.int s_columnCount, .int s_fullRank, .ref h_s_ranks, .ref h_s_signs, .ref h_s_members, .ref h_s_starts, .ref h_s_defects])), (h_s_ranks, .inl (cI, s_ranks_n, .inl s_ranks)), (h_s_signs, .inl (cI, s_signs_n, .inl s_signs))] := hD.sub [1, 2, 0] (by decide) rfl
  refine lv_istore_n (lv' := [(2, .int r_1), (0, .ref h_s), (1, .int cir0)]) hx hb d_St_negativePart_5 rfl hl (by decide) rfl (fun ls hl => ?_)
  refine lv_iconst (v := 0) hx hb d_St_negativePart_6 (by decide) ?_
  refine lv_istore_n (lv' := [(3, .int 0), (2, .int r_1), (0, .ref h_s), (1, .int cir0)]) hx hb d_St_negativePart_7 rfl hl (by decide) rfl (fun ls hl => ?_)
  refine lv_iconst (v := 0) hx hb d_St_negativePart_8 (by decide) ?_
  refine lv_istore (lv' := [(4, .int 0), (3, .int 0), (2, .int r_1), (0, .ref h_s), (1, .int cir0)]) hx hb d_St_negativePart_9 hl (by decide) rfl (fun ls hl => ?_)
  refine lv_iconst (v := 1) hx hb d_St_negativePart_11 (by decide) ?_
  refine lv_istore (lv' := [(5, .int 1), (4, .int 0), (3, .int 0), (2, .int r_1), (0, .ref h_s), (1, .int cir0)]) hx hb d_St_negativePart_12 hl (by decide) rfl (fun ls hl => ?_)
  refine lv_iconst (v := 0) hx hb d_St_negativePart_14 (by decide) ?_
  refine lv_istore (lv' := [(6, .int 0), (5, .int 1), (4, .int 0), (3, .int 0), (2, .int r_1), (0, .ref h_s), (1, .int cir0)]) hx hb d_St_negativePart_15 hl (by decide) rfl (fun ls hl => ?_)
  refine lo4_W (r := r) (fun (v6_3 : Int32) (v5_4 : Int32) (v4_5 : Int32) (v3_6 : Int32) => ∀ (H : Heap) (locs : List Loc), va_P (dC, dI) cl_all [(h_s, .inr (2, [.int s_columnCount, .int s_fullRank, .ref h_s_ranks, .ref h_s_signs, .ref h_s_members, .ref h_s_starts, .ref h_s_defects])), (h_s_ranks, .inl (cI, s_ranks_n, .inl s_ranks)), (h_s_signs, .inl (cI, s_signs_n, .inl s_signs))] H → va_D A [(h_s, .inr (2, [.int s_columnCount, .int s_fullRank, .ref h_s_ranks, .ref h_s_signs, .ref h_s_members, .ref h_s_starts, .ref h_s_defects])), (h_s_ranks, .inl (cI, s_ranks_n, .inl s_ranks)), (h_s_signs, .inl (cI, s_signs_n, .inl s_signs))] → va_S A s.heap H locs → ∀ ls : Array Slot, lv_has ls 9 [(0, .ref h_s), (1, .int cir0), (2, .int r_1), (3, .int v3_6), (4, .int v4_5), (5, .int v5_4), (6, .int v6_3)] → W p l e ({ frames := 1, cells := 0, slots := 0, locals := 23 } : Room) s m AR below meth c H locs 0 0 QQ (F0 m 17 ls [])) ?_ _ _ _ _ _ h _ _ hP hD hS _ (lv_sub hl [5, 6, 4, 3, 2, 1, 0] rfl)
  intro k_17 v6_3 v5_4 v4_5 v3_6 J_17 h H locs hP hD hS ls hl
  refine lv_iload hx hb d_St_negativePart_17 (lv_at hl 6 rfl) ?_
  refine lv_aload_n hx hb d_St_negativePart_19 rfl (lv_at hl 0 rfl) ?_
  refine va_get (D := (dC, dI)) (ci := 2) (v := .int s_columnCount) (C := "BasisWalk$Study") (T := T_St) (N := 7) hx hb hts iw1 hown hK hP 0 rfl rfl 0 (by decide) fl0 (fun _ h9 => h9) rfl d_St_negativePart_20 ?_
  refine lv_icmp_ge (tgt := 106) hx hb d_St_negativePart_23 (by decide) (fun c_7 => ?_) (fun c_7 => ?_)
  · replace h := ck_if_t h c_7
    refine lv_iload_n hx hb d_St_negativePart_106 rfl (lv_at hl 3 rfl) ?_
    obtain rfl := Option.some.inj h
    subst hQ
    exact W.iret (v := v3_6) hx hb hr (fun t ht hW => ⟨⟨v3_6, (), rfl, rfl, by rw [ht]; exact hP, va_K.moved hW.alike hK, hD⟩, hS.F ht⟩) hS.2.2 d_St_negativePart_107
  · replace h := ck_if_f h c_7
    refine lv_iconst (v := 1) hx hb d_St_negativePart_26 (by decide) ?_
    refine lv_iload hx hb d_St_negativePart_27 (lv_at hl 6 rfl) ?_
    refine lv_ishl hx hb d_St_negativePart_29 ?_
    refine lv_topi (fun x_8 ex_8 => ?_)
    replace h := ck_nm_s h ex_8
    refine lv_istore (lv' := [(7, .int x_8), (0, .ref h_s), (1, .int cir0), (2, .int r_1), (3, .int v3_6), (4, .int v4_5), (5, .int v5_4), (6, .int v6_3)]) hx hb d_St_negativePart_30 hl (by decide) rfl (fun ls hl => ?_)
    refine lv_iload_n hx hb d_St_negativePart_32 rfl (lv_at hl 2 rfl) ?_
    refine lv_iload hx hb d_St_negativePart_33 (lv_at hl 0 rfl) ?_
    refine lv_iand hx hb d_St_negativePart_35 ?_
    refine ck_jn_W h (fun k' => ∀ (v3_9 : Int32) (v4_10 : Int32), k' v3_9 v4_10 = some r → ∀ (H : Heap) (locs : List Loc), va_P (dC, dI) cl_all [(h_s, .inr (2, [.int s_columnCount, .int s_fullRank, .ref h_s_ranks, .ref h_s_signs, .ref h_s_members, .ref h_s_starts, .ref h_s_defects])), (h_s_ranks, .inl (cI, s_ranks_n, .inl s_ranks)), (h_s_signs, .inl (cI, s_signs_n, .inl s_signs))] H → va_D A [(h_s, .inr (2, [.int s_columnCount, .int s_fullRank, .ref h_s_ranks, .ref h_s_signs, .ref h_s_members, .ref h_s_starts, .ref h_s_defects])), (h_s_ranks, .inl (cI, s_ranks_n, .inl s_ranks)), (h_s_signs, .inl (cI, s_signs_n, .inl s_signs))] → va_S A s.heap H locs → ∀ ls : Array Slot, lv_has ls 9 [(0, .ref h_s), (1, .int cir0), (2, .int r_1), (3, .int v3_9), (4, .int v4_10), (5, .int v5_4), (6, .int v6_3), (7, .int x_8)] → W p l e ({ frames := 1, cells := 0, slots := 0, locals := 23 } : Room) s m AR below meth c H locs 0 0 QQ (F0 m 83 ls [])) ?_ ?_
    · intro v3_9 v4_10 h H locs hP hD hS ls hl
      refine lv_iload_n hx hb d_St_negativePart_83 rfl (lv_at hl 2 rfl) ?_
      refine lv_iload hx hb d_St_negativePart_84 (lv_at hl 7 rfl) ?_
      refine lv_iand hx hb d_St_negativePart_86 ?_
      refine ck_jn_W h (fun k' => ∀ (s0_11 : Int32), k' s0_11 = some r → ∀ (H : Heap) (locs : List Loc), va_P (dC, dI) cl_all [(h_s, .inr (2, [.int s_columnCount, .int s_fullRank, .ref h_s_ranks, .ref h_s_signs, .ref h_s_members, .ref h_s_starts, .ref h_s_defects])), (h_s_ranks, .inl (cI, s_ranks_n, .inl s_ranks)), (h_s_signs, .inl (cI, s_signs_n, .inl s_signs))] H → va_D A [(h_s, .inr (2, [.int s_columnCount, .int s_fullRank, .ref h_s_ranks, .ref h_s_signs, .ref h_s_members, .ref h_s_starts, .ref h_s_defects])), (h_s_ranks, .inl (cI, s_ranks_n, .inl s_ranks)), (h_s_signs, .inl (cI, s_signs_n, .inl s_signs))] → va_S A s.heap H locs → ∀ ls : Array Slot, lv_has ls 9 [(0, .ref h_s), (1, .int cir0), (2, .int r_1), (3, .int v3_9), (4, .int v4_10), (6, .int v6_3)] → W p l e ({ frames := 1, cells := 0, slots := 0, locals := 23 } : Room) s m AR below meth c H locs 0 0 QQ (F0 m 98 ls [.int s0_11])) ?_ ?_
      · intro s0_11 h H locs hP hD hS ls hl
        refine lv_istore (lv' := [(5, .int s0_11), (0, .ref h_s), (1, .int cir0), (2, .int r_1), (3, .int v3_9), (4, .int v4_10), (6, .int v6_3)]) hx hb d_St_negativePart_98 hl (by decide) rfl (fun ls hl => ?_)
        obtain ⟨x_12, ex_12⟩ : ∃ y : Int32, y = v6_3 + 1 := ⟨_, rfl⟩
        replace h := ck_nm_s h ex_12
        refine lv_iinc (v := x_12) (lv' := [(6, .int x_12), (5, .int s0_11), (0, .ref h_s), (1, .int cir0), (2, .int r_1), (3, .int v3_9), (4, .int v4_10)]) hx hb d_St_negativePart_100 hl (k := 6) rfl (by rw [ex_12]; rfl) (by decide) rfl (fun ls hl => ?_)
        refine lv_goto (tgt := 17) hx hb d_St_negativePart_103 (by decide) ?_
        exact J_17 _ _ _ _ h _ _ hP hD hS _ (lv_sub hl [2, 3, 4, 5, 6, 1, 0] rfl)
      · intro k_98 J_98 h
        refine lv_if_eq (tgt := 96) hx hb d_St_negativePart_87 (by decide) (fun c_13 => ?_) (fun c_13 => ?_)
        · replace h := ck_if_t h c_13
          refine lv_iload hx hb d_St_negativePart_96 (lv_at hl 5 rfl) ?_
          exact J_98 _ h _ _ hP hD hS _ (lv_sub hl [0, 1, 2, 3, 4, 6] rfl)
        · replace h := ck_if_f h c_13
          refine lv_iload hx hb d_St_negativePart_90 (lv_at hl 5 rfl) ?_
          refine lv_ineg hx hb d_St_negativePart_92 ?_
          refine lv_goto (tgt := 98) hx hb d_St_negativePart_93 (by decide) ?_
          exact J_98 _ h _ _ hP hD hS _ (lv_sub hl [0, 1, 2, 3, 4, 6] rfl)
    · intro k_83 J_83 h
      refine lv_if_eq (tgt := 83) hx hb d_St_negativePart_36 (by decide) (fun c_14 => ?_) (fun c_14 => ?_)
      · replace h := ck_if_t h c_14
        exact J_83 _ _ h _ _ hP hD hS _ (lv_sub hl [1, 2, 3, 4, 5, 6, 7, 0] rfl)
      · replace h := ck_if_f h c_14
        refine lv_iload hx hb d_St_negativePart_39 (lv_at hl 6 rfl) ?_
        refine lv_aload_n hx hb d_St_negativePart_41 rfl (lv_at hl 1 rfl) ?_
        refine va_get (D := (dC, dI)) (ci := 2) (v := .ref h_s_signs) (C := "BasisWalk$Study") (T := T_St) (N := 7) hx hb hts iw1 hown hK hP 0 rfl rfl 3 (by decide) fl2 (fun _ h9 => h9) rfl d_St_negativePart_42 ?_
        refine lv_iload_n hx hb d_St_negativePart_45 rfl (lv_at hl 3 rfl) ?_
        refine lv_iload hx hb d_St_negativePart_46 (lv_at hl 0 rfl) ?_
        refine lv_ixor hx hb d_St_negativePart_48 ?_
        obtain ⟨g_15, h⟩ := ck_in_s h
        refine va_iald hx hb hK hP 2 0 rfl rfl g_15 d_St_negativePart_49 ?_
        refine lv_imul hx hb d_St_negativePart_50 ?_
        refine lv_topi (fun x_16 ex_16 => ?_)
        replace h := ck_nm_s h ex_16
        refine lv_istore (lv' := [(8, .int x_16), (7, .int x_8), (0, .ref h_s), (1, .int cir0), (2, .int r_1), (3, .int v3_6), (4, .int v4_5), (5, .int v5_4), (6, .int v6_3)]) hx hb d_St_negativePart_51 hl (by decide) rfl (fun ls hl => ?_)
        refine lv_iload hx hb d_St_negativePart_53 (lv_at hl 6 rfl) ?_
        refine ck_jn_W h (fun k' => ∀ (s0_17 : Int32), k' s0_17 = some r → ∀ (H : Heap) (locs : List Loc), va_P (dC, dI) cl_all [(h_s, .inr (2, [.int s_columnCount, .int s_fullRank, .ref h_s_ranks, .ref h_s_signs, .ref h_s_members, .ref h_s_starts, .ref h_s_defects])), (h_s_ranks, .inl (cI, s_ranks_n, .inl s_ranks)), (h_s_signs, .inl (cI, s_signs_n, .inl s_signs))] H → va_D A [(h_s, .inr (2, [.int s_columnCount, .int s_fullRank, .ref h_s_ranks, .ref h_s_signs, .ref h_s_members, .ref h_s_starts, .ref h_s_defects])), (h_s_ranks, .inl (cI, s_ranks_n, .inl s_ranks)), (h_s_signs, .inl (cI, s_signs_n, .inl s_signs))] → va_S A s.heap H locs → ∀ ls : Array Slot, lv_has ls 9 [(0, .ref h_s), (1, .int cir0), (2, .int r_1), (3, .int v3_6), (5, .int v5_4), (6, .int v6_3), (7, .int x_8), (8, .int x_16)] → W p l e ({ frames := 1, cells := 0, slots := 0, locals := 23 } : Room) s m AR below meth c H locs 0 0 QQ (F0 m 65 ls [.int s0_17])) ?_ ?_
        · intro s0_17 h H locs hP hD hS ls hl
          refine lv_istore (lv' := [(4, .int s0_17), (0, .ref h_s), (1, .int cir0), (2, .int r_1), (3, .int v3_6), (5, .int v5_4), (6, .int v6_3), (7, .int x_8), (8, .int x_16)]) hx hb d_St_negativePart_65 hl (by decide) rfl (fun ls hl => ?_)
          refine lv_iload_n hx hb d_St_negativePart_67 rfl (lv_at hl 4 rfl) ?_
          refine lv_iload hx hb d_St_negativePart_68 (lv_at hl 8 rfl) ?_
          refine lv_iload hx hb d_St_negativePart_70 (lv_at hl 0 rfl) ?_
          refine ck_jn_W h (fun k' => ∀ (s0_18 : Int32), k' s0_18 = some r → ∀ (H : Heap) (locs : List Loc), va_P (dC, dI) cl_all [(h_s, .inr (2, [.int s_columnCount, .int s_fullRank, .ref h_s_ranks, .ref h_s_signs, .ref h_s_members, .ref h_s_starts, .ref h_s_defects])), (h_s_ranks, .inl (cI, s_ranks_n, .inl s_ranks)), (h_s_signs, .inl (cI, s_signs_n, .inl s_signs))] H → va_D A [(h_s, .inr (2, [.int s_columnCount, .int s_fullRank, .ref h_s_ranks, .ref h_s_signs, .ref h_s_members, .ref h_s_starts, .ref h_s_defects])), (h_s_ranks, .inl (cI, s_ranks_n, .inl s_ranks)), (h_s_signs, .inl (cI, s_signs_n, .inl s_signs))] → va_S A s.heap H locs → ∀ ls : Array Slot, lv_has ls 9 [(0, .ref h_s), (1, .int cir0), (2, .int r_1), (4, .int s0_17), (5, .int v5_4), (6, .int v6_3), (7, .int x_8)] → W p l e ({ frames := 1, cells := 0, slots := 0, locals := 23 } : Room) s m AR below meth c H locs 0 0 QQ (F0 m 81 ls [.int s0_18, .int v3_6])) ?_ ?_
          · intro s0_18 h H locs hP hD hS ls hl
            refine lv_ior hx hb d_St_negativePart_81 ?_
            refine lv_topi (fun x_19 ex_19 => ?_)
            replace h := ck_nm_s h ex_19
            refine lv_istore_n (lv' := [(3, .int x_19), (0, .ref h_s), (1, .int cir0), (2, .int r_1), (4, .int s0_17), (5, .int v5_4), (6, .int v6_3), (7, .int x_8)]) hx hb d_St_negativePart_82 rfl hl (by decide) rfl (fun ls hl => ?_)
            exact J_83 _ _ h _ _ hP hD hS _ (lv_sub hl [1, 2, 3, 0, 4, 5, 6, 7] rfl)
          · intro k_81 J_81 h
            refine lv_icmp_ne (tgt := 79) hx hb d_St_negativePart_72 (by decide) (fun c_20 => ?_) (fun c_20 => ?_)
            · replace h := ck_if_f h c_20
              refine lv_iload hx hb d_St_negativePart_79 (lv_at hl 7 rfl) ?_
              exact J_81 _ h _ _ hP hD hS _ (lv_sub hl [1, 2, 3, 0, 5, 6, 7] rfl)
            · replace h := ck_if_t h c_20
              refine lv_iconst (v := 0) hx hb d_St_negativePart_75 (by decide) ?_
              refine lv_goto (tgt := 81) hx hb d_St_negativePart_76 (by decide) ?_
              exact J_81 _ h _ _ hP hD hS _ (lv_sub hl [1, 2, 3, 0, 5, 6, 7] rfl)
        · intro k_65 J_65 h
          refine lv_if_ne (tgt := 63) hx hb d_St_negativePart_55 (by decide) (fun c_21 => ?_) (fun c_21 => ?_)
          · replace h := ck_if_f h c_21
            refine lv_iload hx hb d_St_negativePart_63 (lv_at hl 6 rfl) ?_
            exact J_65 _ h _ _ hP hD hS _ (lv_sub hl [2, 3, 4, 5, 7, 8, 1, 0] rfl)
          · replace h := ck_if_t h c_21
            refine lv_iload hx hb d_St_negativePart_58 (lv_at hl 0 rfl) ?_
            refine lv_goto (tgt := 65) hx hb d_St_negativePart_60 (by decide) ?_
            exact J_65 _ h _ _ hP hD hS _ (lv_sub hl [2, 3, 4, 5, 7, 8, 1, 0] rfl)
theorem d_St_hasIndependentAbove_0 : decode prog_4_method_11_code 0 = .ok (.iconst 0, 1) := by decide +kernel
theorem d_St_hasIndependentAbove_1 : decode prog_4_method_11_code 1 = .ok (.istore_n 2, 1) := by decide +kernel
theorem d_St_hasIndependentAbove_2 : decode prog_4_method_11_code 2 = .ok (.iload_n 2, 1) := by decide +kernel
theorem d_St_hasIndependentAbove_3 : decode prog_4_method_11_code 3 = .ok (.aload_n 0, 1) := by decide +kernel
theorem d_St_hasIndependentAbove_4 : decode prog_4_method_11_code 4 = .ok (.getfield 33, 3) := by decide +kernel
theorem d_St_hasIndependentAbove_7 : decode prog_4_method_11_code 7 = .ok (.if_icmp .ge 32, 3) := by decide +kernel
theorem d_St_hasIndependentAbove_10 : decode prog_4_method_11_code 10 = .ok (.iload_n 1, 1) := by decide +kernel
theorem d_St_hasIndependentAbove_11 : decode prog_4_method_11_code 11 = .ok (.iconst 1, 1) := by decide +kernel
theorem d_St_hasIndependentAbove_12 : decode prog_4_method_11_code 12 = .ok (.iload_n 2, 1) := by decide +kernel
theorem d_St_hasIndependentAbove_13 : decode prog_4_method_11_code 13 = .ok (.ishl, 1) := by decide +kernel
theorem d_St_hasIndependentAbove_14 : decode prog_4_method_11_code 14 = .ok (.ior, 1) := by decide +kernel
theorem d_St_hasIndependentAbove_15 : decode prog_4_method_11_code 15 = .ok (.istore_n 3, 1) := by decide +kernel
theorem d_St_hasIndependentAbove_16 : decode prog_4_method_11_code 16 = .ok (.iload_n 3, 1) := by decide +kernel
theorem d_St_hasIndependentAbove_17 : decode prog_4_method_11_code 17 = .ok (.iload_n 1, 1) := by decide +kernel
theorem d_St_hasIndependentAbove_18 : decode prog_4_method_11_code 18 = .ok (.if_icmp .eq 15, 3) := by decide +kernel
theorem d_St_hasIndependentAbove_21 : decode prog_4_method_11_code 21 = .ok (.aload_n 0, 1) := by decide +kernel
theorem d_St_hasIndependentAbove_22 : decode prog_4_method_11_code 22 = .ok (.getfield 9, 3) := by decide +kernel
theorem d_St_hasIndependentAbove_25 : decode prog_4_method_11_code 25 = .ok (.iload_n 3, 1) := by decide +kernel
theorem d_St_hasIndependentAbove_26 : decode prog_4_method_11_code 26 = .ok (.iaload, 1) := by decide +kernel
theorem d_St_hasIndependentAbove_27 : decode prog_4_method_11_code 27 = .ok (.iconst (-1), 1) := by decide +kernel
theorem d_St_hasIndependentAbove_28 : decode prog_4_method_11_code 28 = .ok (.if_icmp .eq 5, 3) := by decide +kernel
theorem d_St_hasIndependentAbove_31 : decode prog_4_method_11_code 31 = .ok (.iconst 1, 1) := by decide +kernel
theorem d_St_hasIndependentAbove_32 : decode prog_4_method_11_code 32 = .ok (.ireturn, 1) := by decide +kernel
theorem d_St_hasIndependentAbove_33 : decode prog_4_method_11_code 33 = .ok (.iinc 2 1, 3) := by decide +kernel
theorem d_St_hasIndependentAbove_36 : decode prog_4_method_11_code 36 = .ok (.goto (-34), 3) := by decide +kernel
theorem d_St_hasIndependentAbove_39 : decode prog_4_method_11_code 39 = .ok (.iconst 0, 1) := by decide +kernel
theorem d_St_hasIndependentAbove_40 : decode prog_4_method_11_code 40 = .ok (.ireturn, 1) := by decide +kernel
def f_S_hasIndependentAbove (s_columnCount : Int32) (s_ranks_n : Nat) (s_ranks : Nat → Int32) (set0 : Int32) : Option (Int32) :=
  lo1 (fun k_2 (v2_1 : Int32) => ck_if (s_columnCount ≤ v2_1) (some 0) (ck_nm (set0 ||| ((1 : Int32) <<< (v2_1 &&& 31))) <| fun x_3 => ck_jn (fun (_ : Unit) => ck_nm (v2_1 + 1) <| fun x_4 => k_2 x_4) <| fun k_33 => ck_if (x_3 = set0) (k_33 ()) (ck_in x_3 s_ranks_n <| ck_if ((s_ranks x_3.toNatClampNeg) = (-1)) (k_33 ()) (some 1)))) ck_F 0
set_option maxHeartbeats 4000000 in
set_option maxRecDepth 100000 in
theorem c_S_hasIndependentAbove (l : Launch) (dC : Nat → ClassId) (dI : Nat → Nat → Nat) (cI cJ cB cZ cT cN : ClassId) (sz : Nat) (h_s : Nat) (h_s_ranks : Nat) (h_s_signs : Nat) (h_s_members : Nat) (h_s_starts : Nat) (h_s_defects : Nat) (s_columnCount : Int32) (s_fullRank : Int32) (s_ranks_n : Nat) (s_ranks : Nat → Int32) (set0 : Int32) (r : Int32) (h : f_S_hasIndependentAbove s_columnCount s_ranks_n s_ranks set0 = some r) : Met l y_St_hasIndependentAbove w_St_hasIndependentAbove ({ frames := 0, cells := 0, slots := 0, locals := 0 } : Room) (va_Pc [.ref h_s, .int set0] (fun U => U.heap.size = sz ∧ va_P (dC, dI) cl_all [(h_s, .inr (2, [.int s_columnCount, .int s_fullRank, .ref h_s_ranks, .ref h_s_signs, .ref h_s_members, .ref h_s_starts, .ref h_s_defects])), (h_s_ranks, .inl (cI, s_ranks_n, .inl s_ranks))] U.heap ∧ va_K (dC, dI) cl_all [(cI, .int), (cJ, .long), (cB, .byte), (cZ, .boolean), (cT, .object "BasisWalk$Table"), (cN, .object "BasisWalkModel$Num")] U ∧ NW U ∧ va_D (fun _ => True) [(h_s, .inr (2, [.int s_columnCount, .int s_fullRank, .ref h_s_ranks, .ref h_s_signs, .ref h_s_members, .ref h_s_starts, .ref h_s_defects])), (h_s_ranks, .inl (cI, s_ranks_n, .inl s_ranks))])) (va_Qi (fun (v : Int32) (_ : Unit) => v = r) (fun (u : Unit) (t : State) => va_P (dC, dI) cl_all [(h_s, .inr (2, [.int s_columnCount, .int s_fullRank, .ref h_s_ranks, .ref h_s_signs, .ref h_s_members, .ref h_s_starts, .ref h_s_defects])), (h_s_ranks, .inl (cI, s_ranks_n, .inl s_ranks))] t.heap ∧ va_K (dC, dI) cl_all [(cI, .int), (cJ, .long), (cB, .byte), (cZ, .boolean), (cT, .object "BasisWalk$Table"), (cN, .object "BasisWalkModel$Num")] t ∧ va_D (va_A [(h_s, .inr (2, [.int s_columnCount, .int s_fullRank, .ref h_s_ranks, .ref h_s_signs, .ref h_s_members, .ref h_s_starts, .ref h_s_defects])), (h_s_ranks, .inl (cI, s_ranks_n, .inl s_ranks))] sz) [(h_s, .inr (2, [.int s_columnCount, .int s_fullRank, .ref h_s_ranks, .ref h_s_signs, .ref h_s_members, .ref h_s_starts, .ref h_s_defects])), (h_s_ranks, .inl (cI, s_ranks_n, .inl s_ranks))]) (va_A [(h_s, .inr (2, [.int s_columnCount, .int s_fullRank, .ref h_s_ranks, .ref h_s_signs, .ref h_s_members, .ref h_s_starts, .ref h_s_defects])), (h_s_ranks, .inl (cI, s_ranks_n, .inl s_ranks))] sz)) 0 0 (va_A [(h_s, .inr (2, [.int s_columnCount, .int s_fullRank, .ref h_s_ranks, .ref h_s_signs, .ref h_s_members, .ref h_s_starts, .ref h_s_defects])), (h_s_ranks, .inl (cI, s_ranks_n, .inl s_ranks))] sz) := by
  refine Met.ofW (cc := prog_4_method_11_code) (maxL := 4) (ret := (Option.some Jvm.ClassFile.FieldType.boolean)) (by decide) rfl ?_
  intro p e s m args below meth c s₁ B hml hv
  obtain ⟨hAR, hsz, hP, hK, hN, hD0⟩ := hv
  have hx := B.exec
  have hb := B.bytes
  have hr := B.returns
  have hts := atoms_spec (ws := w_St_hasIndependentAbove) B.pre
  have hown : s.vm.findClass "BasisWalk$Study" = some m.cls := findClass_of_methodNamed B.named
  have hlocks := B.notSynchronized
  clear B
  subst hsz
  have hD := hD0.self (sz := s.heap.size)
  generalize hAe : va_A [(h_s, .inr (2, [.int s_columnCount, .int s_fullRank, .ref h_s_ranks, .ref h_s_signs, .ref h_s_members, .ref h_s_starts, .ref h_s_defects])), (h_s_ranks, .inl (cI, s_ranks_n, .inl s_ranks))] s.heap.size = A at hD ⊢
  have hA : ∀ q : Nat, s.heap.size ≤ q → A q := fun q h => by rw [← hAe]; exact Or.inr h
  clear hAe hD0
  have hS : va_S A s.heap s.heap [] := va_S.rf
  have hl := lv_entry ([.ref h_s, .int set0]) (n := 4) (Nat.le_of_ble_eq_true rfl)
  subst hAR
  rw [lg_entry_eq]
  generalize (lg_sl ([.ref h_s, .int set0]) ++ List.replicate (4 - (lg_sl ([.ref h_s, .int set0])).length) Slot.unset).toArray = ls at hl ⊢
  have hl : lv_has ls 4 [(0, .ref h_s), (1, .int set0)] := hl
  change W p l e ({ frames := 0, cells := 0, slots := 0, locals := 0 } : Room) s m _ below meth c s.heap [] 0 0 _ _
  generalize hARe : ([.ref h_s, .int set0] : List Value).toArray = AR at hts ⊢
  clear hARe
  generalize hQ : MQ below _ AR s 0 0 A = QQ
  have fl0 := hts _ (List.mem_cons_of_mem _ tw_32)
  have iw1 := (fun w hw => List.mem_cons_of_mem _ (in_St w hw) : ∀ w ∈ u_ws "BasisWalk$Study" T_St 7, w ∈ w_St_hasIndependentAbove)
  have fl2 := hts _ (List.mem_cons_of_mem _ tw_35)
  obtain ⟨H, hHe⟩ : ∃ H : Heap, H = s.heap := ⟨_, rfl⟩
  rw [← hHe] at hP ⊢
  replace hS : va_S A s.heap H [] := by rw [hHe]; exact va_S.rf
  clear hHe
  unfold f_S_hasIndependentAbove at h
  refine lv_iconst (v := 0) hx hb d_St_hasIndependentAbove_0 (by decide) ?_
  refine lv_istore_n (lv' := [(2, .int 0), (0, .ref h_s), (1, .int set0)]) hx hb d_St_hasIndependentAbove_1 rfl hl (by decide) rfl (fun ls hl => ?_)
  refine lo1_W (r := r) (fun (v2_1 : Int32) => ∀ (H : Heap) (locs : List Loc), va_P (dC, dI) cl_all [(h_s, .inr (2, [.int s_columnCount, .int s_fullRank, .ref h_s_ranks, .ref h_s_signs, .ref h_s_members, .ref h_s_starts, .ref h_s_defects])), (h_s_ranks, .inl (cI, s_ranks_n, .inl s_ranks))] H → va_D A [(h_s, .inr (2, [.int s_columnCount, .int s_fullRank, .ref h_s_ranks, .ref h_s_signs, .ref h_s_members, .ref h_s_starts, .ref h_s_defects])), (h_s_ranks, .inl (cI, s_ranks_n, .inl s_ranks))] → va_S A s.heap H locs → ∀ ls : Array Slot, lv_has ls 4 [(0, .ref h_s), (1, .int set0), (2, .int v2_1)] → W p l e ({ frames := 0, cells := 0, slots := 0, locals := 0 } : Room) s m AR below meth c H locs 0 0 QQ (F0 m 2 ls [])) ?_ _ _ h _ _ hP hD hS _ (lv_sub hl [1, 2, 0] rfl)
  intro k_2 v2_1 J_2 h H locs hP hD hS ls hl
  refine lv_iload_n hx hb d_St_hasIndependentAbove_2 rfl (lv_at hl 2 rfl) ?_
  refine lv_aload_n hx hb d_St_hasIndependentAbove_3 rfl (lv_at hl 0 rfl) ?_
  refine va_get (D := (dC, dI)) (ci := 2) (v := .int s_columnCount) (C := "BasisWalk$Study") (T := T_St) (N := 7) hx hb hts iw1 hown hK hP 0 rfl rfl 0 (by decide) fl0 (fun _ h9 => h9) rfl d_St_hasIndependentAbove_4 ?_
  refine lv_icmp_ge (tgt := 39) hx hb d_St_hasIndependentAbove_7 (by decide) (fun c_2 => ?_) (fun c_2 => ?_)
  · replace h := ck_if_t h c_2
    refine lv_iconst (v := 0) hx hb d_St_hasIndependentAbove_39 (by decide) ?_
    obtain rfl := Option.some.inj h
    subst hQ
    exact W.zret (ty := .boolean) (v := 0) hx hb hr rfl (fun t ht hW => ⟨⟨0, (), rfl, rfl, by rw [ht]; exact hP, va_K.moved hW.alike hK, hD⟩, hS.F ht⟩) hS.2.2 d_St_hasIndependentAbove_40
  · replace h := ck_if_f h c_2
    refine lv_iload_n hx hb d_St_hasIndependentAbove_10 rfl (lv_at hl 1 rfl) ?_
    refine lv_iconst (v := 1) hx hb d_St_hasIndependentAbove_11 (by decide) ?_
    refine lv_iload_n hx hb d_St_hasIndependentAbove_12 rfl (lv_at hl 2 rfl) ?_
    refine lv_ishl hx hb d_St_hasIndependentAbove_13 ?_
    refine lv_ior hx hb d_St_hasIndependentAbove_14 ?_
    refine lv_topi (fun x_3 ex_3 => ?_)
    replace h := ck_nm_s h ex_3
    refine lv_istore_n (lv' := [(3, .int x_3), (0, .ref h_s), (1, .int set0), (2, .int v2_1)]) hx hb d_St_hasIndependentAbove_15 rfl hl (by decide) rfl (fun ls hl => ?_)
    refine lv_iload_n hx hb d_St_hasIndependentAbove_16 rfl (lv_at hl 0 rfl) ?_
    refine lv_iload_n hx hb d_St_hasIndependentAbove_17 rfl (lv_at hl 2 rfl) ?_
    refine ck_jn_W h (fun k' => ∀ u : Unit, k' u = some r → ∀ (H : Heap) (locs : List Loc), va_P (dC, dI) cl_all [(h_s, .inr (2, [.int s_columnCount, .int s_fullRank, .ref h_s_ranks, .ref h_s_signs, .ref h_s_members, .ref h_s_starts, .ref h_s_defects])), (h_s_ranks, .inl (cI, s_ranks_n, .inl s_ranks))] H → va_D A [(h_s, .inr (2, [.int s_columnCount, .int s_fullRank, .ref h_s_ranks, .ref h_s_signs, .ref h_s_members, .ref h_s_starts, .ref h_s_defects])), (h_s_ranks, .inl (cI, s_ranks_n, .inl s_ranks))] → va_S A s.heap H locs → ∀ ls : Array Slot, lv_has ls 4 [(0, .ref h_s), (1, .int set0), (2, .int v2_1)] → W p l e ({ frames := 0, cells := 0, slots := 0, locals := 0 } : Room) s m AR below meth c H locs 0 0 QQ (F0 m 33 ls [])) ?_ ?_
    · intro _ h H locs hP hD hS ls hl
      obtain ⟨x_4, ex_4⟩ : ∃ y : Int32, y = v2_1 + 1 := ⟨_, rfl⟩
      replace h := ck_nm_s h ex_4
      refine lv_iinc (v := x_4) (lv' := [(2, .int x_4), (0, .ref h_s), (1, .int set0)]) hx hb d_St_hasIndependentAbove_33 hl (k := 2) rfl (by rw [ex_4]; rfl) (by decide) rfl (fun ls hl => ?_)
      refine lv_goto (tgt := 2) hx hb d_St_hasIndependentAbove_36 (by decide) ?_
      exact J_2 _ h _ _ hP hD hS _ (lv_sub hl [1, 2, 0] rfl)
    · intro k_33 J_33 h
      refine lv_icmp_eq (tgt := 33) hx hb d_St_hasIndependentAbove_18 (by decide) (fun c_5 => ?_) (fun c_5 => ?_)
      · replace h := ck_if_t h c_5
        exact J_33 _ h _ _ hP hD hS _ (lv_sub hl [1, 2, 3] rfl)
      · replace h := ck_if_f h c_5
        refine lv_aload_n hx hb d_St_hasIndependentAbove_21 rfl (lv_at hl 1 rfl) ?_
        refine va_get (D := (dC, dI)) (ci := 2) (v := .ref h_s_ranks) (C := "BasisWalk$Study") (T := T_St) (N := 7) hx hb hts iw1 hown hK hP 0 rfl rfl 2 (by decide) fl2 (fun _ h9 => h9) rfl d_St_hasIndependentAbove_22 ?_
        refine lv_iload_n hx hb d_St_hasIndependentAbove_25 rfl (lv_at hl 0 rfl) ?_
        obtain ⟨g_6, h⟩ := ck_in_s h
        refine va_iald hx hb hK hP 1 0 rfl rfl g_6 d_St_hasIndependentAbove_26 ?_
        refine lv_iconst (v := (-1)) hx hb d_St_hasIndependentAbove_27 (by decide) ?_
        refine lv_icmp_eq (tgt := 33) hx hb d_St_hasIndependentAbove_28 (by decide) (fun c_7 => ?_) (fun c_7 => ?_)
        · replace h := ck_if_t h c_7
          exact J_33 _ h _ _ hP hD hS _ (lv_sub hl [1, 2, 3] rfl)
        · replace h := ck_if_f h c_7
          refine lv_iconst (v := 1) hx hb d_St_hasIndependentAbove_31 (by decide) ?_
          obtain rfl := Option.some.inj h
          subst hQ
          exact W.zret (ty := .boolean) (v := 1) hx hb hr rfl (fun t ht hW => ⟨⟨1, (), rfl, rfl, by rw [ht]; exact hP, va_K.moved hW.alike hK, hD⟩, hS.F ht⟩) hS.2.2 d_St_hasIndependentAbove_32
theorem d_St_greatestRankUnder_0 : decode prog_4_method_13_code 0 = .ok (.iconst 0, 1) := by decide +kernel
theorem d_St_greatestRankUnder_1 : decode prog_4_method_13_code 1 = .ok (.istore_n 2, 1) := by decide +kernel
theorem d_St_greatestRankUnder_2 : decode prog_4_method_13_code 2 = .ok (.iconst 0, 1) := by decide +kernel
theorem d_St_greatestRankUnder_3 : decode prog_4_method_13_code 3 = .ok (.istore_n 3, 1) := by decide +kernel
theorem d_St_greatestRankUnder_4 : decode prog_4_method_13_code 4 = .ok (.iload_n 3, 1) := by decide +kernel
theorem d_St_greatestRankUnder_5 : decode prog_4_method_13_code 5 = .ok (.aload_n 0, 1) := by decide +kernel
theorem d_St_greatestRankUnder_6 : decode prog_4_method_13_code 6 = .ok (.getfield 33, 3) := by decide +kernel
theorem d_St_greatestRankUnder_9 : decode prog_4_method_13_code 9 = .ok (.if_icmp .ge 43, 3) := by decide +kernel
theorem d_St_greatestRankUnder_12 : decode prog_4_method_13_code 12 = .ok (.iload_n 1, 1) := by decide +kernel
theorem d_St_greatestRankUnder_13 : decode prog_4_method_13_code 13 = .ok (.iconst 1, 1) := by decide +kernel
theorem d_St_greatestRankUnder_14 : decode prog_4_method_13_code 14 = .ok (.iload_n 3, 1) := by decide +kernel
theorem d_St_greatestRankUnder_15 : decode prog_4_method_13_code 15 = .ok (.ishl, 1) := by decide +kernel
theorem d_St_greatestRankUnder_16 : decode prog_4_method_13_code 16 = .ok (.iconst (-1), 1) := by decide +kernel
theorem d_St_greatestRankUnder_17 : decode prog_4_method_13_code 17 = .ok (.ixor, 1) := by decide +kernel
theorem d_St_greatestRankUnder_18 : decode prog_4_method_13_code 18 = .ok (.iand, 1) := by decide +kernel
theorem d_St_greatestRankUnder_19 : decode prog_4_method_13_code 19 = .ok (.istore 4, 2) := by decide +kernel
theorem d_St_greatestRankUnder_21 : decode prog_4_method_13_code 21 = .ok (.iload 4, 2) := by decide +kernel
theorem d_St_greatestRankUnder_23 : decode prog_4_method_13_code 23 = .ok (.iload_n 1, 1) := by decide +kernel
theorem d_St_greatestRankUnder_24 : decode prog_4_method_13_code 24 = .ok (.if_icmp .eq 22, 3) := by decide +kernel
theorem d_St_greatestRankUnder_27 : decode prog_4_method_13_code 27 = .ok (.aload_n 0, 1) := by decide +kernel
theorem d_St_greatestRankUnder_28 : decode prog_4_method_13_code 28 = .ok (.getfield 9, 3) := by decide +kernel
theorem d_St_greatestRankUnder_31 : decode prog_4_method_13_code 31 = .ok (.iload 4, 2) := by decide +kernel
theorem d_St_greatestRankUnder_33 : decode prog_4_method_13_code 33 = .ok (.iaload, 1) := by decide +kernel
theorem d_St_greatestRankUnder_34 : decode prog_4_method_13_code 34 = .ok (.iload_n 2, 1) := by decide +kernel
theorem d_St_greatestRankUnder_35 : decode prog_4_method_13_code 35 = .ok (.if_icmp .le 11, 3) := by decide +kernel
theorem d_St_greatestRankUnder_38 : decode prog_4_method_13_code 38 = .ok (.aload_n 0, 1) := by decide +kernel
theorem d_St_greatestRankUnder_39 : decode prog_4_method_13_code 39 = .ok (.getfield 9, 3) := by decide +kernel
theorem d_St_greatestRankUnder_42 : decode prog_4_method_13_code 42 = .ok (.iload 4, 2) := by decide +kernel
theorem d_St_greatestRankUnder_44 : decode prog_4_method_13_code 44 = .ok (.iaload, 1) := by decide +kernel
theorem d_St_greatestRankUnder_45 : decode prog_4_method_13_code 45 = .ok (.istore_n 2, 1) := by decide +kernel
theorem d_St_greatestRankUnder_46 : decode prog_4_method_13_code 46 = .ok (.iinc 3 1, 3) := by decide +kernel
theorem d_St_greatestRankUnder_49 : decode prog_4_method_13_code 49 = .ok (.goto (-45), 3) := by decide +kernel
theorem d_St_greatestRankUnder_52 : decode prog_4_method_13_code 52 = .ok (.iload_n 2, 1) := by decide +kernel
theorem d_St_greatestRankUnder_53 : decode prog_4_method_13_code 53 = .ok (.ireturn, 1) := by decide +kernel
def f_S_greatestRankUnder (s_columnCount : Int32) (s_ranks_n : Nat) (s_ranks : Nat → Int32) (set0 : Int32) : Option (Int32) :=
  lo2 (fun k_4 (v3_1 : Int32) (v2_2 : Int32) => ck_if (s_columnCount ≤ v3_1) (some v2_2) (ck_nm (set0 &&& (((1 : Int32) <<< (v3_1 &&& 31)) ^^^ (-1))) <| fun x_4 => ck_jn (fun (v2_5 : Int32) => ck_nm (v3_1 + 1) <| fun x_6 => k_4 x_6 v2_5) <| fun k_46 => ck_if (x_4 = set0) (k_46 v2_2) (ck_in x_4 s_ranks_n <| ck_if ((s_ranks x_4.toNatClampNeg) ≤ v2_2) (k_46 v2_2) (ck_in x_4 s_ranks_n <| ck_nm (s_ranks x_4.toNatClampNeg) <| fun x_11 => k_46 x_11)))) ck_F 0 0
set_option maxHeartbeats 4000000 in
set_option maxRecDepth 100000 in
theorem c_S_greatestRankUnder (l : Launch) (dC : Nat → ClassId) (dI : Nat → Nat → Nat) (cI cJ cB cZ cT cN : ClassId) (sz : Nat) (h_s : Nat) (h_s_ranks : Nat) (h_s_signs : Nat) (h_s_members : Nat) (h_s_starts : Nat) (h_s_defects : Nat) (s_columnCount : Int32) (s_fullRank : Int32) (s_ranks_n : Nat) (s_ranks : Nat → Int32) (set0 : Int32) (r : Int32) (h : f_S_greatestRankUnder s_columnCount s_ranks_n s_ranks set0 = some r) : Met l y_St_greatestRankUnder w_St_greatestRankUnder ({ frames := 0, cells := 0, slots := 0, locals := 0 } : Room) (va_Pc [.ref h_s, .int set0] (fun U => U.heap.size = sz ∧ va_P (dC, dI) cl_all [(h_s, .inr (2, [.int s_columnCount, .int s_fullRank, .ref h_s_ranks, .ref h_s_signs, .ref h_s_members, .ref h_s_starts, .ref h_s_defects])), (h_s_ranks, .inl (cI, s_ranks_n, .inl s_ranks))] U.heap ∧ va_K (dC, dI) cl_all [(cI, .int), (cJ, .long), (cB, .byte), (cZ, .boolean), (cT, .object "BasisWalk$Table"), (cN, .object "BasisWalkModel$Num")] U ∧ NW U ∧ va_D (fun _ => True) [(h_s, .inr (2, [.int s_columnCount, .int s_fullRank, .ref h_s_ranks, .ref h_s_signs, .ref h_s_members, .ref h_s_starts, .ref h_s_defects])), (h_s_ranks, .inl (cI, s_ranks_n, .inl s_ranks))])) (va_Qi (fun (v : Int32) (_ : Unit) => v = r) (fun (u : Unit) (t : State) => va_P (dC, dI) cl_all [(h_s, .inr (2, [.int s_columnCount, .int s_fullRank, .ref h_s_ranks, .ref h_s_signs, .ref h_s_members, .ref h_s_starts, .ref h_s_defects])), (h_s_ranks, .inl (cI, s_ranks_n, .inl s_ranks))] t.heap ∧ va_K (dC, dI) cl_all [(cI, .int), (cJ, .long), (cB, .byte), (cZ, .boolean), (cT, .object "BasisWalk$Table"), (cN, .object "BasisWalkModel$Num")] t ∧ va_D (va_A [(h_s, .inr (2, [.int s_columnCount, .int s_fullRank, .ref h_s_ranks, .ref h_s_signs, .ref h_s_members, .ref h_s_starts, .ref h_s_defects])), (h_s_ranks, .inl (cI, s_ranks_n, .inl s_ranks))] sz) [(h_s, .inr (2, [.int s_columnCount, .int s_fullRank, .ref h_s_ranks, .ref h_s_signs, .ref h_s_members, .ref h_s_starts, .ref h_s_defects])), (h_s_ranks, .inl (cI, s_ranks_n, .inl s_ranks))]) (va_A [(h_s, .inr (2, [.int s_columnCount, .int s_fullRank, .ref h_s_ranks, .ref h_s_signs, .ref h_s_members, .ref h_s_starts, .ref h_s_defects])), (h_s_ranks, .inl (cI, s_ranks_n, .inl s_ranks))] sz)) 0 0 (va_A [(h_s, .inr (2, [.int s_columnCount, .int s_fullRank, .ref h_s_ranks, .ref h_s_signs, .ref h_s_members, .ref h_s_starts, .ref h_s_defects])), (h_s_ranks, .inl (cI, s_ranks_n, .inl s_ranks))] sz) := by
  refine Met.ofW (cc := prog_4_method_13_code) (maxL := 5) (ret := (Option.some Jvm.ClassFile.FieldType.int)) (by decide) rfl ?_
  intro p e s m args below meth c s₁ B hml hv
  obtain ⟨hAR, hsz, hP, hK, hN, hD0⟩ := hv
  have hx := B.exec
  have hb := B.bytes
  have hr := B.returns
  have hts := atoms_spec (ws := w_St_greatestRankUnder) B.pre
  have hown : s.vm.findClass "BasisWalk$Study" = some m.cls := findClass_of_methodNamed B.named
  have hlocks := B.notSynchronized
  clear B
  subst hsz
  have hD := hD0.self (sz := s.heap.size)
  generalize hAe : va_A [(h_s, .inr (2, [.int s_columnCount, .int s_fullRank, .ref h_s_ranks, .ref h_s_signs, .ref h_s_members, .ref h_s_starts, .ref h_s_defects])), (h_s_ranks, .inl (cI, s_ranks_n, .inl s_ranks))] s.heap.size = A at hD ⊢
  have hA : ∀ q : Nat, s.heap.size ≤ q → A q := fun q h => by rw [← hAe]; exact Or.inr h
  clear hAe hD0
  have hS : va_S A s.heap s.heap [] := va_S.rf
  have hl := lv_entry ([.ref h_s, .int set0]) (n := 5) (Nat.le_of_ble_eq_true rfl)
  subst hAR
  rw [lg_entry_eq]
  generalize (lg_sl ([.ref h_s, .int set0]) ++ List.replicate (5 - (lg_sl ([.ref h_s, .int set0])).length) Slot.unset).toArray = ls at hl ⊢
  have hl : lv_has ls 5 [(0, .ref h_s), (1, .int set0)] := hl
  change W p l e ({ frames := 0, cells := 0, slots := 0, locals := 0 } : Room) s m _ below meth c s.heap [] 0 0 _ _
  generalize hARe : ([.ref h_s, .int set0] : List Value).toArray = AR at hts ⊢
  clear hARe
  generalize hQ : MQ below _ AR s 0 0 A = QQ
  have fl0 := hts _ (List.mem_cons_of_mem _ tw_32)
  have iw1 := (fun w hw => List.mem_cons_of_mem _ (in_St w hw) : ∀ w ∈ u_ws "BasisWalk$Study" T_St 7, w ∈ w_St_greatestRankUnder)
  have fl2 := hts _ (List.mem_cons_of_mem _ tw_35)
  obtain ⟨H, hHe⟩ : ∃ H : Heap, H = s.heap := ⟨_, rfl⟩
  rw [← hHe] at hP ⊢
  replace hS : va_S A s.heap H [] := by rw [hHe]; exact va_S.rf
  clear hHe
  unfold f_S_greatestRankUnder at h
  refine lv_iconst (v := 0) hx hb d_St_greatestRankUnder_0 (by decide) ?_
  refine lv_istore_n (lv' := [(2, .int 0), (0, .ref h_s), (1, .int set0)]) hx hb d_St_greatestRankUnder_1 rfl hl (by decide) rfl (fun ls hl => ?_)
  refine lv_iconst (v := 0) hx hb d_St_greatestRankUnder_2 (by decide) ?_
  refine lv_istore_n (lv' := [(3, .int 0), (2, .int 0), (0, .ref h_s), (1, .int set0)]) hx hb d_St_greatestRankUnder_3 rfl hl (by decide) rfl (fun ls hl => ?_)
  refine lo2_W (r := r) (fun (v3_1 : Int32) (v2_2 : Int32) => ∀ (H : Heap) (locs : List Loc), va_P (dC, dI) cl_all [(h_s, .inr (2, [.int s_columnCount, .int s_fullRank, .ref h_s_ranks, .ref h_s_signs, .ref h_s_members, .ref h_s_starts, .ref h_s_defects])), (h_s_ranks, .inl (cI, s_ranks_n, .inl s_ranks))] H → va_D A [(h_s, .inr (2, [.int s_columnCount, .int s_fullRank, .ref h_s_ranks, .ref h_s_signs, .ref h_s_members, .ref h_s_starts, .ref h_s_defects])), (h_s_ranks, .inl (cI, s_ranks_n, .inl s_ranks))] → va_S A s.heap H locs → ∀ ls : Array Slot, lv_has ls 5 [(0, .ref h_s), (1, .int set0), (2, .int v2_2), (3, .int v3_1)] → W p l e ({ frames := 0, cells := 0, slots := 0, locals := 0 } : Room) s m AR below meth c H locs 0 0 QQ (F0 m 4 ls [])) ?_ _ _ _ h _ _ hP hD hS _ (lv_sub hl [2, 3, 1, 0] rfl)
  intro k_4 v3_1 v2_2 J_4 h H locs hP hD hS ls hl
  refine lv_iload_n hx hb d_St_greatestRankUnder_4 rfl (lv_at hl 3 rfl) ?_
  refine lv_aload_n hx hb d_St_greatestRankUnder_5 rfl (lv_at hl 0 rfl) ?_
  refine va_get (D := (dC, dI)) (ci := 2) (v := .int s_columnCount) (C := "BasisWalk$Study") (T := T_St) (N := 7) hx hb hts iw1 hown hK hP 0 rfl rfl 0 (by decide) fl0 (fun _ h9 => h9) rfl d_St_greatestRankUnder_6 ?_
  refine lv_icmp_ge (tgt := 52) hx hb d_St_greatestRankUnder_9 (by decide) (fun c_3 => ?_) (fun c_3 => ?_)
  · replace h := ck_if_t h c_3
    refine lv_iload_n hx hb d_St_greatestRankUnder_52 rfl (lv_at hl 2 rfl) ?_
    obtain rfl := Option.some.inj h
    subst hQ
    exact W.iret (v := v2_2) hx hb hr (fun t ht hW => ⟨⟨v2_2, (), rfl, rfl, by rw [ht]; exact hP, va_K.moved hW.alike hK, hD⟩, hS.F ht⟩) hS.2.2 d_St_greatestRankUnder_53
  · replace h := ck_if_f h c_3
    refine lv_iload_n hx hb d_St_greatestRankUnder_12 rfl (lv_at hl 1 rfl) ?_
    refine lv_iconst (v := 1) hx hb d_St_greatestRankUnder_13 (by decide) ?_
    refine lv_iload_n hx hb d_St_greatestRankUnder_14 rfl (lv_at hl 3 rfl) ?_
    refine lv_ishl hx hb d_St_greatestRankUnder_15 ?_
    refine lv_iconst (v := (-1)) hx hb d_St_greatestRankUnder_16 (by decide) ?_
    refine lv_ixor hx hb d_St_greatestRankUnder_17 ?_
    refine lv_iand hx hb d_St_greatestRankUnder_18 ?_
    refine lv_topi (fun x_4 ex_4 => ?_)
    replace h := ck_nm_s h ex_4
    refine lv_istore (lv' := [(4, .int x_4), (0, .ref h_s), (1, .int set0), (2, .int v2_2), (3, .int v3_1)]) hx hb d_St_greatestRankUnder_19 hl (by decide) rfl (fun ls hl => ?_)
    refine lv_iload hx hb d_St_greatestRankUnder_21 (lv_at hl 0 rfl) ?_
    refine lv_iload_n hx hb d_St_greatestRankUnder_23 rfl (lv_at hl 2 rfl) ?_
    refine ck_jn_W h (fun k' => ∀ (v2_5 : Int32), k' v2_5 = some r → ∀ (H : Heap) (locs : List Loc), va_P (dC, dI) cl_all [(h_s, .inr (2, [.int s_columnCount, .int s_fullRank, .ref h_s_ranks, .ref h_s_signs, .ref h_s_members, .ref h_s_starts, .ref h_s_defects])), (h_s_ranks, .inl (cI, s_ranks_n, .inl s_ranks))] H → va_D A [(h_s, .inr (2, [.int s_columnCount, .int s_fullRank, .ref h_s_ranks, .ref h_s_signs, .ref h_s_members, .ref h_s_starts, .ref h_s_defects])), (h_s_ranks, .inl (cI, s_ranks_n, .inl s_ranks))] → va_S A s.heap H locs → ∀ ls : Array Slot, lv_has ls 5 [(0, .ref h_s), (1, .int set0), (2, .int v2_5), (3, .int v3_1)] → W p l e ({ frames := 0, cells := 0, slots := 0, locals := 0 } : Room) s m AR below meth c H locs 0 0 QQ (F0 m 46 ls [])) ?_ ?_
    · intro v2_5 h H locs hP hD hS ls hl
      obtain ⟨x_6, ex_6⟩ : ∃ y : Int32, y = v3_1 + 1 := ⟨_, rfl⟩
      replace h := ck_nm_s h ex_6
      refine lv_iinc (v := x_6) (lv' := [(3, .int x_6), (0, .ref h_s), (1, .int set0), (2, .int v2_5)]) hx hb d_St_greatestRankUnder_46 hl (k := 3) rfl (by rw [ex_6]; rfl) (by decide) rfl (fun ls hl => ?_)
      refine lv_goto (tgt := 4) hx hb d_St_greatestRankUnder_49 (by decide) ?_
      exact J_4 _ _ h _ _ hP hD hS _ (lv_sub hl [1, 2, 3, 0] rfl)
    · intro k_46 J_46 h
      refine lv_icmp_eq (tgt := 46) hx hb d_St_greatestRankUnder_24 (by decide) (fun c_7 => ?_) (fun c_7 => ?_)
      · replace h := ck_if_t h c_7
        exact J_46 _ h _ _ hP hD hS _ (lv_sub hl [1, 2, 3, 4] rfl)
      · replace h := ck_if_f h c_7
        refine lv_aload_n hx hb d_St_greatestRankUnder_27 rfl (lv_at hl 1 rfl) ?_
        refine va_get (D := (dC, dI)) (ci := 2) (v := .ref h_s_ranks) (C := "BasisWalk$Study") (T := T_St) (N := 7) hx hb hts iw1 hown hK hP 0 rfl rfl 2 (by decide) fl2 (fun _ h9 => h9) rfl d_St_greatestRankUnder_28 ?_
        refine lv_iload hx hb d_St_greatestRankUnder_31 (lv_at hl 0 rfl) ?_
        obtain ⟨g_8, h⟩ := ck_in_s h
        refine va_iald hx hb hK hP 1 0 rfl rfl g_8 d_St_greatestRankUnder_33 ?_
        refine lv_iload_n hx hb d_St_greatestRankUnder_34 rfl (lv_at hl 3 rfl) ?_
        refine lv_icmp_le (tgt := 46) hx hb d_St_greatestRankUnder_35 (by decide) (fun c_9 => ?_) (fun c_9 => ?_)
        · replace h := ck_if_t h c_9
          exact J_46 _ h _ _ hP hD hS _ (lv_sub hl [1, 2, 3, 4] rfl)
        · replace h := ck_if_f h c_9
          refine lv_aload_n hx hb d_St_greatestRankUnder_38 rfl (lv_at hl 1 rfl) ?_
          refine va_get (D := (dC, dI)) (ci := 2) (v := .ref h_s_ranks) (C := "BasisWalk$Study") (T := T_St) (N := 7) hx hb hts iw1 hown hK hP 0 rfl rfl 2 (by decide) fl2 (fun _ h9 => h9) rfl d_St_greatestRankUnder_39 ?_
          refine lv_iload hx hb d_St_greatestRankUnder_42 (lv_at hl 0 rfl) ?_
          obtain ⟨g_10, h⟩ := ck_in_s h
          refine va_iald hx hb hK hP 1 0 rfl rfl g_10 d_St_greatestRankUnder_44 ?_
          refine lv_topi (fun x_11 ex_11 => ?_)
          replace h := ck_nm_s h ex_11
          refine lv_istore_n (lv' := [(2, .int x_11), (4, .int x_4), (0, .ref h_s), (1, .int set0), (3, .int v3_1)]) hx hb d_St_greatestRankUnder_45 rfl hl (by decide) rfl (fun ls hl => ?_)
          exact J_46 _ h _ _ hP hD hS _ (lv_sub hl [2, 3, 0, 4] rfl)
theorem d_St_isCircuit_0 : decode prog_4_method_17_code 0 = .ok (.iload_n 1, 1) := by decide +kernel
theorem d_St_isCircuit_1 : decode prog_4_method_17_code 1 = .ok (.invokestatic 90, 3) := by decide +kernel
theorem d_St_isCircuit_4 : decode prog_4_method_17_code 4 = .ok (.istore_n 2, 1) := by decide +kernel
theorem d_St_isCircuit_5 : decode prog_4_method_17_code 5 = .ok (.aload_n 0, 1) := by decide +kernel
theorem d_St_isCircuit_6 : decode prog_4_method_17_code 6 = .ok (.getfield 9, 3) := by decide +kernel
theorem d_St_isCircuit_9 : decode prog_4_method_17_code 9 = .ok (.iload_n 1, 1) := by decide +kernel
theorem d_St_isCircuit_10 : decode prog_4_method_17_code 10 = .ok (.iaload, 1) := by decide +kernel
theorem d_St_isCircuit_11 : decode prog_4_method_17_code 11 = .ok (.iload_n 2, 1) := by decide +kernel
theorem d_St_isCircuit_12 : decode prog_4_method_17_code 12 = .ok (.iconst 1, 1) := by decide +kernel
theorem d_St_isCircuit_13 : decode prog_4_method_17_code 13 = .ok (.isub, 1) := by decide +kernel
theorem d_St_isCircuit_14 : decode prog_4_method_17_code 14 = .ok (.if_icmp .eq 5, 3) := by decide +kernel
theorem d_St_isCircuit_17 : decode prog_4_method_17_code 17 = .ok (.iconst 0, 1) := by decide +kernel
theorem d_St_isCircuit_18 : decode prog_4_method_17_code 18 = .ok (.ireturn, 1) := by decide +kernel
theorem d_St_isCircuit_19 : decode prog_4_method_17_code 19 = .ok (.iconst 0, 1) := by decide +kernel
theorem d_St_isCircuit_20 : decode prog_4_method_17_code 20 = .ok (.istore_n 3, 1) := by decide +kernel
theorem d_St_isCircuit_21 : decode prog_4_method_17_code 21 = .ok (.iload_n 3, 1) := by decide +kernel
theorem d_St_isCircuit_22 : decode prog_4_method_17_code 22 = .ok (.aload_n 0, 1) := by decide +kernel
theorem d_St_isCircuit_23 : decode prog_4_method_17_code 23 = .ok (.getfield 33, 3) := by decide +kernel
theorem d_St_isCircuit_26 : decode prog_4_method_17_code 26 = .ok (.if_icmp .ge 39, 3) := by decide +kernel
theorem d_St_isCircuit_29 : decode prog_4_method_17_code 29 = .ok (.iload_n 1, 1) := by decide +kernel
theorem d_St_isCircuit_30 : decode prog_4_method_17_code 30 = .ok (.iconst 1, 1) := by decide +kernel
theorem d_St_isCircuit_31 : decode prog_4_method_17_code 31 = .ok (.iload_n 3, 1) := by decide +kernel
theorem d_St_isCircuit_32 : decode prog_4_method_17_code 32 = .ok (.ishl, 1) := by decide +kernel
theorem d_St_isCircuit_33 : decode prog_4_method_17_code 33 = .ok (.iconst (-1), 1) := by decide +kernel
theorem d_St_isCircuit_34 : decode prog_4_method_17_code 34 = .ok (.ixor, 1) := by decide +kernel
theorem d_St_isCircuit_35 : decode prog_4_method_17_code 35 = .ok (.iand, 1) := by decide +kernel
theorem d_St_isCircuit_36 : decode prog_4_method_17_code 36 = .ok (.istore 4, 2) := by decide +kernel
theorem d_St_isCircuit_38 : decode prog_4_method_17_code 38 = .ok (.iload 4, 2) := by decide +kernel
theorem d_St_isCircuit_40 : decode prog_4_method_17_code 40 = .ok (.iload_n 1, 1) := by decide +kernel
theorem d_St_isCircuit_41 : decode prog_4_method_17_code 41 = .ok (.if_icmp .eq 18, 3) := by decide +kernel
theorem d_St_isCircuit_44 : decode prog_4_method_17_code 44 = .ok (.aload_n 0, 1) := by decide +kernel
theorem d_St_isCircuit_45 : decode prog_4_method_17_code 45 = .ok (.getfield 9, 3) := by decide +kernel
theorem d_St_isCircuit_48 : decode prog_4_method_17_code 48 = .ok (.iload 4, 2) := by decide +kernel
theorem d_St_isCircuit_50 : decode prog_4_method_17_code 50 = .ok (.iaload, 1) := by decide +kernel
theorem d_St_isCircuit_51 : decode prog_4_method_17_code 51 = .ok (.iload_n 2, 1) := by decide +kernel
theorem d_St_isCircuit_52 : decode prog_4_method_17_code 52 = .ok (.iconst 1, 1) := by decide +kernel
theorem d_St_isCircuit_53 : decode prog_4_method_17_code 53 = .ok (.isub, 1) := by decide +kernel
theorem d_St_isCircuit_54 : decode prog_4_method_17_code 54 = .ok (.if_icmp .eq 5, 3) := by decide +kernel
theorem d_St_isCircuit_57 : decode prog_4_method_17_code 57 = .ok (.iconst 0, 1) := by decide +kernel
theorem d_St_isCircuit_58 : decode prog_4_method_17_code 58 = .ok (.ireturn, 1) := by decide +kernel
theorem d_St_isCircuit_59 : decode prog_4_method_17_code 59 = .ok (.iinc 3 1, 3) := by decide +kernel
theorem d_St_isCircuit_62 : decode prog_4_method_17_code 62 = .ok (.goto (-41), 3) := by decide +kernel
theorem d_St_isCircuit_65 : decode prog_4_method_17_code 65 = .ok (.iconst 1, 1) := by decide +kernel
theorem d_St_isCircuit_66 : decode prog_4_method_17_code 66 = .ok (.ireturn, 1) := by decide +kernel
def f_S_isCircuit (s_columnCount : Int32) (s_ranks_n : Nat) (s_ranks : Nat → Int32) (set0 : Int32) : Option (Int32) :=
  ck_b1 (f_bitCount set0) <| fun r_1 => ck_in set0 s_ranks_n <| ck_if ((s_ranks set0.toNatClampNeg) = (r_1 - 1)) (lo1 (fun k_21 (v3_5 : Int32) => ck_if (s_columnCount ≤ v3_5) (some 1) (ck_nm (set0 &&& (((1 : Int32) <<< (v3_5 &&& 31)) ^^^ (-1))) <| fun x_7 => ck_jn (fun (_ : Unit) => ck_nm (v3_5 + 1) <| fun x_8 => k_21 x_8) <| fun k_59 => ck_if (x_7 = set0) (k_59 ()) (ck_in x_7 s_ranks_n <| ck_if ((s_ranks x_7.toNatClampNeg) = (r_1 - 1)) (k_59 ()) (some 0)))) ck_F 0) (some 0)
set_option maxHeartbeats 4000000 in
set_option maxRecDepth 100000 in
theorem c_S_isCircuit (l : Launch) (dC : Nat → ClassId) (dI : Nat → Nat → Nat) (cI cJ cB cZ cT cN : ClassId) (sz : Nat) (h_s : Nat) (h_s_ranks : Nat) (h_s_signs : Nat) (h_s_members : Nat) (h_s_starts : Nat) (h_s_defects : Nat) (s_columnCount : Int32) (s_fullRank : Int32) (s_ranks_n : Nat) (s_ranks : Nat → Int32) (set0 : Int32) (r : Int32) (h : f_S_isCircuit s_columnCount s_ranks_n s_ranks set0 = some r) : Met l y_St_isCircuit w_St_isCircuit ({ frames := 1, cells := 0, slots := 0, locals := 20 } : Room) (va_Pc [.ref h_s, .int set0] (fun U => U.heap.size = sz ∧ va_P (dC, dI) cl_all [(h_s, .inr (2, [.int s_columnCount, .int s_fullRank, .ref h_s_ranks, .ref h_s_signs, .ref h_s_members, .ref h_s_starts, .ref h_s_defects])), (h_s_ranks, .inl (cI, s_ranks_n, .inl s_ranks))] U.heap ∧ va_K (dC, dI) cl_all [(cI, .int), (cJ, .long), (cB, .byte), (cZ, .boolean), (cT, .object "BasisWalk$Table"), (cN, .object "BasisWalkModel$Num")] U ∧ NW U ∧ va_D (fun _ => True) [(h_s, .inr (2, [.int s_columnCount, .int s_fullRank, .ref h_s_ranks, .ref h_s_signs, .ref h_s_members, .ref h_s_starts, .ref h_s_defects])), (h_s_ranks, .inl (cI, s_ranks_n, .inl s_ranks))])) (va_Qi (fun (v : Int32) (_ : Unit) => v = r) (fun (u : Unit) (t : State) => va_P (dC, dI) cl_all [(h_s, .inr (2, [.int s_columnCount, .int s_fullRank, .ref h_s_ranks, .ref h_s_signs, .ref h_s_members, .ref h_s_starts, .ref h_s_defects])), (h_s_ranks, .inl (cI, s_ranks_n, .inl s_ranks))] t.heap ∧ va_K (dC, dI) cl_all [(cI, .int), (cJ, .long), (cB, .byte), (cZ, .boolean), (cT, .object "BasisWalk$Table"), (cN, .object "BasisWalkModel$Num")] t ∧ va_D (va_A [(h_s, .inr (2, [.int s_columnCount, .int s_fullRank, .ref h_s_ranks, .ref h_s_signs, .ref h_s_members, .ref h_s_starts, .ref h_s_defects])), (h_s_ranks, .inl (cI, s_ranks_n, .inl s_ranks))] sz) [(h_s, .inr (2, [.int s_columnCount, .int s_fullRank, .ref h_s_ranks, .ref h_s_signs, .ref h_s_members, .ref h_s_starts, .ref h_s_defects])), (h_s_ranks, .inl (cI, s_ranks_n, .inl s_ranks))]) (va_A [(h_s, .inr (2, [.int s_columnCount, .int s_fullRank, .ref h_s_ranks, .ref h_s_signs, .ref h_s_members, .ref h_s_starts, .ref h_s_defects])), (h_s_ranks, .inl (cI, s_ranks_n, .inl s_ranks))] sz)) 0 0 (va_A [(h_s, .inr (2, [.int s_columnCount, .int s_fullRank, .ref h_s_ranks, .ref h_s_signs, .ref h_s_members, .ref h_s_starts, .ref h_s_defects])), (h_s_ranks, .inl (cI, s_ranks_n, .inl s_ranks))] sz) := by
  refine Met.ofW (cc := prog_4_method_17_code) (maxL := 5) (ret := (Option.some Jvm.ClassFile.FieldType.boolean)) (by decide) rfl ?_
  intro p e s m args below meth c s₁ B hml hv
  obtain ⟨hAR, hsz, hP, hK, hN, hD0⟩ := hv
  have hx := B.exec
  have hb := B.bytes
  have hr := B.returns
  have hts := atoms_spec (ws := w_St_isCircuit) B.pre
  have hown : s.vm.findClass "BasisWalk$Study" = some m.cls := findClass_of_methodNamed B.named
  have hlocks := B.notSynchronized
  clear B
  subst hsz
  have hD := hD0.self (sz := s.heap.size)
  generalize hAe : va_A [(h_s, .inr (2, [.int s_columnCount, .int s_fullRank, .ref h_s_ranks, .ref h_s_signs, .ref h_s_members, .ref h_s_starts, .ref h_s_defects])), (h_s_ranks, .inl (cI, s_ranks_n, .inl s_ranks))] s.heap.size = A at hD ⊢
  have hA : ∀ q : Nat, s.heap.size ≤ q → A q := fun q h => by rw [← hAe]; exact Or.inr h
  clear hAe hD0
  have hS : va_S A s.heap s.heap [] := va_S.rf
  have hl := lv_entry ([.ref h_s, .int set0]) (n := 5) (Nat.le_of_ble_eq_true rfl)
  subst hAR
  rw [lg_entry_eq]
  generalize (lg_sl ([.ref h_s, .int set0]) ++ List.replicate (5 - (lg_sl ([.ref h_s, .int set0])).length) Slot.unset).toArray = ls at hl ⊢
  have hl : lv_has ls 5 [(0, .ref h_s), (1, .int set0)] := hl
  change W p l e ({ frames := 1, cells := 0, slots := 0, locals := 20 } : Room) s m _ below meth c s.heap [] 0 0 _ _
  generalize hARe : ([.ref h_s, .int set0] : List Value).toArray = AR at hts ⊢
  clear hARe
  generalize hQ : MQ below _ AR s 0 0 A = QQ
  have fl0 := hts _ (List.mem_cons_of_mem _ tw_35)
  have iw1 := (fun w hw => List.mem_cons_of_mem _ (in_St w hw) : ∀ w ∈ u_ws "BasisWalk$Study" T_St 7, w ∈ w_St_isCircuit)
  have fl2 := hts _ (List.mem_cons_of_mem _ tw_32)
  obtain ⟨H, hHe⟩ : ∃ H : Heap, H = s.heap := ⟨_, rfl⟩
  rw [← hHe] at hP ⊢
  replace hS : va_S A s.heap H [] := by rw [hHe]; exact va_S.rf
  clear hHe
  unfold f_S_isCircuit at h
  refine lv_iload_n hx hb d_St_isCircuit_0 rfl (lv_at hl 1 rfl) ?_
  obtain ⟨r_1, hc_2, h⟩ := ck_b1_s h
  have hPc := hP.sub (ws' := []) [] rfl
  have hDc := hD.sub (ws' := []) [] (by decide) rfl
  have hFc := va_free (wc := []) hD hS hA [] rfl
  refine va_calli (va_runS (As := [.int set0]) (rest := []) ⟨hx, hb, hml, hown, hts⟩ (c_bitCount l dC dI cI cJ cB cZ cT cN H.size set0 _ hc_2) (va_cwS 1 hts (tb_S tw_242 tw_196 tw_10 tw_197) rfl rfl rfl (by decide +kernel) ⟨Nat.le_of_ble_eq_true rfl, Nat.le_of_ble_eq_true rfl⟩) ⟨fun a U g mk q => by obtain ⟨q0, q1, qP, qK, qN, qD⟩ := q; exact ⟨q0, q1, qP, va_K.moved (u := U) (U := U.calling g mk a) (Vm.Alike.refl U.vm) qK, qN.same rfl, qD⟩, fun U hU hW => ⟨rfl, by rw [hU], by rw [hU]; exact hPc, va_K.moved hW.alike hK, hN.warm hW, hDc.weaken (fun _ _ _ _ => trivial)⟩⟩ rfl rfl hl.1 rfl (lv_room (Nat.le_of_ble_eq_true rfl)) d_St_isCircuit_1 ⟨Nat.zero_le _, Nat.zero_le _⟩) hS (fun q _ h => hFc q h) hFc (fun rr u t H1 locs ht hvm hw hB hz1 hk1 hS => ?_)
  replace hw := hw.symm
  subst hw
  obtain ⟨hP1, -, hD1⟩ := hB
  rw [ht] at hP1
  obtain ⟨hP, hD⟩ := va_join (wr := [(h_s, .inr (2, [.int s_columnCount, .int s_fullRank, .ref h_s_ranks, .ref h_s_signs, .ref h_s_members, .ref h_s_starts, .ref h_s_defects])), (h_s_ranks, .inl (cI, s_ranks_n, .inl s_ranks))]) (w1 := []) hP hD [] [0, 1] rfl rfl (by decide) (by decide) hk1 hFc hP1 hD1
  generalize H1 = H at hP hS ⊢
  have hP : va_P (dC, dI) cl_all [(h_s, .inr (2, [.int s_columnCount, .int s_fullRank, .ref h_s_ranks, .ref h_s_signs, .ref h_s_members, .ref h_s_starts, .ref h_s_defects])), (h_s_ranks, .inl (cI, s_ranks_n, .inl s_ranks))] H := hP.sub [0, 1] rfl
  have hD : va_D A [(h_s, .inr (2, [.int s_columnCount, .int s_fullRank, .ref h_s_ranks, .ref h_s_signs, .ref h_s_members, .ref h_s_starts, .ref h_s_defects])), (h_s_ranks, .inl (cI, s_ranks_n, .inl s_ranks))] := hD.sub [0, 1] (by decide) rfl
  refine lv_istore_n (lv' := [(2, .int r_1), (0, .ref h_s), (1, .int set0)]) hx hb d_St_isCircuit_4 rfl hl (by decide) rfl (fun ls hl => ?_)
  refine lv_aload_n hx hb d_St_isCircuit_5 rfl (lv_at hl 1 rfl) ?_
  refine va_get (D := (dC, dI)) (ci := 2) (v := .ref h_s_ranks) (C := "BasisWalk$Study") (T := T_St) (N := 7) hx hb hts iw1 hown hK hP 0 rfl rfl 2 (by decide) fl0 (fun _ h9 => h9) rfl d_St_isCircuit_6 ?_
  refine lv_iload_n hx hb d_St_isCircuit_9 rfl (lv_at hl 2 rfl) ?_
  obtain ⟨g_3, h⟩ := ck_in_s h
  refine va_iald hx hb hK hP 1 0 rfl rfl g_3 d_St_isCircuit_10 ?_
  refine lv_iload_n hx hb d_St_isCircuit_11 rfl (lv_at hl 0 rfl) ?_
  refine lv_iconst (v := 1) hx hb d_St_isCircuit_12 (by decide) ?_
  refine lv_isub hx hb d_St_isCircuit_13 ?_
  refine lv_icmp_eq (tgt := 19) hx hb d_St_isCircuit_14 (by decide) (fun c_4 => ?_) (fun c_4 => ?_)
  · replace h := ck_if_t h c_4
    refine lv_iconst (v := 0) hx hb d_St_isCircuit_19 (by decide) ?_
    refine lv_istore_n (lv' := [(3, .int 0), (2, .int r_1), (0, .ref h_s), (1, .int set0)]) hx hb d_St_isCircuit_20 rfl hl (by decide) rfl (fun ls hl => ?_)
    refine lo1_W (r := r) (fun (v3_5 : Int32) => ∀ (H : Heap) (locs : List Loc), va_P (dC, dI) cl_all [(h_s, .inr (2, [.int s_columnCount, .int s_fullRank, .ref h_s_ranks, .ref h_s_signs, .ref h_s_members, .ref h_s_starts, .ref h_s_defects])), (h_s_ranks, .inl (cI, s_ranks_n, .inl s_ranks))] H → va_D A [(h_s, .inr (2, [.int s_columnCount, .int s_fullRank, .ref h_s_ranks, .ref h_s_signs, .ref h_s_members, .ref h_s_starts, .ref h_s_defects])), (h_s_ranks, .inl (cI, s_ranks_n, .inl s_ranks))] → va_S A s.heap H locs → ∀ ls : Array Slot, lv_has ls 5 [(0, .ref h_s), (1, .int set0), (2, .int r_1), (3, .int v3_5)] → W p l e ({ frames := 1, cells := 0, slots := 0, locals := 20 } : Room) s m AR below meth c H locs 0 0 QQ (F0 m 21 ls [])) ?_ _ _ h _ _ hP hD hS _ (lv_sub hl [2, 3, 1, 0] rfl)
    intro k_21 v3_5 J_21 h H locs hP hD hS ls hl
    refine lv_iload_n hx hb d_St_isCircuit_21 rfl (lv_at hl 3 rfl) ?_
    refine lv_aload_n hx hb d_St_isCircuit_22 rfl (lv_at hl 0 rfl) ?_
    refine va_get (D := (dC, dI)) (ci := 2) (v := .int s_columnCount) (C := "BasisWalk$Study") (T := T_St) (N := 7) hx hb hts iw1 hown hK hP 0 rfl rfl 0 (by decide) fl2 (fun _ h9 => h9) rfl d_St_isCircuit_23 ?_
    refine lv_icmp_ge (tgt := 65) hx hb d_St_isCircuit_26 (by decide) (fun c_6 => ?_) (fun c_6 => ?_)
    · replace h := ck_if_t h c_6
      refine lv_iconst (v := 1) hx hb d_St_isCircuit_65 (by decide) ?_
      obtain rfl := Option.some.inj h
      subst hQ
      exact W.zret (ty := .boolean) (v := 1) hx hb hr rfl (fun t ht hW => ⟨⟨1, (), rfl, rfl, by rw [ht]; exact hP, va_K.moved hW.alike hK, hD⟩, hS.F ht⟩) hS.2.2 d_St_isCircuit_66
    · replace h := ck_if_f h c_6
      refine lv_iload_n hx hb d_St_isCircuit_29 rfl (lv_at hl 1 rfl) ?_
      refine lv_iconst (v := 1) hx hb d_St_isCircuit_30 (by decide) ?_
      refine lv_iload_n hx hb d_St_isCircuit_31 rfl (lv_at hl 3 rfl) ?_
      refine lv_ishl hx hb d_St_isCircuit_32 ?_
      refine lv_iconst (v := (-1)) hx hb d_St_isCircuit_33 (by decide) ?_
      refine lv_ixor hx hb d_St_isCircuit_34 ?_
      refine lv_iand hx hb d_St_isCircuit_35 ?_
      refine lv_topi (fun x_7 ex_7 => ?_)
      replace h := ck_nm_s h ex_7
      refine lv_istore (lv' := [(4, .int x_7), (0, .ref h_s), (1, .int set0), (2, .int r_1), (3, .int v3_5)]) hx hb d_St_isCircuit_36 hl (by decide) rfl (fun ls hl => ?_)
      refine lv_iload hx hb d_St_isCircuit_38 (lv_at hl 0 rfl) ?_
      refine lv_iload_n hx hb d_St_isCircuit_40 rfl (lv_at hl 2 rfl) ?_
      refine ck_jn_W h (fun k' => ∀ u : Unit, k' u = some r → ∀ (H : Heap) (locs : List Loc), va_P (dC, dI) cl_all [(h_s, .inr (2, [.int s_columnCount, .int s_fullRank, .ref h_s_ranks, .ref h_s_signs, .ref h_s_members, .ref h_s_starts, .ref h_s_defects])), (h_s_ranks, .inl (cI, s_ranks_n, .inl s_ranks))] H → va_D A [(h_s, .inr (2, [.int s_columnCount, .int s_fullRank, .ref h_s_ranks, .ref h_s_signs, .ref h_s_members, .ref h_s_starts, .ref h_s_defects])), (h_s_ranks, .inl (cI, s_ranks_n, .inl s_ranks))] → va_S A s.heap H locs → ∀ ls : Array Slot, lv_has ls 5 [(0, .ref h_s), (1, .int set0), (2, .int r_1), (3, .int v3_5)] → W p l e ({ frames := 1, cells := 0, slots := 0, locals := 20 } : Room) s m AR below meth c H locs 0 0 QQ (F0 m 59 ls [])) ?_ ?_
      · intro _ h H locs hP hD hS ls hl
        obtain ⟨x_8, ex_8⟩ : ∃ y : Int32, y = v3_5 + 1 := ⟨_, rfl⟩
        replace h := ck_nm_s h ex_8
        refine lv_iinc (v := x_8) (lv' := [(3, .int x_8), (0, .ref h_s), (1, .int set0), (2, .int r_1)]) hx hb d_St_isCircuit_59 hl (k := 3) rfl (by rw [ex_8]; rfl) (by decide) rfl (fun ls hl => ?_)
        refine lv_goto (tgt := 21) hx hb d_St_isCircuit_62 (by decide) ?_
        exact J_21 _ h _ _ hP hD hS _ (lv_sub hl [1, 2, 3, 0] rfl)
      · intro k_59 J_59 h
        refine lv_icmp_eq (tgt := 59) hx hb d_St_isCircuit_41 (by decide) (fun c_9 => ?_) (fun c_9 => ?_)
        · replace h := ck_if_t h c_9
          exact J_59 _ h _ _ hP hD hS _ (lv_sub hl [1, 2, 3, 4] rfl)
        · replace h := ck_if_f h c_9
          refine lv_aload_n hx hb d_St_isCircuit_44 rfl (lv_at hl 1 rfl) ?_
          refine va_get (D := (dC, dI)) (ci := 2) (v := .ref h_s_ranks) (C := "BasisWalk$Study") (T := T_St) (N := 7) hx hb hts iw1 hown hK hP 0 rfl rfl 2 (by decide) fl0 (fun _ h9 => h9) rfl d_St_isCircuit_45 ?_
          refine lv_iload hx hb d_St_isCircuit_48 (lv_at hl 0 rfl) ?_
          obtain ⟨g_10, h⟩ := ck_in_s h
          refine va_iald hx hb hK hP 1 0 rfl rfl g_10 d_St_isCircuit_50 ?_
          refine lv_iload_n hx hb d_St_isCircuit_51 rfl (lv_at hl 3 rfl) ?_
          refine lv_iconst (v := 1) hx hb d_St_isCircuit_52 (by decide) ?_
          refine lv_isub hx hb d_St_isCircuit_53 ?_
          refine lv_icmp_eq (tgt := 59) hx hb d_St_isCircuit_54 (by decide) (fun c_11 => ?_) (fun c_11 => ?_)
          · replace h := ck_if_t h c_11
            exact J_59 _ h _ _ hP hD hS _ (lv_sub hl [1, 2, 3, 4] rfl)
          · replace h := ck_if_f h c_11
            refine lv_iconst (v := 0) hx hb d_St_isCircuit_57 (by decide) ?_
            obtain rfl := Option.some.inj h
            subst hQ
            exact W.zret (ty := .boolean) (v := 0) hx hb hr rfl (fun t ht hW => ⟨⟨0, (), rfl, rfl, by rw [ht]; exact hP, va_K.moved hW.alike hK, hD⟩, hS.F ht⟩) hS.2.2 d_St_isCircuit_58
  · replace h := ck_if_f h c_4
    refine lv_iconst (v := 0) hx hb d_St_isCircuit_17 (by decide) ?_
    obtain rfl := Option.some.inj h
    subst hQ
    exact W.zret (ty := .boolean) (v := 0) hx hb hr rfl (fun t ht hW => ⟨⟨0, (), rfl, rfl, by rw [ht]; exact hP, va_K.moved hW.alike hK, hD⟩, hS.F ht⟩) hS.2.2 d_St_isCircuit_18
theorem d_St_isFlat_0 : decode prog_4_method_19_code 0 = .ok (.iconst 0, 1) := by decide +kernel
theorem d_St_isFlat_1 : decode prog_4_method_19_code 1 = .ok (.istore_n 2, 1) := by decide +kernel
theorem d_St_isFlat_2 : decode prog_4_method_19_code 2 = .ok (.iload_n 2, 1) := by decide +kernel
theorem d_St_isFlat_3 : decode prog_4_method_19_code 3 = .ok (.aload_n 0, 1) := by decide +kernel
theorem d_St_isFlat_4 : decode prog_4_method_19_code 4 = .ok (.getfield 33, 3) := by decide +kernel
theorem d_St_isFlat_7 : decode prog_4_method_19_code 7 = .ok (.if_icmp .ge 37, 3) := by decide +kernel
theorem d_St_isFlat_10 : decode prog_4_method_19_code 10 = .ok (.iload_n 1, 1) := by decide +kernel
theorem d_St_isFlat_11 : decode prog_4_method_19_code 11 = .ok (.iconst 1, 1) := by decide +kernel
theorem d_St_isFlat_12 : decode prog_4_method_19_code 12 = .ok (.iload_n 2, 1) := by decide +kernel
theorem d_St_isFlat_13 : decode prog_4_method_19_code 13 = .ok (.ishl, 1) := by decide +kernel
theorem d_St_isFlat_14 : decode prog_4_method_19_code 14 = .ok (.ior, 1) := by decide +kernel
theorem d_St_isFlat_15 : decode prog_4_method_19_code 15 = .ok (.istore_n 3, 1) := by decide +kernel
theorem d_St_isFlat_16 : decode prog_4_method_19_code 16 = .ok (.iload_n 3, 1) := by decide +kernel
theorem d_St_isFlat_17 : decode prog_4_method_19_code 17 = .ok (.iload_n 1, 1) := by decide +kernel
theorem d_St_isFlat_18 : decode prog_4_method_19_code 18 = .ok (.if_icmp .eq 20, 3) := by decide +kernel
theorem d_St_isFlat_21 : decode prog_4_method_19_code 21 = .ok (.aload_n 0, 1) := by decide +kernel
theorem d_St_isFlat_22 : decode prog_4_method_19_code 22 = .ok (.getfield 9, 3) := by decide +kernel
theorem d_St_isFlat_25 : decode prog_4_method_19_code 25 = .ok (.iload_n 3, 1) := by decide +kernel
theorem d_St_isFlat_26 : decode prog_4_method_19_code 26 = .ok (.iaload, 1) := by decide +kernel
theorem d_St_isFlat_27 : decode prog_4_method_19_code 27 = .ok (.aload_n 0, 1) := by decide +kernel
theorem d_St_isFlat_28 : decode prog_4_method_19_code 28 = .ok (.getfield 9, 3) := by decide +kernel
theorem d_St_isFlat_31 : decode prog_4_method_19_code 31 = .ok (.iload_n 1, 1) := by decide +kernel
theorem d_St_isFlat_32 : decode prog_4_method_19_code 32 = .ok (.iaload, 1) := by decide +kernel
theorem d_St_isFlat_33 : decode prog_4_method_19_code 33 = .ok (.if_icmp .ne 5, 3) := by decide +kernel
theorem d_St_isFlat_36 : decode prog_4_method_19_code 36 = .ok (.iconst 0, 1) := by decide +kernel
theorem d_St_isFlat_37 : decode prog_4_method_19_code 37 = .ok (.ireturn, 1) := by decide +kernel
theorem d_St_isFlat_38 : decode prog_4_method_19_code 38 = .ok (.iinc 2 1, 3) := by decide +kernel
theorem d_St_isFlat_41 : decode prog_4_method_19_code 41 = .ok (.goto (-39), 3) := by decide +kernel
theorem d_St_isFlat_44 : decode prog_4_method_19_code 44 = .ok (.iconst 1, 1) := by decide +kernel
theorem d_St_isFlat_45 : decode prog_4_method_19_code 45 = .ok (.ireturn, 1) := by decide +kernel
def f_S_isFlat (s_columnCount : Int32) (s_ranks_n : Nat) (s_ranks : Nat → Int32) (set0 : Int32) : Option (Int32) :=
  lo1 (fun k_2 (v2_1 : Int32) => ck_if (s_columnCount ≤ v2_1) (some 1) (ck_nm (set0 ||| ((1 : Int32) <<< (v2_1 &&& 31))) <| fun x_3 => ck_jn (fun (_ : Unit) => ck_nm (v2_1 + 1) <| fun x_4 => k_2 x_4) <| fun k_38 => ck_if (x_3 = set0) (k_38 ()) (ck_in x_3 s_ranks_n <| ck_in set0 s_ranks_n <| ck_if ((s_ranks x_3.toNatClampNeg) = (s_ranks set0.toNatClampNeg)) (some 0) (k_38 ())))) ck_F 0
set_option maxHeartbeats 4000000 in
set_option maxRecDepth 100000 in
theorem c_S_isFlat (l : Launch) (dC : Nat → ClassId) (dI : Nat → Nat → Nat) (cI cJ cB cZ cT cN : ClassId) (sz : Nat) (h_s : Nat) (h_s_ranks : Nat) (h_s_signs : Nat) (h_s_members : Nat) (h_s_starts : Nat) (h_s_defects : Nat) (s_columnCount : Int32) (s_fullRank : Int32) (s_ranks_n : Nat) (s_ranks : Nat → Int32) (set0 : Int32) (r : Int32) (h : f_S_isFlat s_columnCount s_ranks_n s_ranks set0 = some r) : Met l y_St_isFlat w_St_isFlat ({ frames := 0, cells := 0, slots := 0, locals := 0 } : Room) (va_Pc [.ref h_s, .int set0] (fun U => U.heap.size = sz ∧ va_P (dC, dI) cl_all [(h_s, .inr (2, [.int s_columnCount, .int s_fullRank, .ref h_s_ranks, .ref h_s_signs, .ref h_s_members, .ref h_s_starts, .ref h_s_defects])), (h_s_ranks, .inl (cI, s_ranks_n, .inl s_ranks))] U.heap ∧ va_K (dC, dI) cl_all [(cI, .int), (cJ, .long), (cB, .byte), (cZ, .boolean), (cT, .object "BasisWalk$Table"), (cN, .object "BasisWalkModel$Num")] U ∧ NW U ∧ va_D (fun _ => True) [(h_s, .inr (2, [.int s_columnCount, .int s_fullRank, .ref h_s_ranks, .ref h_s_signs, .ref h_s_members, .ref h_s_starts, .ref h_s_defects])), (h_s_ranks, .inl (cI, s_ranks_n, .inl s_ranks))])) (va_Qi (fun (v : Int32) (_ : Unit) => v = r) (fun (u : Unit) (t : State) => va_P (dC, dI) cl_all [(h_s, .inr (2, [.int s_columnCount, .int s_fullRank, .ref h_s_ranks, .ref h_s_signs, .ref h_s_members, .ref h_s_starts, .ref h_s_defects])), (h_s_ranks, .inl (cI, s_ranks_n, .inl s_ranks))] t.heap ∧ va_K (dC, dI) cl_all [(cI, .int), (cJ, .long), (cB, .byte), (cZ, .boolean), (cT, .object "BasisWalk$Table"), (cN, .object "BasisWalkModel$Num")] t ∧ va_D (va_A [(h_s, .inr (2, [.int s_columnCount, .int s_fullRank, .ref h_s_ranks, .ref h_s_signs, .ref h_s_members, .ref h_s_starts, .ref h_s_defects])), (h_s_ranks, .inl (cI, s_ranks_n, .inl s_ranks))] sz) [(h_s, .inr (2, [.int s_columnCount, .int s_fullRank, .ref h_s_ranks, .ref h_s_signs, .ref h_s_members, .ref h_s_starts, .ref h_s_defects])), (h_s_ranks, .inl (cI, s_ranks_n, .inl s_ranks))]) (va_A [(h_s, .inr (2, [.int s_columnCount, .int s_fullRank, .ref h_s_ranks, .ref h_s_signs, .ref h_s_members, .ref h_s_starts, .ref h_s_defects])), (h_s_ranks, .inl (cI, s_ranks_n, .inl s_ranks))] sz)) 0 0 (va_A [(h_s, .inr (2, [.int s_columnCount, .int s_fullRank, .ref h_s_ranks, .ref h_s_signs, .ref h_s_members, .ref h_s_starts, .ref h_s_defects])), (h_s_ranks, .inl (cI, s_ranks_n, .inl s_ranks))] sz) := by
  refine Met.ofW (cc := prog_4_method_19_code) (maxL := 4) (ret := (Option.some Jvm.ClassFile.FieldType.boolean)) (by decide) rfl ?_
  intro p e s m args below meth c s₁ B hml hv
  obtain ⟨hAR, hsz, hP, hK, hN, hD0⟩ := hv
  have hx := B.exec
  have hb := B.bytes
  have hr := B.returns
  have hts := atoms_spec (ws := w_St_isFlat) B.pre
  have hown : s.vm.findClass "BasisWalk$Study" = some m.cls := findClass_of_methodNamed B.named
  have hlocks := B.notSynchronized
  clear B
  subst hsz
  have hD := hD0.self (sz := s.heap.size)
  generalize hAe : va_A [(h_s, .inr (2, [.int s_columnCount, .int s_fullRank, .ref h_s_ranks, .ref h_s_signs, .ref h_s_members, .ref h_s_starts, .ref h_s_defects])), (h_s_ranks, .inl (cI, s_ranks_n, .inl s_ranks))] s.heap.size = A at hD ⊢
  have hA : ∀ q : Nat, s.heap.size ≤ q → A q := fun q h => by rw [← hAe]; exact Or.inr h
  clear hAe hD0
  have hS : va_S A s.heap s.heap [] := va_S.rf
  have hl := lv_entry ([.ref h_s, .int set0]) (n := 4) (Nat.le_of_ble_eq_true rfl)
  subst hAR
  rw [lg_entry_eq]
  generalize (lg_sl ([.ref h_s, .int set0]) ++ List.replicate (4 - (lg_sl ([.ref h_s, .int set0])).length) Slot.unset).toArray = ls at hl ⊢
  have hl : lv_has ls 4 [(0, .ref h_s), (1, .int set0)] := hl
  change W p l e ({ frames := 0, cells := 0, slots := 0, locals := 0 } : Room) s m _ below meth c s.heap [] 0 0 _ _
  generalize hARe : ([.ref h_s, .int set0] : List Value).toArray = AR at hts ⊢
  clear hARe
  generalize hQ : MQ below _ AR s 0 0 A = QQ
  have fl0 := hts _ (List.mem_cons_of_mem _ tw_32)
  have iw1 := (fun w hw => List.mem_cons_of_mem _ (in_St w hw) : ∀ w ∈ u_ws "BasisWalk$Study" T_St 7, w ∈ w_St_isFlat)
  have fl2 := hts _ (List.mem_cons_of_mem _ tw_35)
  obtain ⟨H, hHe⟩ : ∃ H : Heap, H = s.heap := ⟨_, rfl⟩
  rw [← hHe] at hP ⊢
  replace hS : va_S A s.heap H [] := by rw [hHe]; exact va_S.rf
  clear hHe
  unfold f_S_isFlat at h
  refine lv_iconst (v := 0) hx hb d_St_isFlat_0 (by decide) ?_
  refine lv_istore_n (lv' := [(2, .int 0), (0, .ref h_s), (1, .int set0)]) hx hb d_St_isFlat_1 rfl hl (by decide) rfl (fun ls hl => ?_)
  refine lo1_W (r := r) (fun (v2_1 : Int32) => ∀ (H : Heap) (locs : List Loc), va_P (dC, dI) cl_all [(h_s, .inr (2, [.int s_columnCount, .int s_fullRank, .ref h_s_ranks, .ref h_s_signs, .ref h_s_members, .ref h_s_starts, .ref h_s_defects])), (h_s_ranks, .inl (cI, s_ranks_n, .inl s_ranks))] H → va_D A [(h_s, .inr (2, [.int s_columnCount, .int s_fullRank, .ref h_s_ranks, .ref h_s_signs, .ref h_s_members, .ref h_s_starts, .ref h_s_defects])), (h_s_ranks, .inl (cI, s_ranks_n, .inl s_ranks))] → va_S A s.heap H locs → ∀ ls : Array Slot, lv_has ls 4 [(0, .ref h_s), (1, .int set0), (2, .int v2_1)] → W p l e ({ frames := 0, cells := 0, slots := 0, locals := 0 } : Room) s m AR below meth c H locs 0 0 QQ (F0 m 2 ls [])) ?_ _ _ h _ _ hP hD hS _ (lv_sub hl [1, 2, 0] rfl)
  intro k_2 v2_1 J_2 h H locs hP hD hS ls hl
  refine lv_iload_n hx hb d_St_isFlat_2 rfl (lv_at hl 2 rfl) ?_
  refine lv_aload_n hx hb d_St_isFlat_3 rfl (lv_at hl 0 rfl) ?_
  refine va_get (D := (dC, dI)) (ci := 2) (v := .int s_columnCount) (C := "BasisWalk$Study") (T := T_St) (N := 7) hx hb hts iw1 hown hK hP 0 rfl rfl 0 (by decide) fl0 (fun _ h9 => h9) rfl d_St_isFlat_4 ?_
  refine lv_icmp_ge (tgt := 44) hx hb d_St_isFlat_7 (by decide) (fun c_2 => ?_) (fun c_2 => ?_)
  · replace h := ck_if_t h c_2
    refine lv_iconst (v := 1) hx hb d_St_isFlat_44 (by decide) ?_
    obtain rfl := Option.some.inj h
    subst hQ
    exact W.zret (ty := .boolean) (v := 1) hx hb hr rfl (fun t ht hW => ⟨⟨1, (), rfl, rfl, by rw [ht]; exact hP, va_K.moved hW.alike hK, hD⟩, hS.F ht⟩) hS.2.2 d_St_isFlat_45
  · replace h := ck_if_f h c_2
    refine lv_iload_n hx hb d_St_isFlat_10 rfl (lv_at hl 1 rfl) ?_
    refine lv_iconst (v := 1) hx hb d_St_isFlat_11 (by decide) ?_
    refine lv_iload_n hx hb d_St_isFlat_12 rfl (lv_at hl 2 rfl) ?_
    refine lv_ishl hx hb d_St_isFlat_13 ?_
    refine lv_ior hx hb d_St_isFlat_14 ?_
    refine lv_topi (fun x_3 ex_3 => ?_)
    replace h := ck_nm_s h ex_3
    refine lv_istore_n (lv' := [(3, .int x_3), (0, .ref h_s), (1, .int set0), (2, .int v2_1)]) hx hb d_St_isFlat_15 rfl hl (by decide) rfl (fun ls hl => ?_)
    refine lv_iload_n hx hb d_St_isFlat_16 rfl (lv_at hl 0 rfl) ?_
    refine lv_iload_n hx hb d_St_isFlat_17 rfl (lv_at hl 2 rfl) ?_
    refine ck_jn_W h (fun k' => ∀ u : Unit, k' u = some r → ∀ (H : Heap) (locs : List Loc), va_P (dC, dI) cl_all [(h_s, .inr (2, [.int s_columnCount, .int s_fullRank, .ref h_s_ranks, .ref h_s_signs, .ref h_s_members, .ref h_s_starts, .ref h_s_defects])), (h_s_ranks, .inl (cI, s_ranks_n, .inl s_ranks))] H → va_D A [(h_s, .inr (2, [.int s_columnCount, .int s_fullRank, .ref h_s_ranks, .ref h_s_signs, .ref h_s_members, .ref h_s_starts, .ref h_s_defects])), (h_s_ranks, .inl (cI, s_ranks_n, .inl s_ranks))] → va_S A s.heap H locs → ∀ ls : Array Slot, lv_has ls 4 [(0, .ref h_s), (1, .int set0), (2, .int v2_1)] → W p l e ({ frames := 0, cells := 0, slots := 0, locals := 0 } : Room) s m AR below meth c H locs 0 0 QQ (F0 m 38 ls [])) ?_ ?_
    · intro _ h H locs hP hD hS ls hl
      obtain ⟨x_4, ex_4⟩ : ∃ y : Int32, y = v2_1 + 1 := ⟨_, rfl⟩
      replace h := ck_nm_s h ex_4
      refine lv_iinc (v := x_4) (lv' := [(2, .int x_4), (0, .ref h_s), (1, .int set0)]) hx hb d_St_isFlat_38 hl (k := 2) rfl (by rw [ex_4]; rfl) (by decide) rfl (fun ls hl => ?_)
      refine lv_goto (tgt := 2) hx hb d_St_isFlat_41 (by decide) ?_
      exact J_2 _ h _ _ hP hD hS _ (lv_sub hl [1, 2, 0] rfl)
    · intro k_38 J_38 h
      refine lv_icmp_eq (tgt := 38) hx hb d_St_isFlat_18 (by decide) (fun c_5 => ?_) (fun c_5 => ?_)
      · replace h := ck_if_t h c_5
        exact J_38 _ h _ _ hP hD hS _ (lv_sub hl [1, 2, 3] rfl)
      · replace h := ck_if_f h c_5
        refine lv_aload_n hx hb d_St_isFlat_21 rfl (lv_at hl 1 rfl) ?_
        refine va_get (D := (dC, dI)) (ci := 2) (v := .ref h_s_ranks) (C := "BasisWalk$Study") (T := T_St) (N := 7) hx hb hts iw1 hown hK hP 0 rfl rfl 2 (by decide) fl2 (fun _ h9 => h9) rfl d_St_isFlat_22 ?_
        refine lv_iload_n hx hb d_St_isFlat_25 rfl (lv_at hl 0 rfl) ?_
        obtain ⟨g_6, h⟩ := ck_in_s h
        refine va_iald hx hb hK hP 1 0 rfl rfl g_6 d_St_isFlat_26 ?_
        refine lv_aload_n hx hb d_St_isFlat_27 rfl (lv_at hl 1 rfl) ?_
        refine va_get (D := (dC, dI)) (ci := 2) (v := .ref h_s_ranks) (C := "BasisWalk$Study") (T := T_St) (N := 7) hx hb hts iw1 hown hK hP 0 rfl rfl 2 (by decide) fl2 (fun _ h9 => h9) rfl d_St_isFlat_28 ?_
        refine lv_iload_n hx hb d_St_isFlat_31 rfl (lv_at hl 2 rfl) ?_
        obtain ⟨g_7, h⟩ := ck_in_s h
        refine va_iald hx hb hK hP 1 0 rfl rfl g_7 d_St_isFlat_32 ?_
        refine lv_icmp_ne (tgt := 38) hx hb d_St_isFlat_33 (by decide) (fun c_8 => ?_) (fun c_8 => ?_)
        · replace h := ck_if_f h c_8
          exact J_38 _ h _ _ hP hD hS _ (lv_sub hl [1, 2, 3] rfl)
        · replace h := ck_if_t h c_8
          refine lv_iconst (v := 0) hx hb d_St_isFlat_36 (by decide) ?_
          obtain rfl := Option.some.inj h
          subst hQ
          exact W.zret (ty := .boolean) (v := 0) hx hb hr rfl (fun t ht hW => ⟨⟨0, (), rfl, rfl, by rw [ht]; exact hP, va_K.moved hW.alike hK, hD⟩, hS.F ht⟩) hS.2.2 d_St_isFlat_37
theorem d_St_isHyperplane_0 : decode prog_4_method_18_code 0 = .ok (.aload_n 0, 1) := by decide +kernel
theorem d_St_isHyperplane_1 : decode prog_4_method_18_code 1 = .ok (.getfield 9, 3) := by decide +kernel
theorem d_St_isHyperplane_4 : decode prog_4_method_18_code 4 = .ok (.iload_n 1, 1) := by decide +kernel
theorem d_St_isHyperplane_5 : decode prog_4_method_18_code 5 = .ok (.iaload, 1) := by decide +kernel
theorem d_St_isHyperplane_6 : decode prog_4_method_18_code 6 = .ok (.aload_n 0, 1) := by decide +kernel
theorem d_St_isHyperplane_7 : decode prog_4_method_18_code 7 = .ok (.getfield 38, 3) := by decide +kernel
theorem d_St_isHyperplane_10 : decode prog_4_method_18_code 10 = .ok (.iconst 1, 1) := by decide +kernel
theorem d_St_isHyperplane_11 : decode prog_4_method_18_code 11 = .ok (.isub, 1) := by decide +kernel
theorem d_St_isHyperplane_12 : decode prog_4_method_18_code 12 = .ok (.if_icmp .ne 15, 3) := by decide +kernel
theorem d_St_isHyperplane_15 : decode prog_4_method_18_code 15 = .ok (.aload_n 0, 1) := by decide +kernel
theorem d_St_isHyperplane_16 : decode prog_4_method_18_code 16 = .ok (.iload_n 1, 1) := by decide +kernel
theorem d_St_isHyperplane_17 : decode prog_4_method_18_code 17 = .ok (.invokevirtual 118, 3) := by decide +kernel
theorem d_St_isHyperplane_20 : decode prog_4_method_18_code 20 = .ok (.ifCond .eq 7, 3) := by decide +kernel
theorem d_St_isHyperplane_23 : decode prog_4_method_18_code 23 = .ok (.iconst 1, 1) := by decide +kernel
theorem d_St_isHyperplane_24 : decode prog_4_method_18_code 24 = .ok (.goto 4, 3) := by decide +kernel
theorem d_St_isHyperplane_27 : decode prog_4_method_18_code 27 = .ok (.iconst 0, 1) := by decide +kernel
theorem d_St_isHyperplane_28 : decode prog_4_method_18_code 28 = .ok (.ireturn, 1) := by decide +kernel
def f_S_isHyperplane (s_columnCount : Int32) (s_fullRank : Int32) (s_ranks_n : Nat) (s_ranks : Nat → Int32) (set0 : Int32) : Option (Int32) :=
  ck_in set0 s_ranks_n <| ck_if ((s_ranks set0.toNatClampNeg) = (s_fullRank - 1)) (ck_b1 (f_S_isFlat s_columnCount s_ranks_n s_ranks set0) <| fun r_3 => ck_if (r_3 = 0) (some 0) (some 1)) (some 0)
set_option maxHeartbeats 4000000 in
set_option maxRecDepth 100000 in
theorem c_S_isHyperplane (l : Launch) (dC : Nat → ClassId) (dI : Nat → Nat → Nat) (cI cJ cB cZ cT cN : ClassId) (sz : Nat) (h_s : Nat) (h_s_ranks : Nat) (h_s_signs : Nat) (h_s_members : Nat) (h_s_starts : Nat) (h_s_defects : Nat) (s_columnCount : Int32) (s_fullRank : Int32) (s_ranks_n : Nat) (s_ranks : Nat → Int32) (set0 : Int32) (r : Int32) (h : f_S_isHyperplane s_columnCount s_fullRank s_ranks_n s_ranks set0 = some r) : Met l y_St_isHyperplane w_St_isHyperplane ({ frames := 1, cells := 0, slots := 0, locals := 23 } : Room) (va_Pc [.ref h_s, .int set0] (fun U => U.heap.size = sz ∧ va_P (dC, dI) cl_all [(h_s, .inr (2, [.int s_columnCount, .int s_fullRank, .ref h_s_ranks, .ref h_s_signs, .ref h_s_members, .ref h_s_starts, .ref h_s_defects])), (h_s_ranks, .inl (cI, s_ranks_n, .inl s_ranks))] U.heap ∧ va_K (dC, dI) cl_all [(cI, .int), (cJ, .long), (cB, .byte), (cZ, .boolean), (cT, .object "BasisWalk$Table"), (cN, .object "BasisWalkModel$Num")] U ∧ NW U ∧ va_D (fun _ => True) [(h_s, .inr (2, [.int s_columnCount, .int s_fullRank, .ref h_s_ranks, .ref h_s_signs, .ref h_s_members, .ref h_s_starts, .ref h_s_defects])), (h_s_ranks, .inl (cI, s_ranks_n, .inl s_ranks))])) (va_Qi (fun (v : Int32) (_ : Unit) => v = r) (fun (u : Unit) (t : State) => va_P (dC, dI) cl_all [(h_s, .inr (2, [.int s_columnCount, .int s_fullRank, .ref h_s_ranks, .ref h_s_signs, .ref h_s_members, .ref h_s_starts, .ref h_s_defects])), (h_s_ranks, .inl (cI, s_ranks_n, .inl s_ranks))] t.heap ∧ va_K (dC, dI) cl_all [(cI, .int), (cJ, .long), (cB, .byte), (cZ, .boolean), (cT, .object "BasisWalk$Table"), (cN, .object "BasisWalkModel$Num")] t ∧ va_D (va_A [(h_s, .inr (2, [.int s_columnCount, .int s_fullRank, .ref h_s_ranks, .ref h_s_signs, .ref h_s_members, .ref h_s_starts, .ref h_s_defects])), (h_s_ranks, .inl (cI, s_ranks_n, .inl s_ranks))] sz) [(h_s, .inr (2, [.int s_columnCount, .int s_fullRank, .ref h_s_ranks, .ref h_s_signs, .ref h_s_members, .ref h_s_starts, .ref h_s_defects])), (h_s_ranks, .inl (cI, s_ranks_n, .inl s_ranks))]) (va_A [(h_s, .inr (2, [.int s_columnCount, .int s_fullRank, .ref h_s_ranks, .ref h_s_signs, .ref h_s_members, .ref h_s_starts, .ref h_s_defects])), (h_s_ranks, .inl (cI, s_ranks_n, .inl s_ranks))] sz)) 0 0 (va_A [(h_s, .inr (2, [.int s_columnCount, .int s_fullRank, .ref h_s_ranks, .ref h_s_signs, .ref h_s_members, .ref h_s_starts, .ref h_s_defects])), (h_s_ranks, .inl (cI, s_ranks_n, .inl s_ranks))] sz) := by
  refine Met.ofW (cc := prog_4_method_18_code) (maxL := 2) (ret := (Option.some Jvm.ClassFile.FieldType.boolean)) (by decide) rfl ?_
  intro p e s m args below meth c s₁ B hml hv
  obtain ⟨hAR, hsz, hP, hK, hN, hD0⟩ := hv
  have hx := B.exec
  have hb := B.bytes
  have hr := B.returns
  have hts := atoms_spec (ws := w_St_isHyperplane) B.pre
  have hown : s.vm.findClass "BasisWalk$Study" = some m.cls := findClass_of_methodNamed B.named
  have hlocks := B.notSynchronized
  clear B
  subst hsz
  have hD := hD0.self (sz := s.heap.size)
  generalize hAe : va_A [(h_s, .inr (2, [.int s_columnCount, .int s_fullRank, .ref h_s_ranks, .ref h_s_signs, .ref h_s_members, .ref h_s_starts, .ref h_s_defects])), (h_s_ranks, .inl (cI, s_ranks_n, .inl s_ranks))] s.heap.size = A at hD ⊢
  have hA : ∀ q : Nat, s.heap.size ≤ q → A q := fun q h => by rw [← hAe]; exact Or.inr h
  clear hAe hD0
  have hS : va_S A s.heap s.heap [] := va_S.rf
  have hl := lv_entry ([.ref h_s, .int set0]) (n := 2) (Nat.le_of_ble_eq_true rfl)
  subst hAR
  rw [lg_entry_eq]
  generalize (lg_sl ([.ref h_s, .int set0]) ++ List.replicate (2 - (lg_sl ([.ref h_s, .int set0])).length) Slot.unset).toArray = ls at hl ⊢
  have hl : lv_has ls 2 [(0, .ref h_s), (1, .int set0)] := hl
  change W p l e ({ frames := 1, cells := 0, slots := 0, locals := 23 } : Room) s m _ below meth c s.heap [] 0 0 _ _
  generalize hARe : ([.ref h_s, .int set0] : List Value).toArray = AR at hts ⊢
  clear hARe
  generalize hQ : MQ below _ AR s 0 0 A = QQ
  have fl0 := hts _ (List.mem_cons_of_mem _ tw_35)
  have iw1 := (fun w hw => List.mem_cons_of_mem _ (in_St w hw) : ∀ w ∈ u_ws "BasisWalk$Study" T_St 7, w ∈ w_St_isHyperplane)
  have fl2 := hts _ (List.mem_cons_of_mem _ tw_33)
  obtain ⟨H, hHe⟩ : ∃ H : Heap, H = s.heap := ⟨_, rfl⟩
  rw [← hHe] at hP ⊢
  replace hS : va_S A s.heap H [] := by rw [hHe]; exact va_S.rf
  clear hHe
  unfold f_S_isHyperplane at h
  refine lv_aload_n hx hb d_St_isHyperplane_0 rfl (lv_at hl 0 rfl) ?_
  refine va_get (D := (dC, dI)) (ci := 2) (v := .ref h_s_ranks) (C := "BasisWalk$Study") (T := T_St) (N := 7) hx hb hts iw1 hown hK hP 0 rfl rfl 2 (by decide) fl0 (fun _ h9 => h9) rfl d_St_isHyperplane_1 ?_
  refine lv_iload_n hx hb d_St_isHyperplane_4 rfl (lv_at hl 1 rfl) ?_
  obtain ⟨g_1, h⟩ := ck_in_s h
  refine va_iald hx hb hK hP 1 0 rfl rfl g_1 d_St_isHyperplane_5 ?_
  refine lv_aload_n hx hb d_St_isHyperplane_6 rfl (lv_at hl 0 rfl) ?_
  refine va_get (D := (dC, dI)) (ci := 2) (v := .int s_fullRank) (C := "BasisWalk$Study") (T := T_St) (N := 7) hx hb hts iw1 hown hK hP 0 rfl rfl 1 (by decide) fl2 (fun _ h9 => h9) rfl d_St_isHyperplane_7 ?_
  refine lv_iconst (v := 1) hx hb d_St_isHyperplane_10 (by decide) ?_
  refine lv_isub hx hb d_St_isHyperplane_11 ?_
  refine lv_icmp_ne (tgt := 27) hx hb d_St_isHyperplane_12 (by decide) (fun c_2 => ?_) (fun c_2 => ?_)
  · replace h := ck_if_f h c_2
    refine lv_iconst (v := 0) hx hb d_St_isHyperplane_27 (by decide) ?_
    obtain rfl := Option.some.inj h
    subst hQ
    exact W.zret (ty := .boolean) (v := 0) hx hb hr rfl (fun t ht hW => ⟨⟨0, (), rfl, rfl, by rw [ht]; exact hP, va_K.moved hW.alike hK, hD⟩, hS.F ht⟩) hS.2.2 d_St_isHyperplane_28
  · replace h := ck_if_t h c_2
    refine lv_aload_n hx hb d_St_isHyperplane_15 rfl (lv_at hl 0 rfl) ?_
    refine lv_iload_n hx hb d_St_isHyperplane_16 rfl (lv_at hl 1 rfl) ?_
    obtain ⟨r_3, hc_4, h⟩ := ck_b1_s h
    have hPc := hP.sub (ws' := [(h_s, .inr (2, [.int s_columnCount, .int s_fullRank, .ref h_s_ranks, .ref h_s_signs, .ref h_s_members, .ref h_s_starts, .ref h_s_defects])), (h_s_ranks, .inl (cI, s_ranks_n, .inl s_ranks))]) [0, 1] rfl
    have hDc := hD.sub (ws' := [(h_s, .inr (2, [.int s_columnCount, .int s_fullRank, .ref h_s_ranks, .ref h_s_signs, .ref h_s_members, .ref h_s_starts, .ref h_s_defects])), (h_s_ranks, .inl (cI, s_ranks_n, .inl s_ranks))]) [0, 1] (by decide) rfl
    have hFc := va_free (wc := [(h_s, .inr (2, [.int s_columnCount, .int s_fullRank, .ref h_s_ranks, .ref h_s_signs, .ref h_s_members, .ref h_s_starts, .ref h_s_defects])), (h_s_ranks, .inl (cI, s_ranks_n, .inl s_ranks))]) hD hS hA [0, 1] rfl
    refine va_calli (va_runV (As := [.int set0]) (rest := []) ⟨hx, hb, hml, hown, hts⟩ (c_S_isFlat l dC dI cI cJ cB cZ cT cN H.size h_s h_s_ranks h_s_signs h_s_members h_s_starts h_s_defects s_columnCount s_fullRank s_ranks_n s_ranks set0 _ hc_4) (cwV 1 hts (tb_V tw_276 tw_278 tp_15 tw_3 tw_279) rfl rfl rfl (by decide +kernel) ⟨Nat.le_of_ble_eq_true rfl, Nat.le_of_ble_eq_true rfl⟩) ⟨fun a U g mk q => by obtain ⟨q0, q1, qP, qK, qN, qD⟩ := q; exact ⟨q0, q1, qP, va_K.moved (u := U) (U := U.calling g mk a) (Vm.Alike.refl U.vm) qK, qN.same rfl, qD⟩, va_recv hK hPc (ci := 2) (q0 := 0) rfl rfl, fun U hU hW => ⟨rfl, by rw [hU], by rw [hU]; exact hPc, va_K.moved hW.alike hK, hN.warm hW, hDc.weaken (fun _ _ _ _ => trivial)⟩⟩ rfl rfl hl.1 rfl (lv_room (Nat.le_of_ble_eq_true rfl)) d_St_isHyperplane_17 ⟨Nat.zero_le _, Nat.zero_le _⟩) hS (fun q _ h => hFc q h) hFc (fun rr u t H1 locs ht hvm hw hB hz1 hk1 hS => ?_)
    replace hw := hw.symm
    subst hw
    obtain ⟨hP1, -, hD1⟩ := hB
    rw [ht] at hP1
    obtain ⟨hP, hD⟩ := va_join (wr := []) (w1 := [(h_s, .inr (2, [.int s_columnCount, .int s_fullRank, .ref h_s_ranks, .ref h_s_signs, .ref h_s_members, .ref h_s_starts, .ref h_s_defects])), (h_s_ranks, .inl (cI, s_ranks_n, .inl s_ranks))]) hP hD [0, 1] [] rfl rfl (by decide) (by decide) hk1 hFc hP1 hD1
    generalize H1 = H at hP hS ⊢
    have hP : va_P (dC, dI) cl_all [(h_s, .inr (2, [.int s_columnCount, .int s_fullRank, .ref h_s_ranks, .ref h_s_signs, .ref h_s_members, .ref h_s_starts, .ref h_s_defects])), (h_s_ranks, .inl (cI, s_ranks_n, .inl s_ranks))] H := hP.sub [0, 1] rfl
    have hD : va_D A [(h_s, .inr (2, [.int s_columnCount, .int s_fullRank, .ref h_s_ranks, .ref h_s_signs, .ref h_s_members, .ref h_s_starts, .ref h_s_defects])), (h_s_ranks, .inl (cI, s_ranks_n, .inl s_ranks))] := hD.sub [0, 1] (by decide) rfl
    refine lv_if_eq (tgt := 27) hx hb d_St_isHyperplane_20 (by decide) (fun c_5 => ?_) (fun c_5 => ?_)
    · replace h := ck_if_t h c_5
      refine lv_iconst (v := 0) hx hb d_St_isHyperplane_27 (by decide) ?_
      obtain rfl := Option.some.inj h
      subst hQ
      exact W.zret (ty := .boolean) (v := 0) hx hb hr rfl (fun t ht hW => ⟨⟨0, (), rfl, rfl, by rw [ht]; exact hP, va_K.moved hW.alike hK, hD⟩, hS.F ht⟩) hS.2.2 d_St_isHyperplane_28
    · replace h := ck_if_f h c_5
      refine lv_iconst (v := 1) hx hb d_St_isHyperplane_23 (by decide) ?_
      refine lv_goto (tgt := 28) hx hb d_St_isHyperplane_24 (by decide) ?_
      obtain rfl := Option.some.inj h
      subst hQ
      exact W.zret (ty := .boolean) (v := 1) hx hb hr rfl (fun t ht hW => ⟨⟨1, (), rfl, rfl, by rw [ht]; exact hP, va_K.moved hW.alike hK, hD⟩, hS.F ht⟩) hS.2.2 d_St_isHyperplane_28
theorem d_St_isOfKind_0 : decode prog_4_method_16_code 0 = .ok (.iload_n 1, 1) := by decide +kernel
theorem d_St_isOfKind_1 : decode prog_4_method_16_code 1 = .ok (.tableswitch 88 0 3 #[31, 61, 67, 82], 31) := by decide +kernel
theorem d_St_isOfKind_32 : decode prog_4_method_16_code 32 = .ok (.aload_n 0, 1) := by decide +kernel
theorem d_St_isOfKind_33 : decode prog_4_method_16_code 33 = .ok (.getfield 9, 3) := by decide +kernel
theorem d_St_isOfKind_36 : decode prog_4_method_16_code 36 = .ok (.iload_n 2, 1) := by decide +kernel
theorem d_St_isOfKind_37 : decode prog_4_method_16_code 37 = .ok (.iaload, 1) := by decide +kernel
theorem d_St_isOfKind_38 : decode prog_4_method_16_code 38 = .ok (.aload_n 0, 1) := by decide +kernel
theorem d_St_isOfKind_39 : decode prog_4_method_16_code 39 = .ok (.getfield 38, 3) := by decide +kernel
theorem d_St_isOfKind_42 : decode prog_4_method_16_code 42 = .ok (.if_icmp .ne 18, 3) := by decide +kernel
theorem d_St_isOfKind_45 : decode prog_4_method_16_code 45 = .ok (.iload_n 2, 1) := by decide +kernel
theorem d_St_isOfKind_46 : decode prog_4_method_16_code 46 = .ok (.invokestatic 90, 3) := by decide +kernel
theorem d_St_isOfKind_49 : decode prog_4_method_16_code 49 = .ok (.aload_n 0, 1) := by decide +kernel
theorem d_St_isOfKind_50 : decode prog_4_method_16_code 50 = .ok (.getfield 38, 3) := by decide +kernel
theorem d_St_isOfKind_53 : decode prog_4_method_16_code 53 = .ok (.if_icmp .ne 7, 3) := by decide +kernel
theorem d_St_isOfKind_56 : decode prog_4_method_16_code 56 = .ok (.iconst 1, 1) := by decide +kernel
theorem d_St_isOfKind_57 : decode prog_4_method_16_code 57 = .ok (.goto 4, 3) := by decide +kernel
theorem d_St_isOfKind_60 : decode prog_4_method_16_code 60 = .ok (.iconst 0, 1) := by decide +kernel
theorem d_St_isOfKind_61 : decode prog_4_method_16_code 61 = .ok (.ireturn, 1) := by decide +kernel
theorem d_St_isOfKind_62 : decode prog_4_method_16_code 62 = .ok (.aload_n 0, 1) := by decide +kernel
theorem d_St_isOfKind_63 : decode prog_4_method_16_code 63 = .ok (.iload_n 2, 1) := by decide +kernel
theorem d_St_isOfKind_64 : decode prog_4_method_16_code 64 = .ok (.invokevirtual 112, 3) := by decide +kernel
theorem d_St_isOfKind_67 : decode prog_4_method_16_code 67 = .ok (.ireturn, 1) := by decide +kernel
theorem d_St_isOfKind_68 : decode prog_4_method_16_code 68 = .ok (.aload_n 0, 1) := by decide +kernel
theorem d_St_isOfKind_69 : decode prog_4_method_16_code 69 = .ok (.iconst 1, 1) := by decide +kernel
theorem d_St_isOfKind_70 : decode prog_4_method_16_code 70 = .ok (.aload_n 0, 1) := by decide +kernel
theorem d_St_isOfKind_71 : decode prog_4_method_16_code 71 = .ok (.getfield 33, 3) := by decide +kernel
theorem d_St_isOfKind_74 : decode prog_4_method_16_code 74 = .ok (.ishl, 1) := by decide +kernel
theorem d_St_isOfKind_75 : decode prog_4_method_16_code 75 = .ok (.iconst 1, 1) := by decide +kernel
theorem d_St_isOfKind_76 : decode prog_4_method_16_code 76 = .ok (.isub, 1) := by decide +kernel
theorem d_St_isOfKind_77 : decode prog_4_method_16_code 77 = .ok (.iload_n 2, 1) := by decide +kernel
theorem d_St_isOfKind_78 : decode prog_4_method_16_code 78 = .ok (.isub, 1) := by decide +kernel
theorem d_St_isOfKind_79 : decode prog_4_method_16_code 79 = .ok (.invokevirtual 115, 3) := by decide +kernel
theorem d_St_isOfKind_82 : decode prog_4_method_16_code 82 = .ok (.ireturn, 1) := by decide +kernel
theorem d_St_isOfKind_83 : decode prog_4_method_16_code 83 = .ok (.aload_n 0, 1) := by decide +kernel
theorem d_St_isOfKind_84 : decode prog_4_method_16_code 84 = .ok (.iload_n 2, 1) := by decide +kernel
theorem d_St_isOfKind_85 : decode prog_4_method_16_code 85 = .ok (.invokevirtual 118, 3) := by decide +kernel
theorem d_St_isOfKind_88 : decode prog_4_method_16_code 88 = .ok (.ireturn, 1) := by decide +kernel
theorem d_St_isOfKind_89 : decode prog_4_method_16_code 89 = .ok (.iconst 0, 1) := by decide +kernel
theorem d_St_isOfKind_90 : decode prog_4_method_16_code 90 = .ok (.ireturn, 1) := by decide +kernel
def f_S_isOfKind (s_columnCount : Int32) (s_fullRank : Int32) (s_ranks_n : Nat) (s_ranks : Nat → Int32) (kind0 : Int32) (set0 : Int32) : Option (Int32) :=
  ck_if (kind0 = 0) (ck_in set0 s_ranks_n <| ck_if ((s_ranks set0.toNatClampNeg) = s_fullRank) (ck_b1 (f_bitCount set0) <| fun r_4 => ck_if (r_4 = s_fullRank) (some 1) (some 0)) (some 0)) (ck_if (kind0 = 1) (ck_b1 (f_S_isCircuit s_columnCount s_ranks_n s_ranks set0) <| fun r_8 => ck_z r_8 <| some r_8) (ck_if (kind0 = 2) (ck_b1 (f_S_isHyperplane s_columnCount s_fullRank s_ranks_n s_ranks ((((1 : Int32) <<< (s_columnCount &&& 31)) - 1) - set0)) <| fun r_12 => ck_z r_12 <| some r_12) (ck_if (kind0 = 3) (ck_b1 (f_S_isFlat s_columnCount s_ranks_n s_ranks set0) <| fun r_16 => ck_z r_16 <| some r_16) (some 0))))
set_option maxHeartbeats 4000000 in
set_option maxRecDepth 100000 in
theorem c_S_isOfKind (l : Launch) (dC : Nat → ClassId) (dI : Nat → Nat → Nat) (cI cJ cB cZ cT cN : ClassId) (sz : Nat) (h_s : Nat) (h_s_ranks : Nat) (h_s_signs : Nat) (h_s_members : Nat) (h_s_starts : Nat) (h_s_defects : Nat) (s_columnCount : Int32) (s_fullRank : Int32) (s_ranks_n : Nat) (s_ranks : Nat → Int32) (kind0 : Int32) (set0 : Int32) (r : Int32) (h : f_S_isOfKind s_columnCount s_fullRank s_ranks_n s_ranks kind0 set0 = some r) : Met l y_St_isOfKind w_St_isOfKind ({ frames := 2, cells := 0, slots := 0, locals := 44 } : Room) (va_Pc [.ref h_s, .int kind0, .int set0] (fun U => U.heap.size = sz ∧ va_P (dC, dI) cl_all [(h_s, .inr (2, [.int s_columnCount, .int s_fullRank, .ref h_s_ranks, .ref h_s_signs, .ref h_s_members, .ref h_s_starts, .ref h_s_defects])), (h_s_ranks, .inl (cI, s_ranks_n, .inl s_ranks))] U.heap ∧ va_K (dC, dI) cl_all [(cI, .int), (cJ, .long), (cB, .byte), (cZ, .boolean), (cT, .object "BasisWalk$Table"), (cN, .object "BasisWalkModel$Num")] U ∧ NW U ∧ va_D (fun _ => True) [(h_s, .inr (2, [.int s_columnCount, .int s_fullRank, .ref h_s_ranks, .ref h_s_signs, .ref h_s_members, .ref h_s_starts, .ref h_s_defects])), (h_s_ranks, .inl (cI, s_ranks_n, .inl s_ranks))])) (va_Qi (fun (v : Int32) (_ : Unit) => v = r) (fun (u : Unit) (t : State) => va_P (dC, dI) cl_all [(h_s, .inr (2, [.int s_columnCount, .int s_fullRank, .ref h_s_ranks, .ref h_s_signs, .ref h_s_members, .ref h_s_starts, .ref h_s_defects])), (h_s_ranks, .inl (cI, s_ranks_n, .inl s_ranks))] t.heap ∧ va_K (dC, dI) cl_all [(cI, .int), (cJ, .long), (cB, .byte), (cZ, .boolean), (cT, .object "BasisWalk$Table"), (cN, .object "BasisWalkModel$Num")] t ∧ va_D (va_A [(h_s, .inr (2, [.int s_columnCount, .int s_fullRank, .ref h_s_ranks, .ref h_s_signs, .ref h_s_members, .ref h_s_starts, .ref h_s_defects])), (h_s_ranks, .inl (cI, s_ranks_n, .inl s_ranks))] sz) [(h_s, .inr (2, [.int s_columnCount, .int s_fullRank, .ref h_s_ranks, .ref h_s_signs, .ref h_s_members, .ref h_s_starts, .ref h_s_defects])), (h_s_ranks, .inl (cI, s_ranks_n, .inl s_ranks))]) (va_A [(h_s, .inr (2, [.int s_columnCount, .int s_fullRank, .ref h_s_ranks, .ref h_s_signs, .ref h_s_members, .ref h_s_starts, .ref h_s_defects])), (h_s_ranks, .inl (cI, s_ranks_n, .inl s_ranks))] sz)) 0 0 (va_A [(h_s, .inr (2, [.int s_columnCount, .int s_fullRank, .ref h_s_ranks, .ref h_s_signs, .ref h_s_members, .ref h_s_starts, .ref h_s_defects])), (h_s_ranks, .inl (cI, s_ranks_n, .inl s_ranks))] sz) := by
  refine Met.ofW (cc := prog_4_method_16_code) (maxL := 3) (ret := (Option.some Jvm.ClassFile.FieldType.boolean)) (by decide) rfl ?_
  intro p e s m args below meth c s₁ B hml hv
  obtain ⟨hAR, hsz, hP, hK, hN, hD0⟩ := hv
  have hx := B.exec
  have hb := B.bytes
  have hr := B.returns
  have hts := atoms_spec (ws := w_St_isOfKind) B.pre
  have hown : s.vm.findClass "BasisWalk$Study" = some m.cls := findClass_of_methodNamed B.named
  have hlocks := B.notSynchronized
  clear B
  subst hsz
  have hD := hD0.self (sz := s.heap.size)
  generalize hAe : va_A [(h_s, .inr (2, [.int s_columnCount, .int s_fullRank, .ref h_s_ranks, .ref h_s_signs, .ref h_s_members, .ref h_s_starts, .ref h_s_defects])), (h_s_ranks, .inl (cI, s_ranks_n, .inl s_ranks))] s.heap.size = A at hD ⊢
  have hA : ∀ q : Nat, s.heap.size ≤ q → A q := fun q h => by rw [← hAe]; exact Or.inr h
  clear hAe hD0
  have hS : va_S A s.heap s.heap [] := va_S.rf
  have hl := lv_entry ([.ref h_s, .int kind0, .int set0]) (n := 3) (Nat.le_of_ble_eq_true rfl)
  subst hAR
  rw [lg_entry_eq]
  generalize (lg_sl ([.ref h_s, .int kind0, .int set0]) ++ List.replicate (3 - (lg_sl ([.ref h_s, .int kind0, .int set0])).length) Slot.unset).toArray = ls at hl ⊢
  have hl : lv_has ls 3 [(0, .ref h_s), (1, .int kind0), (2, .int set0)] := hl
  change W p l e ({ frames := 2, cells := 0, slots := 0, locals := 44 } : Room) s m _ below meth c s.heap [] 0 0 _ _
  generalize hARe : ([.ref h_s, .int kind0, .int set0] : List Value).toArray = AR at hts ⊢
  clear hARe
  generalize hQ : MQ below _ AR s 0 0 A = QQ
  have fl0 := hts _ (List.mem_cons_of_mem _ tw_35)
  have iw1 := (fun w hw => List.mem_cons_of_mem _ (in_St w hw) : ∀ w ∈ u_ws "BasisWalk$Study" T_St 7, w ∈ w_St_isOfKind)
  have fl2 := hts _ (List.mem_cons_of_mem _ tw_33)
  have fl3 := hts _ (List.mem_cons_of_mem _ tw_32)
  obtain ⟨H, hHe⟩ : ∃ H : Heap, H = s.heap := ⟨_, rfl⟩
  rw [← hHe] at hP ⊢
  replace hS : va_S A s.heap H [] := by rw [hHe]; exact va_S.rf
  clear hHe
  unfold f_S_isOfKind at h
  refine lv_iload_n hx hb d_St_isOfKind_0 rfl (lv_at hl 1 rfl) ?_
  by_cases c_1 : kind0 = 0
  · replace h := ck_if_t h c_1
    refine lv_tableIn (tgt := 32) (off := 31) hx hb d_St_isOfKind_1 (by rw [c_1]; decide) (by rw [c_1]; decide) (by rw [c_1]; rfl) (by decide) ?_
    refine lv_aload_n hx hb d_St_isOfKind_32 rfl (lv_at hl 0 rfl) ?_
    refine va_get (D := (dC, dI)) (ci := 2) (v := .ref h_s_ranks) (C := "BasisWalk$Study") (T := T_St) (N := 7) hx hb hts iw1 hown hK hP 0 rfl rfl 2 (by decide) fl0 (fun _ h9 => h9) rfl d_St_isOfKind_33 ?_
    refine lv_iload_n hx hb d_St_isOfKind_36 rfl (lv_at hl 2 rfl) ?_
    obtain ⟨g_2, h⟩ := ck_in_s h
    refine va_iald hx hb hK hP 1 0 rfl rfl g_2 d_St_isOfKind_37 ?_
    refine lv_aload_n hx hb d_St_isOfKind_38 rfl (lv_at hl 0 rfl) ?_
    refine va_get (D := (dC, dI)) (ci := 2) (v := .int s_fullRank) (C := "BasisWalk$Study") (T := T_St) (N := 7) hx hb hts iw1 hown hK hP 0 rfl rfl 1 (by decide) fl2 (fun _ h9 => h9) rfl d_St_isOfKind_39 ?_
    refine lv_icmp_ne (tgt := 60) hx hb d_St_isOfKind_42 (by decide) (fun c_3 => ?_) (fun c_3 => ?_)
    · replace h := ck_if_f h c_3
      refine lv_iconst (v := 0) hx hb d_St_isOfKind_60 (by decide) ?_
      obtain rfl := Option.some.inj h
      subst hQ
      exact W.zret (ty := .boolean) (v := 0) hx hb hr rfl (fun t ht hW => ⟨⟨0, (), rfl, rfl, by rw [ht]; exact hP, va_K.moved hW.alike hK, hD⟩, hS.F ht⟩) hS.2.2 d_St_isOfKind_61
    · replace h := ck_if_t h c_3
      refine lv_iload_n hx hb d_St_isOfKind_45 rfl (lv_at hl 2 rfl) ?_
      obtain ⟨r_4, hc_5, h⟩ := ck_b1_s h
      have hPc := hP.sub (ws' := []) [] rfl
      have hDc := hD.sub (ws' := []) [] (by decide) rfl
      have hFc := va_free (wc := []) hD hS hA [] rfl
      refine va_calli (va_runS (As := [.int set0]) (rest := []) ⟨hx, hb, hml, hown, hts⟩ (c_bitCount l dC dI cI cJ cB cZ cT cN H.size set0 _ hc_5) (va_cwS 1 hts (tb_S tw_242 tw_196 tw_10 tw_197) rfl rfl rfl (by decide +kernel) ⟨Nat.le_of_ble_eq_true rfl, Nat.le_of_ble_eq_true rfl⟩) ⟨fun a U g mk q => by obtain ⟨q0, q1, qP, qK, qN, qD⟩ := q; exact ⟨q0, q1, qP, va_K.moved (u := U) (U := U.calling g mk a) (Vm.Alike.refl U.vm) qK, qN.same rfl, qD⟩, fun U hU hW => ⟨rfl, by rw [hU], by rw [hU]; exact hPc, va_K.moved hW.alike hK, hN.warm hW, hDc.weaken (fun _ _ _ _ => trivial)⟩⟩ rfl rfl hl.1 rfl (lv_room (Nat.le_of_ble_eq_true rfl)) d_St_isOfKind_46 ⟨Nat.zero_le _, Nat.zero_le _⟩) hS (fun q _ h => hFc q h) hFc (fun rr u t H1 locs ht hvm hw hB hz1 hk1 hS => ?_)
      replace hw := hw.symm
      subst hw
      obtain ⟨hP1, -, hD1⟩ := hB
      rw [ht] at hP1
      obtain ⟨hP, hD⟩ := va_join (wr := [(h_s, .inr (2, [.int s_columnCount, .int s_fullRank, .ref h_s_ranks, .ref h_s_signs, .ref h_s_members, .ref h_s_starts, .ref h_s_defects])), (h_s_ranks, .inl (cI, s_ranks_n, .inl s_ranks))]) (w1 := []) hP hD [] [0, 1] rfl rfl (by decide) (by decide) hk1 hFc hP1 hD1
      generalize H1 = H at hP hS ⊢
      have hP : va_P (dC, dI) cl_all [(h_s, .inr (2, [.int s_columnCount, .int s_fullRank, .ref h_s_ranks, .ref h_s_signs, .ref h_s_members, .ref h_s_starts, .ref h_s_defects])), (h_s_ranks, .inl (cI, s_ranks_n, .inl s_ranks))] H := hP.sub [0, 1] rfl
      have hD : va_D A [(h_s, .inr (2, [.int s_columnCount, .int s_fullRank, .ref h_s_ranks, .ref h_s_signs, .ref h_s_members, .ref h_s_starts, .ref h_s_defects])), (h_s_ranks, .inl (cI, s_ranks_n, .inl s_ranks))] := hD.sub [0, 1] (by decide) rfl
      refine lv_aload_n hx hb d_St_isOfKind_49 rfl (lv_at hl 0 rfl) ?_
      refine va_get (D := (dC, dI)) (ci := 2) (v := .int s_fullRank) (C := "BasisWalk$Study") (T := T_St) (N := 7) hx hb hts iw1 hown hK hP 0 rfl rfl 1 (by decide) fl2 (fun _ h9 => h9) rfl d_St_isOfKind_50 ?_
      refine lv_icmp_ne (tgt := 60) hx hb d_St_isOfKind_53 (by decide) (fun c_6 => ?_) (fun c_6 => ?_)
      · replace h := ck_if_f h c_6
        refine lv_iconst (v := 0) hx hb d_St_isOfKind_60 (by decide) ?_
        obtain rfl := Option.some.inj h
        subst hQ
        exact W.zret (ty := .boolean) (v := 0) hx hb hr rfl (fun t ht hW => ⟨⟨0, (), rfl, rfl, by rw [ht]; exact hP, va_K.moved hW.alike hK, hD⟩, hS.F ht⟩) hS.2.2 d_St_isOfKind_61
      · replace h := ck_if_t h c_6
        refine lv_iconst (v := 1) hx hb d_St_isOfKind_56 (by decide) ?_
        refine lv_goto (tgt := 61) hx hb d_St_isOfKind_57 (by decide) ?_
        obtain rfl := Option.some.inj h
        subst hQ
        exact W.zret (ty := .boolean) (v := 1) hx hb hr rfl (fun t ht hW => ⟨⟨1, (), rfl, rfl, by rw [ht]; exact hP, va_K.moved hW.alike hK, hD⟩, hS.F ht⟩) hS.2.2 d_St_isOfKind_61
  · replace h := ck_if_f h c_1
    by_cases c_7 : kind0 = 1
    · replace h := ck_if_t h c_7
      refine lv_tableIn (tgt := 62) (off := 61) hx hb d_St_isOfKind_1 (by rw [c_7]; decide) (by rw [c_7]; decide) (by rw [c_7]; rfl) (by decide) ?_
      refine lv_aload_n hx hb d_St_isOfKind_62 rfl (lv_at hl 0 rfl) ?_
      refine lv_iload_n hx hb d_St_isOfKind_63 rfl (lv_at hl 2 rfl) ?_
      obtain ⟨r_8, hc_9, h⟩ := ck_b1_s h
      have hPc := hP.sub (ws' := [(h_s, .inr (2, [.int s_columnCount, .int s_fullRank, .ref h_s_ranks, .ref h_s_signs, .ref h_s_members, .ref h_s_starts, .ref h_s_defects])), (h_s_ranks, .inl (cI, s_ranks_n, .inl s_ranks))]) [0, 1] rfl
      have hDc := hD.sub (ws' := [(h_s, .inr (2, [.int s_columnCount, .int s_fullRank, .ref h_s_ranks, .ref h_s_signs, .ref h_s_members, .ref h_s_starts, .ref h_s_defects])), (h_s_ranks, .inl (cI, s_ranks_n, .inl s_ranks))]) [0, 1] (by decide) rfl
      have hFc := va_free (wc := [(h_s, .inr (2, [.int s_columnCount, .int s_fullRank, .ref h_s_ranks, .ref h_s_signs, .ref h_s_members, .ref h_s_starts, .ref h_s_defects])), (h_s_ranks, .inl (cI, s_ranks_n, .inl s_ranks))]) hD hS hA [0, 1] rfl
      refine va_calli (va_runV (As := [.int set0]) (rest := []) ⟨hx, hb, hml, hown, hts⟩ (c_S_isCircuit l dC dI cI cJ cB cZ cT cN H.size h_s h_s_ranks h_s_signs h_s_members h_s_starts h_s_defects s_columnCount s_fullRank s_ranks_n s_ranks set0 _ hc_9) (cwV 1 hts (tb_V tw_268 tw_270 tp_13 tw_3 tw_271) rfl rfl rfl (by decide +kernel) ⟨Nat.le_of_ble_eq_true rfl, Nat.le_of_ble_eq_true rfl⟩) ⟨fun a U g mk q => by obtain ⟨q0, q1, qP, qK, qN, qD⟩ := q; exact ⟨q0, q1, qP, va_K.moved (u := U) (U := U.calling g mk a) (Vm.Alike.refl U.vm) qK, qN.same rfl, qD⟩, va_recv hK hPc (ci := 2) (q0 := 0) rfl rfl, fun U hU hW => ⟨rfl, by rw [hU], by rw [hU]; exact hPc, va_K.moved hW.alike hK, hN.warm hW, hDc.weaken (fun _ _ _ _ => trivial)⟩⟩ rfl rfl hl.1 rfl (lv_room (Nat.le_of_ble_eq_true rfl)) d_St_isOfKind_64 ⟨Nat.zero_le _, Nat.zero_le _⟩) hS (fun q _ h => hFc q h) hFc (fun rr u t H1 locs ht hvm hw hB hz1 hk1 hS => ?_)
      replace hw := hw.symm
      subst hw
      obtain ⟨hP1, -, hD1⟩ := hB
      rw [ht] at hP1
      obtain ⟨hP, hD⟩ := va_join (wr := []) (w1 := [(h_s, .inr (2, [.int s_columnCount, .int s_fullRank, .ref h_s_ranks, .ref h_s_signs, .ref h_s_members, .ref h_s_starts, .ref h_s_defects])), (h_s_ranks, .inl (cI, s_ranks_n, .inl s_ranks))]) hP hD [0, 1] [] rfl rfl (by decide) (by decide) hk1 hFc hP1 hD1
      generalize H1 = H at hP hS ⊢
      have hP : va_P (dC, dI) cl_all [(h_s, .inr (2, [.int s_columnCount, .int s_fullRank, .ref h_s_ranks, .ref h_s_signs, .ref h_s_members, .ref h_s_starts, .ref h_s_defects])), (h_s_ranks, .inl (cI, s_ranks_n, .inl s_ranks))] H := hP.sub [0, 1] rfl
      have hD : va_D A [(h_s, .inr (2, [.int s_columnCount, .int s_fullRank, .ref h_s_ranks, .ref h_s_signs, .ref h_s_members, .ref h_s_starts, .ref h_s_defects])), (h_s_ranks, .inl (cI, s_ranks_n, .inl s_ranks))] := hD.sub [0, 1] (by decide) rfl
      obtain ⟨g_10, h⟩ := ck_z_s h
      obtain rfl := Option.some.inj h
      subst hQ
      exact W.zret (ty := .boolean) (v := r_8) hx hb hr g_10.1 (fun t ht hW => ⟨⟨r_8, (), rfl, rfl, by rw [ht]; exact hP, va_K.moved hW.alike hK, hD⟩, hS.F ht⟩) hS.2.2 d_St_isOfKind_67
    · replace h := ck_if_f h c_7
      by_cases c_11 : kind0 = 2
      · replace h := ck_if_t h c_11
        refine lv_tableIn (tgt := 68) (off := 67) hx hb d_St_isOfKind_1 (by rw [c_11]; decide) (by rw [c_11]; decide) (by rw [c_11]; rfl) (by decide) ?_
        refine lv_aload_n hx hb d_St_isOfKind_68 rfl (lv_at hl 0 rfl) ?_
        refine lv_iconst (v := 1) hx hb d_St_isOfKind_69 (by decide) ?_
        refine lv_aload_n hx hb d_St_isOfKind_70 rfl (lv_at hl 0 rfl) ?_
        refine va_get (D := (dC, dI)) (ci := 2) (v := .int s_columnCount) (C := "BasisWalk$Study") (T := T_St) (N := 7) hx hb hts iw1 hown hK hP 0 rfl rfl 0 (by decide) fl3 (fun _ h9 => h9) rfl d_St_isOfKind_71 ?_
        refine lv_ishl hx hb d_St_isOfKind_74 ?_
        refine lv_iconst (v := 1) hx hb d_St_isOfKind_75 (by decide) ?_
        refine lv_isub hx hb d_St_isOfKind_76 ?_
        refine lv_iload_n hx hb d_St_isOfKind_77 rfl (lv_at hl 2 rfl) ?_
        refine lv_isub hx hb d_St_isOfKind_78 ?_
        obtain ⟨r_12, hc_13, h⟩ := ck_b1_s h
        have hPc := hP.sub (ws' := [(h_s, .inr (2, [.int s_columnCount, .int s_fullRank, .ref h_s_ranks, .ref h_s_signs, .ref h_s_members, .ref h_s_starts, .ref h_s_defects])), (h_s_ranks, .inl (cI, s_ranks_n, .inl s_ranks))]) [0, 1] rfl
        have hDc := hD.sub (ws' := [(h_s, .inr (2, [.int s_columnCount, .int s_fullRank, .ref h_s_ranks, .ref h_s_signs, .ref h_s_members, .ref h_s_starts, .ref h_s_defects])), (h_s_ranks, .inl (cI, s_ranks_n, .inl s_ranks))]) [0, 1] (by decide) rfl
        have hFc := va_free (wc := [(h_s, .inr (2, [.int s_columnCount, .int s_fullRank, .ref h_s_ranks, .ref h_s_signs, .ref h_s_members, .ref h_s_starts, .ref h_s_defects])), (h_s_ranks, .inl (cI, s_ranks_n, .inl s_ranks))]) hD hS hA [0, 1] rfl
        refine va_calli (va_runV (As := [.int ((((1 : Int32) <<< (s_columnCount &&& 31)) - 1) - set0)]) (rest := []) ⟨hx, hb, hml, hown, hts⟩ (c_S_isHyperplane l dC dI cI cJ cB cZ cT cN H.size h_s h_s_ranks h_s_signs h_s_members h_s_starts h_s_defects s_columnCount s_fullRank s_ranks_n s_ranks ((((1 : Int32) <<< (s_columnCount &&& 31)) - 1) - set0) _ hc_13) (cwV 1 hts (tb_V tw_272 tw_274 tp_14 tw_3 tw_275) rfl rfl rfl (by decide +kernel) ⟨Nat.le_of_ble_eq_true rfl, Nat.le_of_ble_eq_true rfl⟩) ⟨fun a U g mk q => by obtain ⟨q0, q1, qP, qK, qN, qD⟩ := q; exact ⟨q0, q1, qP, va_K.moved (u := U) (U := U.calling g mk a) (Vm.Alike.refl U.vm) qK, qN.same rfl, qD⟩, va_recv hK hPc (ci := 2) (q0 := 0) rfl rfl, fun U hU hW => ⟨rfl, by rw [hU], by rw [hU]; exact hPc, va_K.moved hW.alike hK, hN.warm hW, hDc.weaken (fun _ _ _ _ => trivial)⟩⟩ rfl rfl hl.1 rfl (lv_room (Nat.le_of_ble_eq_true rfl)) d_St_isOfKind_79 ⟨Nat.zero_le _, Nat.zero_le _⟩) hS (fun q _ h => hFc q h) hFc (fun rr u t H1 locs ht hvm hw hB hz1 hk1 hS => ?_)
        replace hw := hw.symm
        subst hw
        obtain ⟨hP1, -, hD1⟩ := hB
        rw [ht] at hP1
        obtain ⟨hP, hD⟩ := va_join (wr := []) (w1 := [(h_s, .inr (2, [.int s_columnCount, .int s_fullRank, .ref h_s_ranks, .ref h_s_signs, .ref h_s_members, .ref h_s_starts, .ref h_s_defects])), (h_s_ranks, .inl (cI, s_ranks_n, .inl s_ranks))]) hP hD [0, 1] [] rfl rfl (by decide) (by decide) hk1 hFc hP1 hD1
        generalize H1 = H at hP hS ⊢
        have hP : va_P (dC, dI) cl_all [(h_s, .inr (2, [.int s_columnCount, .int s_fullRank, .ref h_s_ranks, .ref h_s_signs, .ref h_s_members, .ref h_s_starts, .ref h_s_defects])), (h_s_ranks, .inl (cI, s_ranks_n, .inl s_ranks))] H := hP.sub [0, 1] rfl
        have hD : va_D A [(h_s, .inr (2, [.int s_columnCount, .int s_fullRank, .ref h_s_ranks, .ref h_s_signs, .ref h_s_members, .ref h_s_starts, .ref h_s_defects])), (h_s_ranks, .inl (cI, s_ranks_n, .inl s_ranks))] := hD.sub [0, 1] (by decide) rfl
        obtain ⟨g_14, h⟩ := ck_z_s h
        obtain rfl := Option.some.inj h
        subst hQ
        exact W.zret (ty := .boolean) (v := r_12) hx hb hr g_14.1 (fun t ht hW => ⟨⟨r_12, (), rfl, rfl, by rw [ht]; exact hP, va_K.moved hW.alike hK, hD⟩, hS.F ht⟩) hS.2.2 d_St_isOfKind_82
      · replace h := ck_if_f h c_11
        by_cases c_15 : kind0 = 3
        · replace h := ck_if_t h c_15
          refine lv_tableIn (tgt := 83) (off := 82) hx hb d_St_isOfKind_1 (by rw [c_15]; decide) (by rw [c_15]; decide) (by rw [c_15]; rfl) (by decide) ?_
          refine lv_aload_n hx hb d_St_isOfKind_83 rfl (lv_at hl 0 rfl) ?_
          refine lv_iload_n hx hb d_St_isOfKind_84 rfl (lv_at hl 2 rfl) ?_
          obtain ⟨r_16, hc_17, h⟩ := ck_b1_s h
          have hPc := hP.sub (ws' := [(h_s, .inr (2, [.int s_columnCount, .int s_fullRank, .ref h_s_ranks, .ref h_s_signs, .ref h_s_members, .ref h_s_starts, .ref h_s_defects])), (h_s_ranks, .inl (cI, s_ranks_n, .inl s_ranks))]) [0, 1] rfl
          have hDc := hD.sub (ws' := [(h_s, .inr (2, [.int s_columnCount, .int s_fullRank, .ref h_s_ranks, .ref h_s_signs, .ref h_s_members, .ref h_s_starts, .ref h_s_defects])), (h_s_ranks, .inl (cI, s_ranks_n, .inl s_ranks))]) [0, 1] (by decide) rfl
          have hFc := va_free (wc := [(h_s, .inr (2, [.int s_columnCount, .int s_fullRank, .ref h_s_ranks, .ref h_s_signs, .ref h_s_members, .ref h_s_starts, .ref h_s_defects])), (h_s_ranks, .inl (cI, s_ranks_n, .inl s_ranks))]) hD hS hA [0, 1] rfl
          refine va_calli (va_runV (As := [.int set0]) (rest := []) ⟨hx, hb, hml, hown, hts⟩ (c_S_isFlat l dC dI cI cJ cB cZ cT cN H.size h_s h_s_ranks h_s_signs h_s_members h_s_starts h_s_defects s_columnCount s_fullRank s_ranks_n s_ranks set0 _ hc_17) (cwV 1 hts (tb_V tw_276 tw_278 tp_15 tw_3 tw_279) rfl rfl rfl (by decide +kernel) ⟨Nat.le_of_ble_eq_true rfl, Nat.le_of_ble_eq_true rfl⟩) ⟨fun a U g mk q => by obtain ⟨q0, q1, qP, qK, qN, qD⟩ := q; exact ⟨q0, q1, qP, va_K.moved (u := U) (U := U.calling g mk a) (Vm.Alike.refl U.vm) qK, qN.same rfl, qD⟩, va_recv hK hPc (ci := 2) (q0 := 0) rfl rfl, fun U hU hW => ⟨rfl, by rw [hU], by rw [hU]; exact hPc, va_K.moved hW.alike hK, hN.warm hW, hDc.weaken (fun _ _ _ _ => trivial)⟩⟩ rfl rfl hl.1 rfl (lv_room (Nat.le_of_ble_eq_true rfl)) d_St_isOfKind_85 ⟨Nat.zero_le _, Nat.zero_le _⟩) hS (fun q _ h => hFc q h) hFc (fun rr u t H1 locs ht hvm hw hB hz1 hk1 hS => ?_)
          replace hw := hw.symm
          subst hw
          obtain ⟨hP1, -, hD1⟩ := hB
          rw [ht] at hP1
          obtain ⟨hP, hD⟩ := va_join (wr := []) (w1 := [(h_s, .inr (2, [.int s_columnCount, .int s_fullRank, .ref h_s_ranks, .ref h_s_signs, .ref h_s_members, .ref h_s_starts, .ref h_s_defects])), (h_s_ranks, .inl (cI, s_ranks_n, .inl s_ranks))]) hP hD [0, 1] [] rfl rfl (by decide) (by decide) hk1 hFc hP1 hD1
          generalize H1 = H at hP hS ⊢
          have hP : va_P (dC, dI) cl_all [(h_s, .inr (2, [.int s_columnCount, .int s_fullRank, .ref h_s_ranks, .ref h_s_signs, .ref h_s_members, .ref h_s_starts, .ref h_s_defects])), (h_s_ranks, .inl (cI, s_ranks_n, .inl s_ranks))] H := hP.sub [0, 1] rfl
          have hD : va_D A [(h_s, .inr (2, [.int s_columnCount, .int s_fullRank, .ref h_s_ranks, .ref h_s_signs, .ref h_s_members, .ref h_s_starts, .ref h_s_defects])), (h_s_ranks, .inl (cI, s_ranks_n, .inl s_ranks))] := hD.sub [0, 1] (by decide) rfl
          obtain ⟨g_18, h⟩ := ck_z_s h
          obtain rfl := Option.some.inj h
          subst hQ
          exact W.zret (ty := .boolean) (v := r_16) hx hb hr g_18.1 (fun t ht hW => ⟨⟨r_16, (), rfl, rfl, by rw [ht]; exact hP, va_K.moved hW.alike hK, hD⟩, hS.F ht⟩) hS.2.2 d_St_isOfKind_88
        · replace h := ck_if_f h c_15
          have n0 : kind0.toInt ≠ 0 := fun q => c_1 (Int32.toInt_inj.mp (by rw [q]; rfl))
          have n1 : kind0.toInt ≠ 1 := fun q => c_7 (Int32.toInt_inj.mp (by rw [q]; rfl))
          have n2 : kind0.toInt ≠ 2 := fun q => c_11 (Int32.toInt_inj.mp (by rw [q]; rfl))
          have n3 : kind0.toInt ≠ 3 := fun q => c_15 (Int32.toInt_inj.mp (by rw [q]; rfl))
          refine lv_tableOut (tgt := 89) hx hb d_St_isOfKind_1 (by omega) (by decide) ?_
          refine lv_iconst (v := 0) hx hb d_St_isOfKind_89 (by decide) ?_
          obtain rfl := Option.some.inj h
          subst hQ
          exact W.zret (ty := .boolean) (v := 0) hx hb hr rfl (fun t ht hW => ⟨⟨0, (), rfl, rfl, by rw [ht]; exact hP, va_K.moved hW.alike hK, hD⟩, hS.F ht⟩) hS.2.2 d_St_isOfKind_90
