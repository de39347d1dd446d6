theorem d_In_bitCount_0 : decode prog_9_method_49_code 0 = .ok (.iload_n 0, 1) := by decide +kernel
theorem d_In_bitCount_1 : decode prog_9_method_49_code 1 = .ok (.iload_n 0, 1) := by decide +kernel
theorem d_In_bitCount_2 : decode prog_9_method_49_code 2 = .ok (.iconst 1, 1) := by decide +kernel
theorem d_In_bitCount_3 : decode prog_9_method_49_code 3 = .ok (.iushr, 1) := by decide +kernel
theorem d_In_bitCount_4 : decode prog_9_method_49_code 4 = .ok (.ldc_w 265, 3) := by decide +kernel
theorem d_In_bitCount_7 : decode prog_9_method_49_code 7 = .ok (.iand, 1) := by decide +kernel
theorem d_In_bitCount_8 : decode prog_9_method_49_code 8 = .ok (.isub, 1) := by decide +kernel
theorem d_In_bitCount_9 : decode prog_9_method_49_code 9 = .ok (.istore_n 0, 1) := by decide +kernel
theorem d_In_bitCount_10 : decode prog_9_method_49_code 10 = .ok (.iload_n 0, 1) := by decide +kernel
theorem d_In_bitCount_11 : decode prog_9_method_49_code 11 = .ok (.ldc_w 266, 3) := by decide +kernel
theorem d_In_bitCount_14 : decode prog_9_method_49_code 14 = .ok (.iand, 1) := by decide +kernel
theorem d_In_bitCount_15 : decode prog_9_method_49_code 15 = .ok (.iload_n 0, 1) := by decide +kernel
theorem d_In_bitCount_16 : decode prog_9_method_49_code 16 = .ok (.iconst 2, 1) := by decide +kernel
theorem d_In_bitCount_17 : decode prog_9_method_49_code 17 = .ok (.iushr, 1) := by decide +kernel
theorem d_In_bitCount_18 : decode prog_9_method_49_code 18 = .ok (.ldc_w 266, 3) := by decide +kernel
theorem d_In_bitCount_21 : decode prog_9_method_49_code 21 = .ok (.iand, 1) := by decide +kernel
theorem d_In_bitCount_22 : decode prog_9_method_49_code 22 = .ok (.iadd, 1) := by decide +kernel
theorem d_In_bitCount_23 : decode prog_9_method_49_code 23 = .ok (.istore_n 0, 1) := by decide +kernel
theorem d_In_bitCount_24 : decode prog_9_method_49_code 24 = .ok (.iload_n 0, 1) := by decide +kernel
theorem d_In_bitCount_25 : decode prog_9_method_49_code 25 = .ok (.iload_n 0, 1) := by decide +kernel
theorem d_In_bitCount_26 : decode prog_9_method_49_code 26 = .ok (.iconst 4, 1) := by decide +kernel
theorem d_In_bitCount_27 : decode prog_9_method_49_code 27 = .ok (.iushr, 1) := by decide +kernel
theorem d_In_bitCount_28 : decode prog_9_method_49_code 28 = .ok (.iadd, 1) := by decide +kernel
theorem d_In_bitCount_29 : decode prog_9_method_49_code 29 = .ok (.ldc_w 267, 3) := by decide +kernel
theorem d_In_bitCount_32 : decode prog_9_method_49_code 32 = .ok (.iand, 1) := by decide +kernel
theorem d_In_bitCount_33 : decode prog_9_method_49_code 33 = .ok (.istore_n 0, 1) := by decide +kernel
theorem d_In_bitCount_34 : decode prog_9_method_49_code 34 = .ok (.iload_n 0, 1) := by decide +kernel
theorem d_In_bitCount_35 : decode prog_9_method_49_code 35 = .ok (.iload_n 0, 1) := by decide +kernel
theorem d_In_bitCount_36 : decode prog_9_method_49_code 36 = .ok (.bipush 8, 2) := by decide +kernel
theorem d_In_bitCount_38 : decode prog_9_method_49_code 38 = .ok (.iushr, 1) := by decide +kernel
theorem d_In_bitCount_39 : decode prog_9_method_49_code 39 = .ok (.iadd, 1) := by decide +kernel
theorem d_In_bitCount_40 : decode prog_9_method_49_code 40 = .ok (.istore_n 0, 1) := by decide +kernel
theorem d_In_bitCount_41 : decode prog_9_method_49_code 41 = .ok (.iload_n 0, 1) := by decide +kernel
theorem d_In_bitCount_42 : decode prog_9_method_49_code 42 = .ok (.iload_n 0, 1) := by decide +kernel
theorem d_In_bitCount_43 : decode prog_9_method_49_code 43 = .ok (.bipush 16, 2) := by decide +kernel
theorem d_In_bitCount_45 : decode prog_9_method_49_code 45 = .ok (.iushr, 1) := by decide +kernel
theorem d_In_bitCount_46 : decode prog_9_method_49_code 46 = .ok (.iadd, 1) := by decide +kernel
theorem d_In_bitCount_47 : decode prog_9_method_49_code 47 = .ok (.istore_n 0, 1) := by decide +kernel
theorem d_In_bitCount_48 : decode prog_9_method_49_code 48 = .ok (.iload_n 0, 1) := by decide +kernel
theorem d_In_bitCount_49 : decode prog_9_method_49_code 49 = .ok (.bipush 63, 2) := by decide +kernel
theorem d_In_bitCount_51 : decode prog_9_method_49_code 51 = .ok (.iand, 1) := by decide +kernel
theorem d_In_bitCount_52 : decode prog_9_method_49_code 52 = .ok (.ireturn, 1) := by decide +kernel
def f_bitCount (i0 : Int32) : Option (Int32) :=
  ck_nm (i0 - (((i0.toUInt32 >>> ((1 : Int32).toUInt32 &&& Int32.toUInt32 31)).toInt32) &&& 1431655765)) <| fun x_1 => ck_nm ((x_1 &&& 858993459) + (((x_1.toUInt32 >>> ((2 : Int32).toUInt32 &&& Int32.toUInt32 31)).toInt32) &&& 858993459)) <| fun x_2 => ck_nm ((x_2 + ((x_2.toUInt32 >>> ((4 : Int32).toUInt32 &&& Int32.toUInt32 31)).toInt32)) &&& 252645135) <| fun x_3 => ck_nm (x_3 + ((x_3.toUInt32 >>> ((8 : Int32).toUInt32 &&& Int32.toUInt32 31)).toInt32)) <| fun x_4 => ck_nm (x_4 + ((x_4.toUInt32 >>> ((16 : Int32).toUInt32 &&& Int32.toUInt32 31)).toInt32)) <| fun x_5 => some (x_5 &&& 63)
set_option maxHeartbeats 4000000 in
set_option maxRecDepth 100000 in
theorem c_bitCount (l : Launch) (dC : Nat → ClassId) (dI : Nat → Nat → Nat) (cI cJ cB cZ cT cN : ClassId) (sz : Nat) (i0 : Int32) (r : Int32) (h : f_bitCount i0 = some r) : Met l y_In_bitCount w_In_bitCount ({ frames := 0, cells := 0, slots := 0, locals := 0 } : Room) (va_Pc [.int i0] (fun U => U.heap.size = sz ∧ va_P (dC, dI) cl_all [] U.heap ∧ va_K (dC, dI) cl_all [(cI, .int), (cJ, .long), (cB, .byte), (cZ, .boolean), (cT, .object "BasisWalk$Table"), (cN, .object "BasisWalkModel$Num")] U ∧ NW U ∧ va_D (fun _ => True) [])) (va_Qi (fun (v : Int32) (_ : Unit) => v = r) (fun (u : Unit) (t : State) => va_P (dC, dI) cl_all [] t.heap ∧ va_K (dC, dI) cl_all [(cI, .int), (cJ, .long), (cB, .byte), (cZ, .boolean), (cT, .object "BasisWalk$Table"), (cN, .object "BasisWalkModel$Num")] t ∧ va_D (va_A [] sz) []) (va_A [] sz)) 0 0 (va_A [] sz) := by
  refine va_MetF (cc := prog_9_method_49_code) (maxL := 1) (ret := (Option.some Jvm.ClassFile.FieldType.int)) (by decide +kernel) rfl ?_
  intro p e s m args below meth c s₁ B hml hv
  obtain ⟨hAR, hsz, hP, hK, hN, hD0⟩ := hv
  have hx := B.exec
  have hb := B.bytes
  have hr := B.returns
  have hts := atoms_spec (ws := w_In_bitCount) B.pre
  have hown : s.vm.findClass "java/lang/Integer" = some m.cls := findClass_of_methodNamed B.named
  have hlocks := B.notSynchronized
  clear B
  subst hsz
  have hD := hD0.self (sz := s.heap.size)
  generalize hAe : va_A [] s.heap.size = A at hD ⊢
  have hA : ∀ q : Nat, s.heap.size ≤ q → A q := fun q h => by rw [← hAe]; exact Or.inr h
  clear hAe hD0
  have hS : va_S A s.heap s.heap [] := va_S.rf
  have hl := lv_entry ([.int i0]) (n := 1) (Nat.le_of_ble_eq_true rfl)
  subst hAR
  rw [lg_entry_eq]
  generalize (lg_sl ([.int i0]) ++ List.replicate (1 - (lg_sl ([.int i0])).length) Slot.unset).toArray = ls at hl ⊢
  have hl : lv_has ls 1 [(0, .int i0)] := hl
  change W p l e ({ frames := 0, cells := 0, slots := 0, locals := 0 } : Room) s m _ below meth c s.heap [] 0 0 _ _
  generalize hARe : ([.int i0] : List Value).toArray = AR at hts ⊢
  clear hARe
  generalize hQ : MQ below _ AR s 0 0 A = QQ
  have kc0 := hts _ (List.mem_cons_of_mem _ tw_198)
  have kc1 := hts _ (List.mem_cons_of_mem _ tw_199)
  have kc2 := hts _ (List.mem_cons_of_mem _ tw_200)
  obtain ⟨H, hHe⟩ : ∃ H : Heap, H = s.heap := ⟨_, rfl⟩
  rw [← hHe] at hP ⊢
  replace hS : va_S A s.heap H [] := by rw [hHe]; exact va_S.rf
  clear hHe
  unfold f_bitCount at h
  refine lv_iload_n hx hb d_In_bitCount_0 rfl (lv_at hl 0 rfl) ?_
  refine lv_iload_n hx hb d_In_bitCount_1 rfl (lv_at hl 0 rfl) ?_
  refine lv_iconst (v := 1) hx hb d_In_bitCount_2 (by decide) ?_
  refine lv_iushr hx hb d_In_bitCount_3 rfl ?_
  refine lv_ldcw (v := 1431655765) hx hb hown kc0 d_In_bitCount_4 ?_
  refine lv_iand hx hb d_In_bitCount_7 ?_
  refine lv_isub hx hb d_In_bitCount_8 ?_
  refine lv_topi (fun x_1 ex_1 => ?_)
  replace h := ck_nm_s h ex_1
  refine lv_istore_n (lv' := [(0, .int x_1)]) hx hb d_In_bitCount_9 rfl hl (by decide) rfl (fun ls hl => ?_)
  refine lv_iload_n hx hb d_In_bitCount_10 rfl (lv_at hl 0 rfl) ?_
  refine lv_ldcw (v := 858993459) hx hb hown kc1 d_In_bitCount_11 ?_
  refine lv_iand hx hb d_In_bitCount_14 ?_
  refine lv_iload_n hx hb d_In_bitCount_15 rfl (lv_at hl 0 rfl) ?_
  refine lv_iconst (v := 2) hx hb d_In_bitCount_16 (by decide) ?_
  refine lv_iushr hx hb d_In_bitCount_17 rfl ?_
  refine lv_ldcw (v := 858993459) hx hb hown kc1 d_In_bitCount_18 ?_
  refine lv_iand hx hb d_In_bitCount_21 ?_
  refine lv_iadd hx hb d_In_bitCount_22 ?_
  refine lv_topi (fun x_2 ex_2 => ?_)
  replace h := ck_nm_s h ex_2
  refine lv_istore_n (lv' := [(0, .int x_2)]) hx hb d_In_bitCount_23 rfl hl (by decide) rfl (fun ls hl => ?_)
  refine lv_iload_n hx hb d_In_bitCount_24 rfl (lv_at hl 0 rfl) ?_
  refine lv_iload_n hx hb d_In_bitCount_25 rfl (lv_at hl 0 rfl) ?_
  refine lv_iconst (v := 4) hx hb d_In_bitCount_26 (by decide) ?_
  refine lv_iushr hx hb d_In_bitCount_27 rfl ?_
  refine lv_iadd hx hb d_In_bitCount_28 ?_
  refine lv_ldcw (v := 252645135) hx hb hown kc2 d_In_bitCount_29 ?_
  refine lv_iand hx hb d_In_bitCount_32 ?_
  refine lv_topi (fun x_3 ex_3 => ?_)
  replace h := ck_nm_s h ex_3
  refine lv_istore_n (lv' := [(0, .int x_3)]) hx hb d_In_bitCount_33 rfl hl (by decide) rfl (fun ls hl => ?_)
  refine lv_iload_n hx hb d_In_bitCount_34 rfl (lv_at hl 0 rfl) ?_
  refine lv_iload_n hx hb d_In_bitCount_35 rfl (lv_at hl 0 rfl) ?_
  refine lv_bipush (v := 8) hx hb d_In_bitCount_36 (by decide) ?_
  refine lv_iushr hx hb d_In_bitCount_38 rfl ?_
  refine lv_iadd hx hb d_In_bitCount_39 ?_
  refine lv_topi (fun x_4 ex_4 => ?_)
  replace h := ck_nm_s h ex_4
  refine lv_istore_n (lv' := [(0, .int x_4)]) hx hb d_In_bitCount_40 rfl hl (by decide) rfl (fun ls hl => ?_)
  refine lv_iload_n hx hb d_In_bitCount_41 rfl (lv_at hl 0 rfl) ?_
  refine lv_iload_n hx hb d_In_bitCount_42 rfl (lv_at hl 0 rfl) ?_
  refine lv_bipush (v := 16) hx hb d_In_bitCount_43 (by decide) ?_
  refine lv_iushr hx hb d_In_bitCount_45 rfl ?_
  refine lv_iadd hx hb d_In_bitCount_46 ?_
  refine lv_topi (fun x_5 ex_5 => ?_)
  replace h := ck_nm_s h ex_5
  refine lv_istore_n (lv' := [(0, .int x_5)]) hx hb d_In_bitCount_47 rfl hl (by decide) rfl (fun ls hl => ?_)
  refine lv_iload_n hx hb d_In_bitCount_48 rfl (lv_at hl 0 rfl) ?_
  refine lv_bipush (v := 63) hx hb d_In_bitCount_49 (by decide) ?_
  refine lv_iand hx hb d_In_bitCount_51 ?_
  obtain rfl := Option.some.inj h
  subst hQ
  exact W.iret (v := (x_5 &&& 63)) hx hb hr (fun t ht hW => ⟨⟨(x_5 &&& 63), (), rfl, rfl, by rw [ht]; exact hP, va_K.moved hW.alike hK, hD⟩, hS.F ht⟩) hS.2.2 d_In_bitCount_52
theorem d_Ma_floorMod_0_0 : decode prog_10_method_50_code 0 = .ok (.iload_n 0, 1) := by decide +kernel
theorem d_Ma_floorMod_0_1 : decode prog_10_method_50_code 1 = .ok (.iload_n 1, 1) := by decide +kernel
theorem d_Ma_floorMod_0_2 : decode prog_10_method_50_code 2 = .ok (.irem, 1) := by decide +kernel
theorem d_Ma_floorMod_0_3 : decode prog_10_method_50_code 3 = .ok (.istore_n 2, 1) := by decide +kernel
theorem d_Ma_floorMod_0_4 : decode prog_10_method_50_code 4 = .ok (.iload_n 0, 1) := by decide +kernel
theorem d_Ma_floorMod_0_5 : decode prog_10_method_50_code 5 = .ok (.iload_n 1, 1) := by decide +kernel
theorem d_Ma_floorMod_0_6 : decode prog_10_method_50_code 6 = .ok (.ixor, 1) := by decide +kernel
theorem d_Ma_floorMod_0_7 : decode prog_10_method_50_code 7 = .ok (.ifCond .ge 11, 3) := by decide +kernel
theorem d_Ma_floorMod_0_10 : decode prog_10_method_50_code 10 = .ok (.iload_n 2, 1) := by decide +kernel
theorem d_Ma_floorMod_0_11 : decode prog_10_method_50_code 11 = .ok (.ifCond .eq 7, 3) := by decide +kernel
theorem d_Ma_floorMod_0_14 : decode prog_10_method_50_code 14 = .ok (.iload_n 2, 1) := by decide +kernel
theorem d_Ma_floorMod_0_15 : decode prog_10_method_50_code 15 = .ok (.iload_n 1, 1) := by decide +kernel
theorem d_Ma_floorMod_0_16 : decode prog_10_method_50_code 16 = .ok (.iadd, 1) := by decide +kernel
theorem d_Ma_floorMod_0_17 : decode prog_10_method_50_code 17 = .ok (.ireturn, 1) := by decide +kernel
theorem d_Ma_floorMod_0_18 : decode prog_10_method_50_code 18 = .ok (.iload_n 2, 1) := by decide +kernel
theorem d_Ma_floorMod_0_19 : decode prog_10_method_50_code 19 = .ok (.ireturn, 1) := by decide +kernel
def f_floorMod (x0 : Int32) (y0 : Int32) : Option (Int32) :=
  ck_nz y0 <| ck_nm (x0 - x0 / y0 * y0) <| fun x_2 => ck_if (0 ≤ (x0 ^^^ y0)) (some x_2) (ck_if (x_2 = 0) (some x_2) (some (x_2 + y0)))
set_option maxHeartbeats 4000000 in
set_option maxRecDepth 100000 in
theorem c_floorMod (l : Launch) (dC : Nat → ClassId) (dI : Nat → Nat → Nat) (cI cJ cB cZ cT cN : ClassId) (sz : Nat) (x0 : Int32) (y0 : Int32) (r : Int32) (h : f_floorMod x0 y0 = some r) : Met l y_Ma_floorMod_0 w_Ma_floorMod_0 ({ frames := 0, cells := 0, slots := 0, locals := 0 } : Room) (va_Pc [.int x0, .int y0] (fun U => U.heap.size = sz ∧ va_P (dC, dI) cl_all [] U.heap ∧ va_K (dC, dI) cl_all [(cI, .int), (cJ, .long), (cB, .byte), (cZ, .boolean), (cT, .object "BasisWalk$Table"), (cN, .object "BasisWalkModel$Num")] U ∧ NW U ∧ va_D (fun _ => True) [])) (va_Qi (fun (v : Int32) (_ : Unit) => v = r) (fun (u : Unit) (t : State) => va_P (dC, dI) cl_all [] t.heap ∧ va_K (dC, dI) cl_all [(cI, .int), (cJ, .long), (cB, .byte), (cZ, .boolean), (cT, .object "BasisWalk$Table"), (cN, .object "BasisWalkModel$Num")] t ∧ va_D (va_A [] sz) []) (va_A [] sz)) 0 0 (va_A [] sz) := by
  refine va_MetF (cc := prog_10_method_50_code) (maxL := 3) (ret := (Option.some Jvm.ClassFile.FieldType.int)) (by decide +kernel) rfl ?_
  intro p e s m args below meth c s₁ B hml hv
  obtain ⟨hAR, hsz, hP, hK, hN, hD0⟩ := hv
  have hx := B.exec
  have hb := B.bytes
  have hr := B.returns
  have hts := atoms_spec (ws := w_Ma_floorMod_0) B.pre
  have hown : s.vm.findClass "java/lang/Math" = some m.cls := findClass_of_methodNamed B.named
  have hlocks := B.notSynchronized
  clear B
  subst hsz
  have hD := hD0.self (sz := s.heap.size)
  generalize hAe : va_A [] s.heap.size = A at hD ⊢
  have hA : ∀ q : Nat, s.heap.size ≤ q → A q := fun q h => by rw [← hAe]; exact Or.inr h
  clear hAe hD0
  have hS : va_S A s.heap s.heap [] := va_S.rf
  have hl := lv_entry ([.int x0, .int y0]) (n := 3) (Nat.le_of_ble_eq_true rfl)
  subst hAR
  rw [lg_entry_eq]
  generalize (lg_sl ([.int x0, .int y0]) ++ List.replicate (3 - (lg_sl ([.int x0, .int y0])).length) Slot.unset).toArray = ls at hl ⊢
  have hl : lv_has ls 3 [(0, .int x0), (1, .int y0)] := hl
  change W p l e ({ frames := 0, cells := 0, slots := 0, locals := 0 } : Room) s m _ below meth c s.heap [] 0 0 _ _
  generalize hARe : ([.int x0, .int y0] : List Value).toArray = AR at hts ⊢
  clear hARe
  generalize hQ : MQ below _ AR s 0 0 A = QQ
  obtain ⟨H, hHe⟩ : ∃ H : Heap, H = s.heap := ⟨_, rfl⟩
  rw [← hHe] at hP ⊢
  replace hS : va_S A s.heap H [] := by rw [hHe]; exact va_S.rf
  clear hHe
  unfold f_floorMod at h
  refine lv_iload_n hx hb d_Ma_floorMod_0_0 rfl (lv_at hl 0 rfl) ?_
  refine lv_iload_n hx hb d_Ma_floorMod_0_1 rfl (lv_at hl 1 rfl) ?_
  obtain ⟨g_1, h⟩ := ck_nz_s h
  refine lv_irem hx hb d_Ma_floorMod_0_2 g_1 ?_
  refine lv_topi (fun x_2 ex_2 => ?_)
  replace h := ck_nm_s h ex_2
  refine lv_istore_n (lv' := [(2, .int x_2), (0, .int x0), (1, .int y0)]) hx hb d_Ma_floorMod_0_3 rfl hl (by decide) rfl (fun ls hl => ?_)
  refine lv_iload_n hx hb d_Ma_floorMod_0_4 rfl (lv_at hl 1 rfl) ?_
  refine lv_iload_n hx hb d_Ma_floorMod_0_5 rfl (lv_at hl 2 rfl) ?_
  refine lv_ixor hx hb d_Ma_floorMod_0_6 ?_
  refine lv_if_ge (tgt := 18) hx hb d_Ma_floorMod_0_7 (by decide) (fun c_3 => ?_) (fun c_3 => ?_)
  · replace h := ck_if_t h c_3
    refine lv_iload_n hx hb d_Ma_floorMod_0_18 rfl (lv_at hl 0 rfl) ?_
    obtain rfl := Option.some.inj h
    subst hQ
    exact W.iret (v := x_2) hx hb hr (fun t ht hW => ⟨⟨x_2, (), rfl, rfl, by rw [ht]; exact hP, va_K.moved hW.alike hK, hD⟩, hS.F ht⟩) hS.2.2 d_Ma_floorMod_0_19
  · replace h := ck_if_f h c_3
    refine lv_iload_n hx hb d_Ma_floorMod_0_10 rfl (lv_at hl 0 rfl) ?_
    refine lv_if_eq (tgt := 18) hx hb d_Ma_floorMod_0_11 (by decide) (fun c_4 => ?_) (fun c_4 => ?_)
    · replace h := ck_if_t h c_4
      refine lv_iload_n hx hb d_Ma_floorMod_0_18 rfl (lv_at hl 0 rfl) ?_
      obtain rfl := Option.some.inj h
      subst hQ
      exact W.iret (v := x_2) hx hb hr (fun t ht hW => ⟨⟨x_2, (), rfl, rfl, by rw [ht]; exact hP, va_K.moved hW.alike hK, hD⟩, hS.F ht⟩) hS.2.2 d_Ma_floorMod_0_19
    · replace h := ck_if_f h c_4
      refine lv_iload_n hx hb d_Ma_floorMod_0_14 rfl (lv_at hl 0 rfl) ?_
      refine lv_iload_n hx hb d_Ma_floorMod_0_15 rfl (lv_at hl 2 rfl) ?_
      refine lv_iadd hx hb d_Ma_floorMod_0_16 ?_
      obtain rfl := Option.some.inj h
      subst hQ
      exact W.iret (v := (x_2 + y0)) hx hb hr (fun t ht hW => ⟨⟨(x_2 + y0), (), rfl, rfl, by rw [ht]; exact hP, va_K.moved hW.alike hK, hD⟩, hS.F ht⟩) hS.2.2 d_Ma_floorMod_0_17
theorem d_Ma_floorMod_1_0 : decode prog_10_method_52_code 0 = .ok (.lload_n 0, 1) := by decide +kernel
theorem d_Ma_floorMod_1_1 : decode prog_10_method_52_code 1 = .ok (.lload_n 2, 1) := by decide +kernel
theorem d_Ma_floorMod_1_2 : decode prog_10_method_52_code 2 = .ok (.lrem, 1) := by decide +kernel
theorem d_Ma_floorMod_1_3 : decode prog_10_method_52_code 3 = .ok (.lstore 4, 2) := by decide +kernel
theorem d_Ma_floorMod_1_5 : decode prog_10_method_52_code 5 = .ok (.lload_n 0, 1) := by decide +kernel
theorem d_Ma_floorMod_1_6 : decode prog_10_method_52_code 6 = .ok (.lload_n 2, 1) := by decide +kernel
theorem d_Ma_floorMod_1_7 : decode prog_10_method_52_code 7 = .ok (.lxor, 1) := by decide +kernel
theorem d_Ma_floorMod_1_8 : decode prog_10_method_52_code 8 = .ok (.lconst 0, 1) := by decide +kernel
theorem d_Ma_floorMod_1_9 : decode prog_10_method_52_code 9 = .ok (.lcmp, 1) := by decide +kernel
theorem d_Ma_floorMod_1_10 : decode prog_10_method_52_code 10 = .ok (.ifCond .ge 15, 3) := by decide +kernel
theorem d_Ma_floorMod_1_13 : decode prog_10_method_52_code 13 = .ok (.lload 4, 2) := by decide +kernel
theorem d_Ma_floorMod_1_15 : decode prog_10_method_52_code 15 = .ok (.lconst 0, 1) := by decide +kernel
theorem d_Ma_floorMod_1_16 : decode prog_10_method_52_code 16 = .ok (.lcmp, 1) := by decide +kernel
theorem d_Ma_floorMod_1_17 : decode prog_10_method_52_code 17 = .ok (.ifCond .eq 8, 3) := by decide +kernel
theorem d_Ma_floorMod_1_20 : decode prog_10_method_52_code 20 = .ok (.lload 4, 2) := by decide +kernel
theorem d_Ma_floorMod_1_22 : decode prog_10_method_52_code 22 = .ok (.lload_n 2, 1) := by decide +kernel
theorem d_Ma_floorMod_1_23 : decode prog_10_method_52_code 23 = .ok (.ladd, 1) := by decide +kernel
theorem d_Ma_floorMod_1_24 : decode prog_10_method_52_code 24 = .ok (.lreturn, 1) := by decide +kernel
theorem d_Ma_floorMod_1_25 : decode prog_10_method_52_code 25 = .ok (.lload 4, 2) := by decide +kernel
theorem d_Ma_floorMod_1_27 : decode prog_10_method_52_code 27 = .ok (.lreturn, 1) := by decide +kernel
def f_floorModL (x0 : Int64) (y0 : Int64) : Option (Int64) :=
  ck_nzL y0 <| ck_nm (x0 - x0 / y0 * y0) <| fun x_2 => ck_if (0 ≤ (lg_cmp (x0 ^^^ y0) 0)) (some x_2) (ck_if ((lg_cmp x_2 0) = 0) (some x_2) (some (x_2 + y0)))
set_option maxHeartbeats 4000000 in
set_option maxRecDepth 100000 in
theorem c_floorModL (l : Launch) (dC : Nat → ClassId) (dI : Nat → Nat → Nat) (cI cJ cB cZ cT cN : ClassId) (sz : Nat) (x0 : Int64) (y0 : Int64) (r : Int64) (h : f_floorModL x0 y0 = some r) : Met l y_Ma_floorMod_1 w_Ma_floorMod_1 ({ frames := 0, cells := 0, slots := 0, locals := 0 } : Room) (va_Pc [.long x0, .long y0] (fun U => U.heap.size = sz ∧ va_P (dC, dI) cl_all [] U.heap ∧ va_K (dC, dI) cl_all [(cI, .int), (cJ, .long), (cB, .byte), (cZ, .boolean), (cT, .object "BasisWalk$Table"), (cN, .object "BasisWalkModel$Num")] U ∧ NW U ∧ va_D (fun _ => True) [])) (va_Ql (fun (v : Int64) (_ : Unit) => v = r) (fun (u : Unit) (t : State) => va_P (dC, dI) cl_all [] t.heap ∧ va_K (dC, dI) cl_all [(cI, .int), (cJ, .long), (cB, .byte), (cZ, .boolean), (cT, .object "BasisWalk$Table"), (cN, .object "BasisWalkModel$Num")] t ∧ va_D (va_A [] sz) []) (va_A [] sz)) 0 0 (va_A [] sz) := by
  refine va_MetF (cc := prog_10_method_52_code) (maxL := 6) (ret := (Option.some Jvm.ClassFile.FieldType.long)) (by decide +kernel) rfl ?_
  intro p e s m args below meth c s₁ B hml hv
  obtain ⟨hAR, hsz, hP, hK, hN, hD0⟩ := hv
  have hx := B.exec
  have hb := B.bytes
  have hr := B.returns
  have hts := atoms_spec (ws := w_Ma_floorMod_1) B.pre
  have hown : s.vm.findClass "java/lang/Math" = some m.cls := findClass_of_methodNamed B.named
  have hlocks := B.notSynchronized
  clear B
  subst hsz
  have hD := hD0.self (sz := s.heap.size)
  generalize hAe : va_A [] s.heap.size = A at hD ⊢
  have hA : ∀ q : Nat, s.heap.size ≤ q → A q := fun q h => by rw [← hAe]; exact Or.inr h
  clear hAe hD0
  have hS : va_S A s.heap s.heap [] := va_S.rf
  have hl := lv_entry ([.long x0, .long y0]) (n := 6) (Nat.le_of_ble_eq_true rfl)
  subst hAR
  rw [lg_entry_eq]
  generalize (lg_sl ([.long x0, .long y0]) ++ List.replicate (6 - (lg_sl ([.long x0, .long y0])).length) Slot.unset).toArray = ls at hl ⊢
  have hl : lv_has ls 6 [(0, .long x0), (2, .long y0)] := hl
  change W p l e ({ frames := 0, cells := 0, slots := 0, locals := 0 } : Room) s m _ below meth c s.heap [] 0 0 _ _
  generalize hARe : ([.long x0, .long y0] : List Value).toArray = AR at hts ⊢
  clear hARe
  generalize hQ : MQ below _ AR s 0 0 A = QQ
  obtain ⟨H, hHe⟩ : ∃ H : Heap, H = s.heap := ⟨_, rfl⟩
  rw [← hHe] at hP ⊢
  replace hS : va_S A s.heap H [] := by rw [hHe]; exact va_S.rf
  clear hHe
  unfold f_floorModL at h
  refine lv_lload_n hx hb d_Ma_floorMod_1_0 rfl (lv_at hl 0 rfl) ?_
  refine lv_lload_n hx hb d_Ma_floorMod_1_1 rfl (lv_at hl 1 rfl) ?_
  obtain ⟨g_1, h⟩ := ck_nzL_s h
  refine lv_lrem hx hb d_Ma_floorMod_1_2 g_1 ?_
  refine lv_topl (fun x_2 ex_2 => ?_)
  replace h := ck_nm_s h ex_2
  refine lv_lstore (lv' := [(4, .long x_2), (0, .long x0), (2, .long y0)]) hx hb d_Ma_floorMod_1_3 hl (by decide) rfl (fun ls hl => ?_)
  refine lv_lload_n hx hb d_Ma_floorMod_1_5 rfl (lv_at hl 1 rfl) ?_
  refine lv_lload_n hx hb d_Ma_floorMod_1_6 rfl (lv_at hl 2 rfl) ?_
  refine lv_lxor hx hb d_Ma_floorMod_1_7 ?_
  refine lv_lconst (v := 0) hx hb d_Ma_floorMod_1_8 (by decide) ?_
  refine W.lcmp hx hb d_Ma_floorMod_1_9 ?_
  refine lv_if_ge (tgt := 25) hx hb d_Ma_floorMod_1_10 (by decide) (fun c_3 => ?_) (fun c_3 => ?_)
  · replace h := ck_if_t h c_3
    refine lv_lload hx hb d_Ma_floorMod_1_25 (lv_at hl 0 rfl) ?_
    obtain rfl := Option.some.inj h
    subst hQ
    exact W.lret (v := x_2) hx hb hr (fun t ht hW => ⟨⟨x_2, (), rfl, rfl, by rw [ht]; exact hP, va_K.moved hW.alike hK, hD⟩, hS.F ht⟩) hS.2.2 d_Ma_floorMod_1_27
  · replace h := ck_if_f h c_3
    refine lv_lload hx hb d_Ma_floorMod_1_13 (lv_at hl 0 rfl) ?_
    refine lv_lconst (v := 0) hx hb d_Ma_floorMod_1_15 (by decide) ?_
    refine W.lcmp hx hb d_Ma_floorMod_1_16 ?_
    refine lv_if_eq (tgt := 25) hx hb d_Ma_floorMod_1_17 (by decide) (fun c_4 => ?_) (fun c_4 => ?_)
    · replace h := ck_if_t h c_4
      refine lv_lload hx hb d_Ma_floorMod_1_25 (lv_at hl 0 rfl) ?_
      obtain rfl := Option.some.inj h
      subst hQ
      exact W.lret (v := x_2) hx hb hr (fun t ht hW => ⟨⟨x_2, (), rfl, rfl, by rw [ht]; exact hP, va_K.moved hW.alike hK, hD⟩, hS.F ht⟩) hS.2.2 d_Ma_floorMod_1_27
    · replace h := ck_if_f h c_4
      refine lv_lload hx hb d_Ma_floorMod_1_20 (lv_at hl 0 rfl) ?_
      refine lv_lload_n hx hb d_Ma_floorMod_1_22 rfl (lv_at hl 2 rfl) ?_
      refine lv_ladd hx hb d_Ma_floorMod_1_23 ?_
      obtain rfl := Option.some.inj h
      subst hQ
      exact W.lret (v := (x_2 + y0)) hx hb hr (fun t ht hW => ⟨⟨(x_2 + y0), (), rfl, rfl, by rw [ht]; exact hP, va_K.moved hW.alike hK, hD⟩, hS.F ht⟩) hS.2.2 d_Ma_floorMod_1_24
theorem d_Ar_fill_0 : decode prog_11_method_103_code 0 = .ok (.iconst 0, 1) := by decide +kernel
theorem d_Ar_fill_1 : decode prog_11_method_103_code 1 = .ok (.istore_n 2, 1) := by decide +kernel
theorem d_Ar_fill_2 : decode prog_11_method_103_code 2 = .ok (.aload_n 0, 1) := by decide +kernel
theorem d_Ar_fill_3 : decode prog_11_method_103_code 3 = .ok (.arraylength, 1) := by decide +kernel
theorem d_Ar_fill_4 : decode prog_11_method_103_code 4 = .ok (.istore_n 3, 1) := by decide +kernel
theorem d_Ar_fill_5 : decode prog_11_method_103_code 5 = .ok (.iload_n 2, 1) := by decide +kernel
theorem d_Ar_fill_6 : decode prog_11_method_103_code 6 = .ok (.iload_n 3, 1) := by decide +kernel
theorem d_Ar_fill_7 : decode prog_11_method_103_code 7 = .ok (.if_icmp .ge 13, 3) := by decide +kernel
theorem d_Ar_fill_10 : decode prog_11_method_103_code 10 = .ok (.aload_n 0, 1) := by decide +kernel
theorem d_Ar_fill_11 : decode prog_11_method_103_code 11 = .ok (.iload_n 2, 1) := by decide +kernel
theorem d_Ar_fill_12 : decode prog_11_method_103_code 12 = .ok (.iload_n 1, 1) := by decide +kernel
theorem d_Ar_fill_13 : decode prog_11_method_103_code 13 = .ok (.iastore, 1) := by decide +kernel
theorem d_Ar_fill_14 : decode prog_11_method_103_code 14 = .ok (.iinc 2 1, 3) := by decide +kernel
theorem d_Ar_fill_17 : decode prog_11_method_103_code 17 = .ok (.goto (-12), 3) := by decide +kernel
theorem d_Ar_fill_20 : decode prog_11_method_103_code 20 = .ok (.return_, 1) := by decide +kernel
def f_fillI (a_n : Nat) (a : Nat → Int32) (v0 : Int32) : Option ((Nat → Int32)) :=
  ck_nm (nI a_n) <| fun x_1 => lo2 (fun k_5 (v2_2 : Int32) (w_3 : Nat → Int32) => ck_if (x_1 ≤ v2_2) (some w_3) (ck_in v2_2 a_n <| ck_nm (v2_2 + 1) <| fun x_6 => k_5 x_6 (upd w_3 v2_2.toNatClampNeg v0))) ck_F 0 a
set_option maxHeartbeats 4000000 in
set_option maxRecDepth 100000 in
theorem c_fillI (l : Launch) (dC : Nat → ClassId) (dI : Nat → Nat → Nat) (cI cJ cB cZ cT cN : ClassId) (sz : Nat) (h_a : Nat) (a_n : Nat) (a : Nat → Int32) (v0 : Int32) (r : (Nat → Int32)) (h : f_fillI a_n a v0 = some r) : Met l y_Ar_fill w_Ar_fill ({ frames := 0, cells := 0, slots := 0, locals := 0 } : Room) (va_Pc [.ref h_a, .int v0] (fun U => U.heap.size = sz ∧ va_P (dC, dI) cl_all [(h_a, .inl (cI, a_n, .inl a))] U.heap ∧ va_K (dC, dI) cl_all [(cI, .int), (cJ, .long), (cB, .byte), (cZ, .boolean), (cT, .object "BasisWalk$Table"), (cN, .object "BasisWalkModel$Num")] U ∧ NW U ∧ va_D (fun _ => True) [(h_a, .inl (cI, a_n, .inl a))])) (va_Qv (fun u : (Nat → Int32) => u = r) (fun (u : (Nat → Int32)) (t : State) => va_P (dC, dI) cl_all [(h_a, .inl (cI, a_n, .inl u))] t.heap ∧ va_K (dC, dI) cl_all [(cI, .int), (cJ, .long), (cB, .byte), (cZ, .boolean), (cT, .object "BasisWalk$Table"), (cN, .object "BasisWalkModel$Num")] t ∧ va_D (va_A [(h_a, .inl (cI, a_n, .inl a))] sz) [(h_a, .inl (cI, a_n, .inl u))]) (va_A [(h_a, .inl (cI, a_n, .inl a))] sz)) 0 0 (va_A [(h_a, .inl (cI, a_n, .inl a))] sz) := by
  refine va_MetF (cc := prog_11_method_103_code) (maxL := 4) (ret := (Option.none : Option Jvm.ClassFile.FieldType)) (by decide +kernel) rfl ?_
  intro p e s m args below meth c s₁ B hml hv
  obtain ⟨hAR, hsz, hP, hK, hN, hD0⟩ := hv
  have hx := B.exec
  have hb := B.bytes
  have hr := B.returns
  have hts := atoms_spec (ws := w_Ar_fill) B.pre
  have hown : s.vm.findClass "java/util/Arrays" = some m.cls := findClass_of_methodNamed B.named
  have hlocks := B.notSynchronized
  clear B
  subst hsz
  have hD := hD0.self (sz := s.heap.size)
  generalize hAe : va_A [(h_a, .inl (cI, a_n, .inl a))] s.heap.size = A at hD ⊢
  have hA : ∀ q : Nat, s.heap.size ≤ q → A q := fun q h => by rw [← hAe]; exact Or.inr h
  clear hAe hD0
  have hS : va_S A s.heap s.heap [] := va_S.rf
  have hl := lv_entry ([.ref h_a, .int v0]) (n := 4) (Nat.le_of_ble_eq_true rfl)
  subst hAR
  rw [lg_entry_eq]
  generalize (lg_sl ([.ref h_a, .int v0]) ++ List.replicate (4 - (lg_sl ([.ref h_a, .int v0])).length) Slot.unset).toArray = ls at hl ⊢
  have hl : lv_has ls 4 [(0, .ref h_a), (1, .int v0)] := hl
  change W p l e ({ frames := 0, cells := 0, slots := 0, locals := 0 } : Room) s m _ below meth c s.heap [] 0 0 _ _
  generalize hARe : ([.ref h_a, .int v0] : List Value).toArray = AR at hts ⊢
  clear hARe
  generalize hQ : MQ below _ AR s 0 0 A = QQ
  obtain ⟨H, hHe⟩ : ∃ H : Heap, H = s.heap := ⟨_, rfl⟩
  rw [← hHe] at hP ⊢
  replace hS : va_S A s.heap H [] := by rw [hHe]; exact va_S.rf
  clear hHe
  unfold f_fillI at h
  refine lv_iconst (v := 0) hx hb d_Ar_fill_0 (by decide) ?_
  refine lv_istore_n (lv' := [(2, .int 0), (0, .ref h_a), (1, .int v0)]) hx hb d_Ar_fill_1 rfl hl (by decide) rfl (fun ls hl => ?_)
  refine lv_aload_n hx hb d_Ar_fill_2 rfl (lv_at hl 1 rfl) ?_
  refine va_alen (v := nI a_n) hx hb hK hP 0 0 rfl rfl rfl d_Ar_fill_3 ?_
  refine lv_topi (fun x_1 ex_1 => ?_)
  replace h := ck_nm_s h ex_1
  refine lv_istore_n (lv' := [(3, .int x_1), (2, .int 0), (0, .ref h_a), (1, .int v0)]) hx hb d_Ar_fill_4 rfl hl (by decide) rfl (fun ls hl => ?_)
  refine lo2_W (r := r) (fun (v2_2 : Int32) (w_3 : Nat → Int32) => ∀ (H : Heap) (locs : List Loc), va_P (dC, dI) cl_all [(h_a, .inl (cI, a_n, .inl w_3))] H → va_D A [(h_a, .inl (cI, a_n, .inl w_3))] → va_S A s.heap H locs → ∀ ls : Array Slot, lv_has ls 4 [(0, .ref h_a), (1, .int v0), (2, .int v2_2), (3, .int x_1)] → W p l e ({ frames := 0, cells := 0, slots := 0, locals := 0 } : Room) s m AR below meth c H locs 0 0 QQ (F0 m 5 ls [])) ?_ _ _ _ h _ _ hP hD hS _ (lv_sub hl [2, 3, 1, 0] rfl)
  intro k_5 v2_2 w_3 J_5 h H locs hP hD hS ls hl
  refine lv_iload_n hx hb d_Ar_fill_5 rfl (lv_at hl 2 rfl) ?_
  refine lv_iload_n hx hb d_Ar_fill_6 rfl (lv_at hl 3 rfl) ?_
  refine lv_icmp_ge (tgt := 20) hx hb d_Ar_fill_7 (by decide) (fun c_4 => ?_) (fun c_4 => ?_)
  · replace h := ck_if_t h c_4
    obtain rfl := Option.some.inj h
    subst hQ
    exact W.vret hx hb hr (fun t ht hW => ⟨⟨w_3, rfl, rfl, by rw [ht]; exact hP, va_K.moved hW.alike hK, hD⟩, hS.F ht⟩) hS.2.2 d_Ar_fill_20
  · replace h := ck_if_f h c_4
    refine lv_aload_n hx hb d_Ar_fill_10 rfl (lv_at hl 0 rfl) ?_
    refine lv_iload_n hx hb d_Ar_fill_11 rfl (lv_at hl 2 rfl) ?_
    refine lv_iload_n hx hb d_Ar_fill_12 rfl (lv_at hl 1 rfl) ?_
    obtain ⟨g_5, h⟩ := ck_in_s h
    refine va_iast hx hb hK hP hD hS 0 0 rfl rfl g_5 d_Ar_fill_13 (fun H locs hP hD hS => ?_)
    have hP : va_P (dC, dI) cl_all [(h_a, .inl (cI, a_n, .inl (upd w_3 v2_2.toNatClampNeg v0)))] H := hP
    have hD : va_D A [(h_a, .inl (cI, a_n, .inl (upd w_3 v2_2.toNatClampNeg v0)))] := hD
    obtain ⟨x_6, ex_6⟩ : ∃ y : Int32, y = v2_2 + 1 := ⟨_, rfl⟩
    replace h := ck_nm_s h ex_6
    refine lv_iinc (v := x_6) (lv' := [(2, .int x_6), (0, .ref h_a), (1, .int v0), (3, .int x_1)]) hx hb d_Ar_fill_14 hl (k := 2) rfl (by rw [ex_6]; rfl) (by decide) rfl (fun ls hl => ?_)
    refine lv_goto (tgt := 5) hx hb d_Ar_fill_17 (by decide) ?_
    exact J_5 _ _ h _ _ hP hD hS _ (lv_sub hl [1, 2, 0, 3] rfl)
theorem d_Bw_choose_0 : decode prog_1_method_16_code 0 = .ok (.iconst 1, 1) := by decide +kernel
theorem d_Bw_choose_1 : decode prog_1_method_16_code 1 = .ok (.istore_n 2, 1) := by decide +kernel
theorem d_Bw_choose_2 : decode prog_1_method_16_code 2 = .ok (.iconst 1, 1) := by decide +kernel
theorem d_Bw_choose_3 : decode prog_1_method_16_code 3 = .ok (.istore_n 3, 1) := by decide +kernel
theorem d_Bw_choose_4 : decode prog_1_method_16_code 4 = .ok (.iload_n 3, 1) := by decide +kernel
theorem d_Bw_choose_5 : decode prog_1_method_16_code 5 = .ok (.iload_n 1, 1) := by decide +kernel
theorem d_Bw_choose_6 : decode prog_1_method_16_code 6 = .ok (.if_icmp .gt 19, 3) := by decide +kernel
theorem d_Bw_choose_9 : decode prog_1_method_16_code 9 = .ok (.iload_n 2, 1) := by decide +kernel
theorem d_Bw_choose_10 : decode prog_1_method_16_code 10 = .ok (.iload_n 0, 1) := by decide +kernel
theorem d_Bw_choose_11 : decode prog_1_method_16_code 11 = .ok (.iload_n 1, 1) := by decide +kernel
theorem d_Bw_choose_12 : decode prog_1_method_16_code 12 = .ok (.isub, 1) := by decide +kernel
theorem d_Bw_choose_13 : decode prog_1_method_16_code 13 = .ok (.iload_n 3, 1) := by decide +kernel
theorem d_Bw_choose_14 : decode prog_1_method_16_code 14 = .ok (.iadd, 1) := by decide +kernel
theorem d_Bw_choose_15 : decode prog_1_method_16_code 15 = .ok (.imul, 1) := by decide +kernel
theorem d_Bw_choose_16 : decode prog_1_method_16_code 16 = .ok (.iload_n 3, 1) := by decide +kernel
theorem d_Bw_choose_17 : decode prog_1_method_16_code 17 = .ok (.idiv, 1) := by decide +kernel
theorem d_Bw_choose_18 : decode prog_1_method_16_code 18 = .ok (.istore_n 2, 1) := by decide +kernel
theorem d_Bw_choose_19 : decode prog_1_method_16_code 19 = .ok (.iinc 3 1, 3) := by decide +kernel
theorem d_Bw_choose_22 : decode prog_1_method_16_code 22 = .ok (.goto (-18), 3) := by decide +kernel
theorem d_Bw_choose_25 : decode prog_1_method_16_code 25 = .ok (.iload_n 2, 1) := by decide +kernel
theorem d_Bw_choose_26 : decode prog_1_method_16_code 26 = .ok (.ireturn, 1) := by decide +kernel
def f_choose (n0 : Int32) (k0 : Int32) : Option (Int32) :=
  lo2 (fun k_4 (v3_1 : Int32) (v2_2 : Int32) => ck_if (k0 < v3_1) (some v2_2) (ck_nz v3_1 <| ck_nm ((v2_2 * ((n0 - k0) + v3_1)) / v3_1) <| fun x_5 => ck_nm (v3_1 + 1) <| fun x_6 => k_4 x_6 x_5)) ck_F 1 1
set_option maxHeartbeats 4000000 in
set_option maxRecDepth 100000 in
theorem c_choose (l : Launch) (dC : Nat → ClassId) (dI : Nat → Nat → Nat) (cI cJ cB cZ cT cN : ClassId) (sz : Nat) (n0 : Int32) (k0 : Int32) (r : Int32) (h : f_choose n0 k0 = some r) : Met l y_Bw_choose w_Bw_choose ({ frames := 0, cells := 0, slots := 0, locals := 0 } : Room) (va_Pc [.int n0, .int k0] (fun U => U.heap.size = sz ∧ va_P (dC, dI) cl_all [] U.heap ∧ va_K (dC, dI) cl_all [(cI, .int), (cJ, .long), (cB, .byte), (cZ, .boolean), (cT, .object "BasisWalk$Table"), (cN, .object "BasisWalkModel$Num")] U ∧ NW U ∧ va_D (fun _ => True) [])) (va_Qi (fun (v : Int32) (_ : Unit) => v = r) (fun (u : Unit) (t : State) => va_P (dC, dI) cl_all [] t.heap ∧ va_K (dC, dI) cl_all [(cI, .int), (cJ, .long), (cB, .byte), (cZ, .boolean), (cT, .object "BasisWalk$Table"), (cN, .object "BasisWalkModel$Num")] t ∧ va_D (va_A [] sz) []) (va_A [] sz)) 0 0 (va_A [] sz) := by
  refine Met.ofW (cc := prog_1_method_16_code) (maxL := 4) (ret := (Option.some Jvm.ClassFile.FieldType.int)) (by decide) rfl ?_
  intro p e s m args below meth c s₁ B hml hv
  obtain ⟨hAR, hsz, hP, hK, hN, hD0⟩ := hv
  have hx := B.exec
  have hb := B.bytes
  have hr := B.returns
  have hts := atoms_spec (ws := w_Bw_choose) B.pre
  have hown : s.vm.findClass "BasisWalk" = some m.cls := findClass_of_methodNamed B.named
  have hlocks := B.notSynchronized
  clear B
  subst hsz
  have hD := hD0.self (sz := s.heap.size)
  generalize hAe : va_A [] s.heap.size = A at hD ⊢
  have hA : ∀ q : Nat, s.heap.size ≤ q → A q := fun q h => by rw [← hAe]; exact Or.inr h
  clear hAe hD0
  have hS : va_S A s.heap s.heap [] := va_S.rf
  have hl := lv_entry ([.int n0, .int k0]) (n := 4) (Nat.le_of_ble_eq_true rfl)
  subst hAR
  rw [lg_entry_eq]
  generalize (lg_sl ([.int n0, .int k0]) ++ List.replicate (4 - (lg_sl ([.int n0, .int k0])).length) Slot.unset).toArray = ls at hl ⊢
  have hl : lv_has ls 4 [(0, .int n0), (1, .int k0)] := hl
  change W p l e ({ frames := 0, cells := 0, slots := 0, locals := 0 } : Room) s m _ below meth c s.heap [] 0 0 _ _
  generalize hARe : ([.int n0, .int k0] : List Value).toArray = AR at hts ⊢
  clear hARe
  generalize hQ : MQ below _ AR s 0 0 A = QQ
  obtain ⟨H, hHe⟩ : ∃ H : Heap, H = s.heap := ⟨_, rfl⟩
  rw [← hHe] at hP ⊢
  replace hS : va_S A s.heap H [] := by rw [hHe]; exact va_S.rf
  clear hHe
  unfold f_choose at h
  refine lv_iconst (v := 1) hx hb d_Bw_choose_0 (by decide) ?_
  refine lv_istore_n (lv' := [(2, .int 1), (0, .int n0), (1, .int k0)]) hx hb d_Bw_choose_1 rfl hl (by decide) rfl (fun ls hl => ?_)
  refine lv_iconst (v := 1) hx hb d_Bw_choose_2 (by decide) ?_
  refine lv_istore_n (lv' := [(3, .int 1), (2, .int 1), (0, .int n0), (1, .int k0)]) hx hb d_Bw_choose_3 rfl hl (by decide) rfl (fun ls hl => ?_)
  refine lo2_W (r := r) (fun (v3_1 : Int32) (v2_2 : Int32) => ∀ (H : Heap) (locs : List Loc), va_P (dC, dI) cl_all [] H → va_D A [] → va_S A s.heap H locs → ∀ ls : Array Slot, lv_has ls 4 [(0, .int n0), (1, .int k0), (2, .int v2_2), (3, .int v3_1)] → W p l e ({ frames := 0, cells := 0, slots := 0, locals := 0 } : Room) s m AR below meth c H locs 0 0 QQ (F0 m 4 ls [])) ?_ _ _ _ h _ _ hP hD hS _ (lv_sub hl [2, 3, 1, 0] rfl)
  intro k_4 v3_1 v2_2 J_4 h H locs hP hD hS ls hl
  refine lv_iload_n hx hb d_Bw_choose_4 rfl (lv_at hl 3 rfl) ?_
  refine lv_iload_n hx hb d_Bw_choose_5 rfl (lv_at hl 1 rfl) ?_
  refine lv_icmp_gt (tgt := 25) hx hb d_Bw_choose_6 (by decide) (fun c_3 => ?_) (fun c_3 => ?_)
  · replace h := ck_if_t h c_3
    refine lv_iload_n hx hb d_Bw_choose_25 rfl (lv_at hl 2 rfl) ?_
    obtain rfl := Option.some.inj h
    subst hQ
    exact W.iret (v := v2_2) hx hb hr (fun t ht hW => ⟨⟨v2_2, (), rfl, rfl, by rw [ht]; exact hP, va_K.moved hW.alike hK, hD⟩, hS.F ht⟩) hS.2.2 d_Bw_choose_26
  · replace h := ck_if_f h c_3
    refine lv_iload_n hx hb d_Bw_choose_9 rfl (lv_at hl 2 rfl) ?_
    refine lv_iload_n hx hb d_Bw_choose_10 rfl (lv_at hl 0 rfl) ?_
    refine lv_iload_n hx hb d_Bw_choose_11 rfl (lv_at hl 1 rfl) ?_
    refine lv_isub hx hb d_Bw_choose_12 ?_
    refine lv_iload_n hx hb d_Bw_choose_13 rfl (lv_at hl 3 rfl) ?_
    refine lv_iadd hx hb d_Bw_choose_14 ?_
    refine lv_imul hx hb d_Bw_choose_15 ?_
    refine lv_iload_n hx hb d_Bw_choose_16 rfl (lv_at hl 3 rfl) ?_
    obtain ⟨g_4, h⟩ := ck_nz_s h
    refine lv_idiv hx hb d_Bw_choose_17 g_4 ?_
    refine lv_topi (fun x_5 ex_5 => ?_)
    replace h := ck_nm_s h ex_5
    refine lv_istore_n (lv' := [(2, .int x_5), (0, .int n0), (1, .int k0), (3, .int v3_1)]) hx hb d_Bw_choose_18 rfl hl (by decide) rfl (fun ls hl => ?_)
    obtain ⟨x_6, ex_6⟩ : ∃ y : Int32, y = v3_1 + 1 := ⟨_, rfl⟩
    replace h := ck_nm_s h ex_6
    refine lv_iinc (v := x_6) (lv' := [(3, .int x_6), (2, .int x_5), (0, .int n0), (1, .int k0)]) hx hb d_Bw_choose_19 hl (k := 3) rfl (by rw [ex_6]; rfl) (by decide) rfl (fun ls hl => ?_)
    refine lv_goto (tgt := 4) hx hb d_Bw_choose_22 (by decide) ?_
    exact J_4 _ _ h _ _ hP hD hS _ (lv_sub hl [2, 3, 1, 0] rfl)
theorem d_Bw_isLineCount_0 : decode prog_1_method_13_code 0 = .ok (.iload_n 0, 1) := by decide +kernel
theorem d_Bw_isLineCount_1 : decode prog_1_method_13_code 1 = .ok (.ifCond .lt 13, 3) := by decide +kernel
theorem d_Bw_isLineCount_4 : decode prog_1_method_13_code 4 = .ok (.iload_n 0, 1) := by decide +kernel
theorem d_Bw_isLineCount_5 : decode prog_1_method_13_code 5 = .ok (.bipush 12, 2) := by decide +kernel
theorem d_Bw_isLineCount_7 : decode prog_1_method_13_code 7 = .ok (.if_icmp .gt 7, 3) := by decide +kernel
theorem d_Bw_isLineCount_10 : decode prog_1_method_13_code 10 = .ok (.iconst 1, 1) := by decide +kernel
theorem d_Bw_isLineCount_11 : decode prog_1_method_13_code 11 = .ok (.goto 4, 3) := by decide +kernel
theorem d_Bw_isLineCount_14 : decode prog_1_method_13_code 14 = .ok (.iconst 0, 1) := by decide +kernel
theorem d_Bw_isLineCount_15 : decode prog_1_method_13_code 15 = .ok (.ireturn, 1) := by decide +kernel
def f_isLineCount (x0 : Int32) : Option (Int32) :=
  ck_if (x0 < 0) (some 0) (ck_if (12 < x0) (some 0) (some 1))
set_option maxHeartbeats 4000000 in
set_option maxRecDepth 100000 in
theorem c_isLineCount (l : Launch) (dC : Nat → ClassId) (dI : Nat → Nat → Nat) (cI cJ cB cZ cT cN : ClassId) (sz : Nat) (x0 : Int32) (r : Int32) (h : f_isLineCount x0 = some r) : Met l y_Bw_isLineCount w_Bw_isLineCount ({ frames := 0, cells := 0, slots := 0, locals := 0 } : Room) (va_Pc [.int x0] (fun U => U.heap.size = sz ∧ va_P (dC, dI) cl_all [] U.heap ∧ va_K (dC, dI) cl_all [(cI, .int), (cJ, .long), (cB, .byte), (cZ, .boolean), (cT, .object "BasisWalk$Table"), (cN, .object "BasisWalkModel$Num")] U ∧ NW U ∧ va_D (fun _ => True) [])) (va_Qi (fun (v : Int32) (_ : Unit) => v = r) (fun (u : Unit) (t : State) => va_P (dC, dI) cl_all [] t.heap ∧ va_K (dC, dI) cl_all [(cI, .int), (cJ, .long), (cB, .byte), (cZ, .boolean), (cT, .object "BasisWalk$Table"), (cN, .object "BasisWalkModel$Num")] t ∧ va_D (va_A [] sz) []) (va_A [] sz)) 0 0 (va_A [] sz) := by
  refine Met.ofW (cc := prog_1_method_13_code) (maxL := 1) (ret := (Option.some Jvm.ClassFile.FieldType.boolean)) (by decide) rfl ?_
  intro p e s m args below meth c s₁ B hml hv
  obtain ⟨hAR, hsz, hP, hK, hN, hD0⟩ := hv
  have hx := B.exec
  have hb := B.bytes
  have hr := B.returns
  have hts := atoms_spec (ws := w_Bw_isLineCount) B.pre
  have hown : s.vm.findClass "BasisWalk" = some m.cls := findClass_of_methodNamed B.named
  have hlocks := B.notSynchronized
  clear B
  subst hsz
  have hD := hD0.self (sz := s.heap.size)
  generalize hAe : va_A [] s.heap.size = A at hD ⊢
  have hA : ∀ q : Nat, s.heap.size ≤ q → A q := fun q h => by rw [← hAe]; exact Or.inr h
  clear hAe hD0
  have hS : va_S A s.heap s.heap [] := va_S.rf
  have hl := lv_entry ([.int x0]) (n := 1) (Nat.le_of_ble_eq_true rfl)
  subst hAR
  rw [lg_entry_eq]
  generalize (lg_sl ([.int x0]) ++ List.replicate (1 - (lg_sl ([.int x0])).length) Slot.unset).toArray = ls at hl ⊢
  have hl : lv_has ls 1 [(0, .int x0)] := hl
  change W p l e ({ frames := 0, cells := 0, slots := 0, locals := 0 } : Room) s m _ below meth c s.heap [] 0 0 _ _
  generalize hARe : ([.int x0] : List Value).toArray = AR at hts ⊢
  clear hARe
  generalize hQ : MQ below _ AR s 0 0 A = QQ
  obtain ⟨H, hHe⟩ : ∃ H : Heap, H = s.heap := ⟨_, rfl⟩
  rw [← hHe] at hP ⊢
  replace hS : va_S A s.heap H [] := by rw [hHe]; exact va_S.rf
  clear hHe
  unfold f_isLineCount at h
  refine lv_iload_n hx hb d_Bw_isLineCount_0 rfl (lv_at hl 0 rfl) ?_
  refine lv_if_lt (tgt := 14) hx hb d_Bw_isLineCount_1 (by decide) (fun c_1 => ?_) (fun c_1 => ?_)
  · replace h := ck_if_t h c_1
    refine lv_iconst (v := 0) hx hb d_Bw_isLineCount_14 (by decide) ?_
    obtain rfl := Option.some.inj h
    subst hQ
    exact W.zret (ty := .boolean) (v := 0) hx hb hr rfl (fun t ht hW => ⟨⟨0, (), rfl, rfl, by rw [ht]; exact hP, va_K.moved hW.alike hK, hD⟩, hS.F ht⟩) hS.2.2 d_Bw_isLineCount_15
  · replace h := ck_if_f h c_1
    refine lv_iload_n hx hb d_Bw_isLineCount_4 rfl (lv_at hl 0 rfl) ?_
    refine lv_bipush (v := 12) hx hb d_Bw_isLineCount_5 (by decide) ?_
    refine lv_icmp_gt (tgt := 14) hx hb d_Bw_isLineCount_7 (by decide) (fun c_2 => ?_) (fun c_2 => ?_)
    · replace h := ck_if_t h c_2
      refine lv_iconst (v := 0) hx hb d_Bw_isLineCount_14 (by decide) ?_
      obtain rfl := Option.some.inj h
      subst hQ
      exact W.zret (ty := .boolean) (v := 0) hx hb hr rfl (fun t ht hW => ⟨⟨0, (), rfl, rfl, by rw [ht]; exact hP, va_K.moved hW.alike hK, hD⟩, hS.F ht⟩) hS.2.2 d_Bw_isLineCount_15
    · replace h := ck_if_f h c_2
      refine lv_iconst (v := 1) hx hb d_Bw_isLineCount_10 (by decide) ?_
      refine lv_goto (tgt := 15) hx hb d_Bw_isLineCount_11 (by decide) ?_
      obtain rfl := Option.some.inj h
      subst hQ
      exact W.zret (ty := .boolean) (v := 1) hx hb hr rfl (fun t ht hW => ⟨⟨1, (), rfl, rfl, by rw [ht]; exact hP, va_K.moved hW.alike hK, hD⟩, hS.F ht⟩) hS.2.2 d_Bw_isLineCount_15
theorem d_Bw_isKind_0 : decode prog_1_method_14_code 0 = .ok (.iload_n 0, 1) := by decide +kernel
theorem d_Bw_isKind_1 : decode prog_1_method_14_code 1 = .ok (.ifCond .lt 12, 3) := by decide +kernel
theorem d_Bw_isKind_4 : decode prog_1_method_14_code 4 = .ok (.iload_n 0, 1) := by decide +kernel
theorem d_Bw_isKind_5 : decode prog_1_method_14_code 5 = .ok (.iconst 4, 1) := by decide +kernel
theorem d_Bw_isKind_6 : decode prog_1_method_14_code 6 = .ok (.if_icmp .ge 7, 3) := by decide +kernel
theorem d_Bw_isKind_9 : decode prog_1_method_14_code 9 = .ok (.iconst 1, 1) := by decide +kernel
theorem d_Bw_isKind_10 : decode prog_1_method_14_code 10 = .ok (.goto 4, 3) := by decide +kernel
theorem d_Bw_isKind_13 : decode prog_1_method_14_code 13 = .ok (.iconst 0, 1) := by decide +kernel
theorem d_Bw_isKind_14 : decode prog_1_method_14_code 14 = .ok (.ireturn, 1) := by decide +kernel
def f_isKind (x0 : Int32) : Option (Int32) :=
  ck_if (x0 < 0) (some 0) (ck_if (4 ≤ x0) (some 0) (some 1))
set_option maxHeartbeats 4000000 in
set_option maxRecDepth 100000 in
theorem c_isKind (l : Launch) (dC : Nat → ClassId) (dI : Nat → Nat → Nat) (cI cJ cB cZ cT cN : ClassId) (sz : Nat) (x0 : Int32) (r : Int32) (h : f_isKind x0 = some r) : Met l y_Bw_isKind w_Bw_isKind ({ frames := 0, cells := 0, slots := 0, locals := 0 } : Room) (va_Pc [.int x0] (fun U => U.heap.size = sz ∧ va_P (dC, dI) cl_all [] U.heap ∧ va_K (dC, dI) cl_all [(cI, .int), (cJ, .long), (cB, .byte), (cZ, .boolean), (cT, .object "BasisWalk$Table"), (cN, .object "BasisWalkModel$Num")] U ∧ NW U ∧ va_D (fun _ => True) [])) (va_Qi (fun (v : Int32) (_ : Unit) => v = r) (fun (u : Unit) (t : State) => va_P (dC, dI) cl_all [] t.heap ∧ va_K (dC, dI) cl_all [(cI, .int), (cJ, .long), (cB, .byte), (cZ, .boolean), (cT, .object "BasisWalk$Table"), (cN, .object "BasisWalkModel$Num")] t ∧ va_D (va_A [] sz) []) (va_A [] sz)) 0 0 (va_A [] sz) := by
  refine Met.ofW (cc := prog_1_method_14_code) (maxL := 1) (ret := (Option.some Jvm.ClassFile.FieldType.boolean)) (by decide) rfl ?_
  intro p e s m args below meth c s₁ B hml hv
  obtain ⟨hAR, hsz, hP, hK, hN, hD0⟩ := hv
  have hx := B.exec
  have hb := B.bytes
  have hr := B.returns
  have hts := atoms_spec (ws := w_Bw_isKind) B.pre
  have hown : s.vm.findClass "BasisWalk" = some m.cls := findClass_of_methodNamed B.named
  have hlocks := B.notSynchronized
  clear B
  subst hsz
  have hD := hD0.self (sz := s.heap.size)
  generalize hAe : va_A [] s.heap.size = A at hD ⊢
  have hA : ∀ q : Nat, s.heap.size ≤ q → A q := fun q h => by rw [← hAe]; exact Or.inr h
  clear hAe hD0
  have hS : va_S A s.heap s.heap [] := va_S.rf
  have hl := lv_entry ([.int x0]) (n := 1) (Nat.le_of_ble_eq_true rfl)
  subst hAR
  rw [lg_entry_eq]
  generalize (lg_sl ([.int x0]) ++ List.replicate (1 - (lg_sl ([.int x0])).length) Slot.unset).toArray = ls at hl ⊢
  have hl : lv_has ls 1 [(0, .int x0)] := hl
  change W p l e ({ frames := 0, cells := 0, slots := 0, locals := 0 } : Room) s m _ below meth c s.heap [] 0 0 _ _
  generalize hARe : ([.int x0] : List Value).toArray = AR at hts ⊢
  clear hARe
  generalize hQ : MQ below _ AR s 0 0 A = QQ
  obtain ⟨H, hHe⟩ : ∃ H : Heap, H = s.heap := ⟨_, rfl⟩
  rw [← hHe] at hP ⊢
  replace hS : va_S A s.heap H [] := by rw [hHe]; exact va_S.rf
  clear hHe
  unfold f_isKind at h
  refine lv_iload_n hx hb d_Bw_isKind_0 rfl (lv_at hl 0 rfl) ?_
  refine lv_if_lt (tgt := 13) hx hb d_Bw_isKind_1 (by decide) (fun c_1 => ?_) (fun c_1 => ?_)
  · replace h := ck_if_t h c_1
    refine lv_iconst (v := 0) hx hb d_Bw_isKind_13 (by decide) ?_
    obtain rfl := Option.some.inj h
    subst hQ
    exact W.zret (ty := .boolean) (v := 0) hx hb hr rfl (fun t ht hW => ⟨⟨0, (), rfl, rfl, by rw [ht]; exact hP, va_K.moved hW.alike hK, hD⟩, hS.F ht⟩) hS.2.2 d_Bw_isKind_14
  · replace h := ck_if_f h c_1
    refine lv_iload_n hx hb d_Bw_isKind_4 rfl (lv_at hl 0 rfl) ?_
    refine lv_iconst (v := 4) hx hb d_Bw_isKind_5 (by decide) ?_
    refine lv_icmp_ge (tgt := 13) hx hb d_Bw_isKind_6 (by decide) (fun c_2 => ?_) (fun c_2 => ?_)
    · replace h := ck_if_t h c_2
      refine lv_iconst (v := 0) hx hb d_Bw_isKind_13 (by decide) ?_
      obtain rfl := Option.some.inj h
      subst hQ
      exact W.zret (ty := .boolean) (v := 0) hx hb hr rfl (fun t ht hW => ⟨⟨0, (), rfl, rfl, by rw [ht]; exact hP, va_K.moved hW.alike hK, hD⟩, hS.F ht⟩) hS.2.2 d_Bw_isKind_14
    · replace h := ck_if_f h c_2
      refine lv_iconst (v := 1) hx hb d_Bw_isKind_9 (by decide) ?_
      refine lv_goto (tgt := 14) hx hb d_Bw_isKind_10 (by decide) ?_
      obtain rfl := Option.some.inj h
      subst hQ
      exact W.zret (ty := .boolean) (v := 1) hx hb hr rfl (fun t ht hW => ⟨⟨1, (), rfl, rfl, by rw [ht]; exact hP, va_K.moved hW.alike hK, hD⟩, hS.F ht⟩) hS.2.2 d_Bw_isKind_14
theorem d_Bw_isField_0 : decode prog_1_method_15_code 0 = .ok (.iload_n 0, 1) := by decide +kernel
theorem d_Bw_isField_1 : decode prog_1_method_15_code 1 = .ok (.ifCond .ne 5, 3) := by decide +kernel
theorem d_Bw_isField_4 : decode prog_1_method_15_code 4 = .ok (.iconst 1, 1) := by decide +kernel
theorem d_Bw_isField_5 : decode prog_1_method_15_code 5 = .ok (.ireturn, 1) := by decide +kernel
theorem d_Bw_isField_6 : decode prog_1_method_15_code 6 = .ok (.iload_n 0, 1) := by decide +kernel
theorem d_Bw_isField_7 : decode prog_1_method_15_code 7 = .ok (.iconst 2, 1) := by decide +kernel
theorem d_Bw_isField_8 : decode prog_1_method_15_code 8 = .ok (.if_icmp .lt 10, 3) := by decide +kernel
theorem d_Bw_isField_11 : decode prog_1_method_15_code 11 = .ok (.iload_n 0, 1) := by decide +kernel
theorem d_Bw_isField_12 : decode prog_1_method_15_code 12 = .ok (.sipush 251, 3) := by decide +kernel
theorem d_Bw_isField_15 : decode prog_1_method_15_code 15 = .ok (.if_icmp .le 5, 3) := by decide +kernel
theorem d_Bw_isField_18 : decode prog_1_method_15_code 18 = .ok (.iconst 0, 1) := by decide +kernel
theorem d_Bw_isField_19 : decode prog_1_method_15_code 19 = .ok (.ireturn, 1) := by decide +kernel
theorem d_Bw_isField_20 : decode prog_1_method_15_code 20 = .ok (.iconst 2, 1) := by decide +kernel
theorem d_Bw_isField_21 : decode prog_1_method_15_code 21 = .ok (.istore_n 1, 1) := by decide +kernel
theorem d_Bw_isField_22 : decode prog_1_method_15_code 22 = .ok (.iload_n 1, 1) := by decide +kernel
theorem d_Bw_isField_23 : decode prog_1_method_15_code 23 = .ok (.iload_n 1, 1) := by decide +kernel
theorem d_Bw_isField_24 : decode prog_1_method_15_code 24 = .ok (.imul, 1) := by decide +kernel
theorem d_Bw_isField_25 : decode prog_1_method_15_code 25 = .ok (.iload_n 0, 1) := by decide +kernel
theorem d_Bw_isField_26 : decode prog_1_method_15_code 26 = .ok (.if_icmp .gt 17, 3) := by decide +kernel
theorem d_Bw_isField_29 : decode prog_1_method_15_code 29 = .ok (.iload_n 0, 1) := by decide +kernel
theorem d_Bw_isField_30 : decode prog_1_method_15_code 30 = .ok (.iload_n 1, 1) := by decide +kernel
theorem d_Bw_isField_31 : decode prog_1_method_15_code 31 = .ok (.irem, 1) := by decide +kernel
theorem d_Bw_isField_32 : decode prog_1_method_15_code 32 = .ok (.ifCond .ne 5, 3) := by decide +kernel
theorem d_Bw_isField_35 : decode prog_1_method_15_code 35 = .ok (.iconst 0, 1) := by decide +kernel
theorem d_Bw_isField_36 : decode prog_1_method_15_code 36 = .ok (.ireturn, 1) := by decide +kernel
theorem d_Bw_isField_37 : decode prog_1_method_15_code 37 = .ok (.iinc 1 1, 3) := by decide +kernel
theorem d_Bw_isField_40 : decode prog_1_method_15_code 40 = .ok (.goto (-18), 3) := by decide +kernel
theorem d_Bw_isField_43 : decode prog_1_method_15_code 43 = .ok (.iconst 1, 1) := by decide +kernel
theorem d_Bw_isField_44 : decode prog_1_method_15_code 44 = .ok (.ireturn, 1) := by decide +kernel
def f_isField (x0 : Int32) : Option (Int32) :=
  ck_if (x0 = 0) (some 1) (ck_if (x0 < 2) (some 0) (ck_if (x0 ≤ 251) (lo1 (fun k_22 (v1_4 : Int32) => ck_if (x0 < (v1_4 * v1_4)) (some 1) (ck_nz v1_4 <| ck_if ((x0 - x0 / v1_4 * v1_4) = 0) (some 0) (ck_nm (v1_4 + 1) <| fun x_8 => k_22 x_8))) ck_F 2) (some 0)))
set_option maxHeartbeats 4000000 in
set_option maxRecDepth 100000 in
theorem c_isField (l : Launch) (dC : Nat → ClassId) (dI : Nat → Nat → Nat) (cI cJ cB cZ cT cN : ClassId) (sz : Nat) (x0 : Int32) (r : Int32) (h : f_isField x0 = some r) : Met l y_Bw_isField w_Bw_isField ({ frames := 0, cells := 0, slots := 0, locals := 0 } : Room) (va_Pc [.int x0] (fun U => U.heap.size = sz ∧ va_P (dC, dI) cl_all [] U.heap ∧ va_K (dC, dI) cl_all [(cI, .int), (cJ, .long), (cB, .byte), (cZ, .boolean), (cT, .object "BasisWalk$Table"), (cN, .object "BasisWalkModel$Num")] U ∧ NW U ∧ va_D (fun _ => True) [])) (va_Qi (fun (v : Int32) (_ : Unit) => v = r) (fun (u : Unit) (t : State) => va_P (dC, dI) cl_all [] t.heap ∧ va_K (dC, dI) cl_all [(cI, .int), (cJ, .long), (cB, .byte), (cZ, .boolean), (cT, .object "BasisWalk$Table"), (cN, .object "BasisWalkModel$Num")] t ∧ va_D (va_A [] sz) []) (va_A [] sz)) 0 0 (va_A [] sz) := by
  refine Met.ofW (cc := prog_1_method_15_code) (maxL := 2) (ret := (Option.some Jvm.ClassFile.FieldType.boolean)) (by decide) rfl ?_
  intro p e s m args below meth c s₁ B hml hv
  obtain ⟨hAR, hsz, hP, hK, hN, hD0⟩ := hv
  have hx := B.exec
  have hb := B.bytes
  have hr := B.returns
  have hts := atoms_spec (ws := w_Bw_isField) B.pre
  have hown : s.vm.findClass "BasisWalk" = some m.cls := findClass_of_methodNamed B.named
  have hlocks := B.notSynchronized
  clear B
  subst hsz
  have hD := hD0.self (sz := s.heap.size)
  generalize hAe : va_A [] s.heap.size = A at hD ⊢
  have hA : ∀ q : Nat, s.heap.size ≤ q → A q := fun q h => by rw [← hAe]; exact Or.inr h
  clear hAe hD0
  have hS : va_S A s.heap s.heap [] := va_S.rf
  have hl := lv_entry ([.int x0]) (n := 2) (Nat.le_of_ble_eq_true rfl)
  subst hAR
  rw [lg_entry_eq]
  generalize (lg_sl ([.int x0]) ++ List.replicate (2 - (lg_sl ([.int x0])).length) Slot.unset).toArray = ls at hl ⊢
  have hl : lv_has ls 2 [(0, .int x0)] := hl
  change W p l e ({ frames := 0, cells := 0, slots := 0, locals := 0 } : Room) s m _ below meth c s.heap [] 0 0 _ _
  generalize hARe : ([.int x0] : List Value).toArray = AR at hts ⊢
  clear hARe
  generalize hQ : MQ below _ AR s 0 0 A = QQ
  obtain ⟨H, hHe⟩ : ∃ H : Heap, H = s.heap := ⟨_, rfl⟩
  rw [← hHe] at hP ⊢
  replace hS : va_S A s.heap H [] := by rw [hHe]; exact va_S.rf
  clear hHe
  unfold f_isField at h
  refine lv_iload_n hx hb d_Bw_isField_0 rfl (lv_at hl 0 rfl) ?_
  refine lv_if_ne (tgt := 6) hx hb d_Bw_isField_1 (by decide) (fun c_1 => ?_) (fun c_1 => ?_)
  · replace h := ck_if_f h c_1
    refine lv_iload_n hx hb d_Bw_isField_6 rfl (lv_at hl 0 rfl) ?_
    refine lv_iconst (v := 2) hx hb d_Bw_isField_7 (by decide) ?_
    refine lv_icmp_lt (tgt := 18) hx hb d_Bw_isField_8 (by decide) (fun c_2 => ?_) (fun c_2 => ?_)
    · replace h := ck_if_t h c_2
      refine lv_iconst (v := 0) hx hb d_Bw_isField_18 (by decide) ?_
      obtain rfl := Option.some.inj h
      subst hQ
      exact W.zret (ty := .boolean) (v := 0) hx hb hr rfl (fun t ht hW => ⟨⟨0, (), rfl, rfl, by rw [ht]; exact hP, va_K.moved hW.alike hK, hD⟩, hS.F ht⟩) hS.2.2 d_Bw_isField_19
    · replace h := ck_if_f h c_2
      refine lv_iload_n hx hb d_Bw_isField_11 rfl (lv_at hl 0 rfl) ?_
      refine lv_sipush (v := 251) hx hb d_Bw_isField_12 (by decide) ?_
      refine lv_icmp_le (tgt := 20) hx hb d_Bw_isField_15 (by decide) (fun c_3 => ?_) (fun c_3 => ?_)
      · replace h := ck_if_t h c_3
        refine lv_iconst (v := 2) hx hb d_Bw_isField_20 (by decide) ?_
        refine lv_istore_n (lv' := [(1, .int 2), (0, .int x0)]) hx hb d_Bw_isField_21 rfl hl (by decide) rfl (fun ls hl => ?_)
        refine lo1_W (r := r) (fun (v1_4 : Int32) => ∀ (H : Heap) (locs : List Loc), va_P (dC, dI) cl_all [] H → va_D A [] → va_S A s.heap H locs → ∀ ls : Array Slot, lv_has ls 2 [(0, .int x0), (1, .int v1_4)] → W p l e ({ frames := 0, cells := 0, slots := 0, locals := 0 } : Room) s m AR below meth c H locs 0 0 QQ (F0 m 22 ls [])) ?_ _ _ h _ _ hP hD hS _ (lv_sub hl [1, 0] rfl)
        intro k_22 v1_4 J_22 h H locs hP hD hS ls hl
        refine lv_iload_n hx hb d_Bw_isField_22 rfl (lv_at hl 1 rfl) ?_
        refine lv_iload_n hx hb d_Bw_isField_23 rfl (lv_at hl 1 rfl) ?_
        refine lv_imul hx hb d_Bw_isField_24 ?_
        refine lv_iload_n hx hb d_Bw_isField_25 rfl (lv_at hl 0 rfl) ?_
        refine lv_icmp_gt (tgt := 43) hx hb d_Bw_isField_26 (by decide) (fun c_5 => ?_) (fun c_5 => ?_)
        · replace h := ck_if_t h c_5
          refine lv_iconst (v := 1) hx hb d_Bw_isField_43 (by decide) ?_
          obtain rfl := Option.some.inj h
          subst hQ
          exact W.zret (ty := .boolean) (v := 1) hx hb hr rfl (fun t ht hW => ⟨⟨1, (), rfl, rfl, by rw [ht]; exact hP, va_K.moved hW.alike hK, hD⟩, hS.F ht⟩) hS.2.2 d_Bw_isField_44
        · replace h := ck_if_f h c_5
          refine lv_iload_n hx hb d_Bw_isField_29 rfl (lv_at hl 0 rfl) ?_
          refine lv_iload_n hx hb d_Bw_isField_30 rfl (lv_at hl 1 rfl) ?_
          obtain ⟨g_6, h⟩ := ck_nz_s h
          refine lv_irem hx hb d_Bw_isField_31 g_6 ?_
          refine lv_if_ne (tgt := 37) hx hb d_Bw_isField_32 (by decide) (fun c_7 => ?_) (fun c_7 => ?_)
          · replace h := ck_if_f h c_7
            obtain ⟨x_8, ex_8⟩ : ∃ y : Int32, y = v1_4 + 1 := ⟨_, rfl⟩
            replace h := ck_nm_s h ex_8
            refine lv_iinc (v := x_8) (lv' := [(1, .int x_8), (0, .int x0)]) hx hb d_Bw_isField_37 hl (k := 1) rfl (by rw [ex_8]; rfl) (by decide) rfl (fun ls hl => ?_)
            refine lv_goto (tgt := 22) hx hb d_Bw_isField_40 (by decide) ?_
            exact J_22 _ h _ _ hP hD hS _ (lv_sub hl [1, 0] rfl)
          · replace h := ck_if_t h c_7
            refine lv_iconst (v := 0) hx hb d_Bw_isField_35 (by decide) ?_
            obtain rfl := Option.some.inj h
            subst hQ
            exact W.zret (ty := .boolean) (v := 0) hx hb hr rfl (fun t ht hW => ⟨⟨0, (), rfl, rfl, by rw [ht]; exact hP, va_K.moved hW.alike hK, hD⟩, hS.F ht⟩) hS.2.2 d_Bw_isField_36
      · replace h := ck_if_f h c_3
        refine lv_iconst (v := 0) hx hb d_Bw_isField_18 (by decide) ?_
        obtain rfl := Option.some.inj h
        subst hQ
        exact W.zret (ty := .boolean) (v := 0) hx hb hr rfl (fun t ht hW => ⟨⟨0, (), rfl, rfl, by rw [ht]; exact hP, va_K.moved hW.alike hK, hD⟩, hS.F ht⟩) hS.2.2 d_Bw_isField_19
  · replace h := ck_if_t h c_1
    refine lv_iconst (v := 1) hx hb d_Bw_isField_4 (by decide) ?_
    obtain rfl := Option.some.inj h
    subst hQ
    exact W.zret (ty := .boolean) (v := 1) hx hb hr rfl (fun t ht hW => ⟨⟨1, (), rfl, rfl, by rw [ht]; exact hP, va_K.moved hW.alike hK, hD⟩, hS.F ht⟩) hS.2.2 d_Bw_isField_5
