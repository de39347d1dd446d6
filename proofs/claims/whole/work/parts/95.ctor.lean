theorem z_I (n : Nat) (cA : ClassId) : vp_cell cA ((n, .inl (fun _ => 0)) : vp_A) = arrV cA n (fun _ => defaultValue .int) := rfl
theorem z_J (n : Nat) (cA : ClassId) : vp_cell cA ((n, .inr (.inl (fun _ => 0))) : vp_A) = arrV cA n (fun _ => defaultValue .long) := rfl
theorem z_B (n : Nat) (cA : ClassId) : vp_cell cA ((n, .inl (fun _ => 0)) : vp_A) = arrV cA n (fun _ => defaultValue .byte) := rfl
theorem z_Z (n : Nat) (cA : ClassId) : vp_cell cA ((n, .inl (fun _ => 0)) : vp_A) = arrV cA n (fun _ => defaultValue .boolean) := rfl
theorem d_St_init_0 : decode prog_4_method_1_code 0 = .ok (.aload_n 0, 1) := by decide +kernel
theorem d_St_init_1 : decode prog_4_method_1_code 1 = .ok (.invokespecial 3, 3) := by decide +kernel
theorem d_St_init_4 : decode prog_4_method_1_code 4 = .ok (.aload_n 0, 1) := by decide +kernel
theorem d_St_init_5 : decode prog_4_method_1_code 5 = .ok (.sipush 4096, 3) := by decide +kernel
theorem d_St_init_8 : decode prog_4_method_1_code 8 = .ok (.newarray .int, 2) := by decide +kernel
theorem d_St_init_10 : decode prog_4_method_1_code 10 = .ok (.putfield 9, 3) := by decide +kernel
theorem d_St_init_13 : decode prog_4_method_1_code 13 = .ok (.aload_n 0, 1) := by decide +kernel
theorem d_St_init_14 : decode prog_4_method_1_code 14 = .ok (.sipush 4096, 3) := by decide +kernel
theorem d_St_init_17 : decode prog_4_method_1_code 17 = .ok (.newarray .int, 2) := by decide +kernel
theorem d_St_init_19 : decode prog_4_method_1_code 19 = .ok (.putfield 15, 3) := by decide +kernel
theorem d_St_init_22 : decode prog_4_method_1_code 22 = .ok (.aload_n 0, 1) := by decide +kernel
theorem d_St_init_23 : decode prog_4_method_1_code 23 = .ok (.sipush 6868, 3) := by decide +kernel
theorem d_St_init_26 : decode prog_4_method_1_code 26 = .ok (.newarray .int, 2) := by decide +kernel
theorem d_St_init_28 : decode prog_4_method_1_code 28 = .ok (.putfield 18, 3) := by decide +kernel
theorem d_St_init_31 : decode prog_4_method_1_code 31 = .ok (.aload_n 0, 1) := by decide +kernel
theorem d_St_init_32 : decode prog_4_method_1_code 32 = .ok (.iconst 5, 1) := by decide +kernel
theorem d_St_init_33 : decode prog_4_method_1_code 33 = .ok (.newarray .int, 2) := by decide +kernel
theorem d_St_init_35 : decode prog_4_method_1_code 35 = .ok (.putfield 21, 3) := by decide +kernel
theorem d_St_init_38 : decode prog_4_method_1_code 38 = .ok (.aload_n 0, 1) := by decide +kernel
theorem d_St_init_39 : decode prog_4_method_1_code 39 = .ok (.sipush 169, 3) := by decide +kernel
theorem d_St_init_42 : decode prog_4_method_1_code 42 = .ok (.newarray .int, 2) := by decide +kernel
theorem d_St_init_44 : decode prog_4_method_1_code 44 = .ok (.putfield 24, 3) := by decide +kernel
theorem d_St_init_47 : decode prog_4_method_1_code 47 = .ok (.return_, 1) := by decide +kernel
set_option maxHeartbeats 4000000 in
set_option maxRecDepth 100000 in
theorem n_Study (l : Launch) (dC : Nat → ClassId) (dI : Nat → Nat → Nat) (cI cJ cB cZ cT cN : ClassId) (sz : Nat) (h_this : Nat) : Met l y_St_init w_St_init ({ frames := 1, cells := 5, slots := 15234, locals := 12 } : Room) (va_Pc [.ref h_this] (fun U => U.heap.size = sz ∧ va_P (dC, dI) cl_all [(h_this, .inr (2, [.int 0, .int 0, .null, .null, .null, .null, .null]))] U.heap ∧ va_K (dC, dI) cl_all [(cI, .int), (cJ, .long), (cB, .byte), (cZ, .boolean), (cT, .object "BasisWalk$Table"), (cN, .object "BasisWalkModel$Num")] U ∧ NW U ∧ va_D (fun _ => True) [(h_this, .inr (2, [.int 0, .int 0, .null, .null, .null, .null, .null]))])) (va_Qv (fun _ : Unit => True) (fun (_ : Unit) (t : State) => ∃ (q_1 : Nat) (q_2 : Nat) (q_3 : Nat) (q_4 : Nat) (q_5 : Nat), va_P (dC, dI) cl_all [(h_this, .inr (2, [.int 0, .int 0, .ref q_1, .ref q_2, .ref q_3, .ref q_4, .ref q_5])), (q_1, .inl (cI, 4096, .inl (fun _ => 0))), (q_2, .inl (cI, 4096, .inl (fun _ => 0))), (q_3, .inl (cI, 6868, .inl (fun _ => 0))), (q_4, .inl (cI, 5, .inl (fun _ => 0))), (q_5, .inl (cI, 169, .inl (fun _ => 0)))] t.heap ∧ va_K (dC, dI) cl_all [(cI, .int), (cJ, .long), (cB, .byte), (cZ, .boolean), (cT, .object "BasisWalk$Table"), (cN, .object "BasisWalkModel$Num")] t ∧ va_D (va_A [(h_this, .inr (2, [.int 0, .int 0, .null, .null, .null, .null, .null]))] sz) [(h_this, .inr (2, [.int 0, .int 0, .ref q_1, .ref q_2, .ref q_3, .ref q_4, .ref q_5])), (q_1, .inl (cI, 4096, .inl (fun _ => 0))), (q_2, .inl (cI, 4096, .inl (fun _ => 0))), (q_3, .inl (cI, 6868, .inl (fun _ => 0))), (q_4, .inl (cI, 5, .inl (fun _ => 0))), (q_5, .inl (cI, 169, .inl (fun _ => 0)))]) (va_A [(h_this, .inr (2, [.int 0, .int 0, .null, .null, .null, .null, .null]))] sz)) 5 15234 (va_A [(h_this, .inr (2, [.int 0, .int 0, .null, .null, .null, .null, .null]))] sz) := by
  refine Met.ofW (cc := prog_4_method_1_code) (maxL := 1) (ret := (Option.none : Option Jvm.ClassFile.FieldType)) (by decide) rfl ?_
  intro p e s m args below meth c s₁ B hml hv
  obtain ⟨hAR, hsz, hP, hK, hN, hD0⟩ := hv
  have hx := B.exec
  have hb := B.bytes
  have hr := B.returns
  have hts := atoms_spec (ws := w_St_init) B.pre
  have hown : s.vm.findClass "BasisWalk$Study" = some m.cls := findClass_of_methodNamed B.named
  have hlocks := B.notSynchronized
  have hin : meth.name = "<init>" := (name_of_methodNamed B.named B.method).1
  clear B
  subst hsz
  have hD := hD0.self (sz := s.heap.size)
  generalize hAe : va_A [(h_this, .inr (2, [.int 0, .int 0, .null, .null, .null, .null, .null]))] s.heap.size = A at hD ⊢
  have hA : ∀ q : Nat, s.heap.size ≤ q → A q := fun q h => by rw [← hAe]; exact Or.inr h
  clear hAe hD0
  have hS : va_S A s.heap s.heap [] := va_S.rf
  have hl := lv_entry ([.ref h_this]) (n := 1) (Nat.le_of_ble_eq_true rfl)
  subst hAR
  rw [lg_entry_eq]
  generalize (lg_sl ([.ref h_this]) ++ List.replicate (1 - (lg_sl ([.ref h_this])).length) Slot.unset).toArray = ls at hl ⊢
  have hl : lv_has ls 1 [(0, .ref h_this)] := hl
  change W p l e ({ frames := 1, cells := 5, slots := 15234, locals := 12 } : Room) s m _ below meth c s.heap [] 0 0 _ _
  generalize hARe : ([.ref h_this] : List Value).toArray = AR at hts ⊢
  clear hARe
  generalize hQ : MQ below _ AR s 5 15234 A = QQ
  have oi0 := hts _ (List.mem_cons_of_mem _ tw_31)
  have oi1 := hts _ (List.mem_cons_of_mem _ tw_17)
  have oi2 := hts _ (List.mem_cons_of_mem _ tw_18)
  have ac3 := hts _ (List.mem_cons_of_mem _ tw_57)
  have fl4 := hts _ (List.mem_cons_of_mem _ tw_35)
  have iw5 := (fun w hw => List.mem_cons_of_mem _ (in_St w hw) : ∀ w ∈ u_ws "BasisWalk$Study" T_St 7, w ∈ w_St_init)
  have fl6 := hts _ (List.mem_cons_of_mem _ tw_37)
  have fl7 := hts _ (List.mem_cons_of_mem _ tw_39)
  have fl8 := hts _ (List.mem_cons_of_mem _ tw_40)
  have fl9 := hts _ (List.mem_cons_of_mem _ tw_41)
  obtain ⟨H, hHe⟩ : ∃ H : Heap, H = s.heap := ⟨_, rfl⟩
  rw [← hHe] at hP ⊢
  replace hS : va_S A s.heap H [] := by rw [hHe]; exact va_S.rf
  clear hHe
  refine lv_aload_n hx hb d_St_init_0 rfl (lv_at hl 0 rfl) ?_
  refine W.objInit hx hb hown oi0 oi1 oi2 rfl (by rw [hml]; exact hl.1) rfl d_St_init_1 (Nat.le_of_ble_eq_true rfl) (Nat.le_of_ble_eq_true rfl) ?_
  refine W.eq (g2 := F0 m 4 ls []) rfl ?_
  refine lv_aload_n hx hb d_St_init_4 rfl (lv_at hl 0 rfl) ?_
  refine lv_sipush (v := 4096) hx hb d_St_init_5 (by decide) ?_
  refine va_newa (atype := .int) (ty := .int) (a0 := (4096, .inl (fun _ => 0))) (N' := 4096) hx hb ac3 rfl hK hP hD hS hA (z_I 4096) (by decide +kernel) (by decide +kernel) (by decide +kernel) (Nat.le_of_ble_eq_true rfl) (Nat.le_of_ble_eq_true rfl) d_St_init_8 (fun q_1 cA H hK9 hP hD hS => ?_)
  obtain rfl : cI = cA := ty_one hK9 (Or.inl rfl) (i := 0) (j := 6) rfl rfl
  clear hK9
  have hP : va_P (dC, dI) cl_all [(h_this, .inr (2, [.int 0, .int 0, .null, .null, .null, .null, .null])), (q_1, .inl (cI, 4096, .inl (fun _ => 0)))] H := hP
  have hD : va_D A [(h_this, .inr (2, [.int 0, .int 0, .null, .null, .null, .null, .null])), (q_1, .inl (cI, 4096, .inl (fun _ => 0)))] := hD
  refine va_putF (D := (dC, dI)) (ci := 2) (v := .ref q_1) (ty := .array .int) (C := "BasisWalk$Study") (T := T_St) (N := 7) hx hb hts iw5 ty_St tyok_St nm_St hown hK hP hD hS 0 rfl rfl 2 (by decide) fl4 (fun _ h9 => h9) rfl hin rfl (by decide +kernel) rfl rfl (Nat.le_of_ble_eq_true rfl) d_St_init_10 (fun H locs hP hD hS => ?_)
  have hP : va_P (dC, dI) cl_all [(h_this, .inr (2, [.int 0, .int 0, .ref q_1, .null, .null, .null, .null])), (q_1, .inl (cI, 4096, .inl (fun _ => 0)))] H := hP
  have hD : va_D A [(h_this, .inr (2, [.int 0, .int 0, .ref q_1, .null, .null, .null, .null])), (q_1, .inl (cI, 4096, .inl (fun _ => 0)))] := hD
  refine lv_aload_n hx hb d_St_init_13 rfl (lv_at hl 0 rfl) ?_
  refine lv_sipush (v := 4096) hx hb d_St_init_14 (by decide) ?_
  refine va_newa (atype := .int) (ty := .int) (a0 := (4096, .inl (fun _ => 0))) (N' := 4096) hx hb ac3 rfl hK hP hD hS hA (z_I 4096) (by decide +kernel) (by decide +kernel) (by decide +kernel) (Nat.le_of_ble_eq_true rfl) (Nat.le_of_ble_eq_true rfl) d_St_init_17 (fun q_2 cA H hK9 hP hD hS => ?_)
  obtain rfl : cI = cA := ty_one hK9 (Or.inl rfl) (i := 0) (j := 6) rfl rfl
  clear hK9
  have hP : va_P (dC, dI) cl_all [(h_this, .inr (2, [.int 0, .int 0, .ref q_1, .null, .null, .null, .null])), (q_1, .inl (cI, 4096, .inl (fun _ => 0))), (q_2, .inl (cI, 4096, .inl (fun _ => 0)))] H := hP
  have hD : va_D A [(h_this, .inr (2, [.int 0, .int 0, .ref q_1, .null, .null, .null, .null])), (q_1, .inl (cI, 4096, .inl (fun _ => 0))), (q_2, .inl (cI, 4096, .inl (fun _ => 0)))] := hD
  refine va_putF (D := (dC, dI)) (ci := 2) (v := .ref q_2) (ty := .array .int) (C := "BasisWalk$Study") (T := T_St) (N := 7) hx hb hts iw5 ty_St tyok_St nm_St hown hK hP hD hS 0 rfl rfl 3 (by decide) fl6 (fun _ h9 => h9) rfl hin rfl (by decide +kernel) rfl rfl (Nat.le_of_ble_eq_true rfl) d_St_init_19 (fun H locs hP hD hS => ?_)
  have hP : va_P (dC, dI) cl_all [(h_this, .inr (2, [.int 0, .int 0, .ref q_1, .ref q_2, .null, .null, .null])), (q_1, .inl (cI, 4096, .inl (fun _ => 0))), (q_2, .inl (cI, 4096, .inl (fun _ => 0)))] H := hP
  have hD : va_D A [(h_this, .inr (2, [.int 0, .int 0, .ref q_1, .ref q_2, .null, .null, .null])), (q_1, .inl (cI, 4096, .inl (fun _ => 0))), (q_2, .inl (cI, 4096, .inl (fun _ => 0)))] := hD
  refine lv_aload_n hx hb d_St_init_22 rfl (lv_at hl 0 rfl) ?_
  refine lv_sipush (v := 6868) hx hb d_St_init_23 (by decide) ?_
  refine va_newa (atype := .int) (ty := .int) (a0 := (6868, .inl (fun _ => 0))) (N' := 6868) hx hb ac3 rfl hK hP hD hS hA (z_I 6868) (by decide +kernel) (by decide +kernel) (by decide +kernel) (Nat.le_of_ble_eq_true rfl) (Nat.le_of_ble_eq_true rfl) d_St_init_26 (fun q_3 cA H hK9 hP hD hS => ?_)
  obtain rfl : cI = cA := ty_one hK9 (Or.inl rfl) (i := 0) (j := 6) rfl rfl
  clear hK9
  have hP : va_P (dC, dI) cl_all [(h_this, .inr (2, [.int 0, .int 0, .ref q_1, .ref q_2, .null, .null, .null])), (q_1, .inl (cI, 4096, .inl (fun _ => 0))), (q_2, .inl (cI, 4096, .inl (fun _ => 0))), (q_3, .inl (cI, 6868, .inl (fun _ => 0)))] H := hP
  have hD : va_D A [(h_this, .inr (2, [.int 0, .int 0, .ref q_1, .ref q_2, .null, .null, .null])), (q_1, .inl (cI, 4096, .inl (fun _ => 0))), (q_2, .inl (cI, 4096, .inl (fun _ => 0))), (q_3, .inl (cI, 6868, .inl (fun _ => 0)))] := hD
  refine va_putF (D := (dC, dI)) (ci := 2) (v := .ref q_3) (ty := .array .int) (C := "BasisWalk$Study") (T := T_St) (N := 7) hx hb hts iw5 ty_St tyok_St nm_St hown hK hP hD hS 0 rfl rfl 4 (by decide) fl7 (fun _ h9 => h9) rfl hin rfl (by decide +kernel) rfl rfl (Nat.le_of_ble_eq_true rfl) d_St_init_28 (fun H locs hP hD hS => ?_)
  have hP : va_P (dC, dI) cl_all [(h_this, .inr (2, [.int 0, .int 0, .ref q_1, .ref q_2, .ref q_3, .null, .null])), (q_1, .inl (cI, 4096, .inl (fun _ => 0))), (q_2, .inl (cI, 4096, .inl (fun _ => 0))), (q_3, .inl (cI, 6868, .inl (fun _ => 0)))] H := hP
  have hD : va_D A [(h_this, .inr (2, [.int 0, .int 0, .ref q_1, .ref q_2, .ref q_3, .null, .null])), (q_1, .inl (cI, 4096, .inl (fun _ => 0))), (q_2, .inl (cI, 4096, .inl (fun _ => 0))), (q_3, .inl (cI, 6868, .inl (fun _ => 0)))] := hD
  refine lv_aload_n hx hb d_St_init_31 rfl (lv_at hl 0 rfl) ?_
  refine lv_iconst (v := 5) hx hb d_St_init_32 (by decide) ?_
  refine va_newa (atype := .int) (ty := .int) (a0 := (5, .inl (fun _ => 0))) (N' := 5) hx hb ac3 rfl hK hP hD hS hA (z_I 5) (by decide +kernel) (by decide +kernel) (by decide +kernel) (Nat.le_of_ble_eq_true rfl) (Nat.le_of_ble_eq_true rfl) d_St_init_33 (fun q_4 cA H hK9 hP hD hS => ?_)
  obtain rfl : cI = cA := ty_one hK9 (Or.inl rfl) (i := 0) (j := 6) rfl rfl
  clear hK9
  have hP : va_P (dC, dI) cl_all [(h_this, .inr (2, [.int 0, .int 0, .ref q_1, .ref q_2, .ref q_3, .null, .null])), (q_1, .inl (cI, 4096, .inl (fun _ => 0))), (q_2, .inl (cI, 4096, .inl (fun _ => 0))), (q_3, .inl (cI, 6868, .inl (fun _ => 0))), (q_4, .inl (cI, 5, .inl (fun _ => 0)))] H := hP
  have hD : va_D A [(h_this, .inr (2, [.int 0, .int 0, .ref q_1, .ref q_2, .ref q_3, .null, .null])), (q_1, .inl (cI, 4096, .inl (fun _ => 0))), (q_2, .inl (cI, 4096, .inl (fun _ => 0))), (q_3, .inl (cI, 6868, .inl (fun _ => 0))), (q_4, .inl (cI, 5, .inl (fun _ => 0)))] := hD
  refine va_putF (D := (dC, dI)) (ci := 2) (v := .ref q_4) (ty := .array .int) (C := "BasisWalk$Study") (T := T_St) (N := 7) hx hb hts iw5 ty_St tyok_St nm_St hown hK hP hD hS 0 rfl rfl 5 (by decide) fl8 (fun _ h9 => h9) rfl hin rfl (by decide +kernel) rfl rfl (Nat.le_of_ble_eq_true rfl) d_St_init_35 (fun H locs hP hD hS => ?_)
  have hP : va_P (dC, dI) cl_all [(h_this, .inr (2, [.int 0, .int 0, .ref q_1, .ref q_2, .ref q_3, .ref q_4, .null])), (q_1, .inl (cI, 4096, .inl (fun _ => 0))), (q_2, .inl (cI, 4096, .inl (fun _ => 0))), (q_3, .inl (cI, 6868, .inl (fun _ => 0))), (q_4, .inl (cI, 5, .inl (fun _ => 0)))] H := hP
  have hD : va_D A [(h_this, .inr (2, [.int 0, .int 0, .ref q_1, .ref q_2, .ref q_3, .ref q_4, .null])), (q_1, .inl (cI, 4096, .inl (fun _ => 0))), (q_2, .inl (cI, 4096, .inl (fun _ => 0))), (q_3, .inl (cI, 6868, .inl (fun _ => 0))), (q_4, .inl (cI, 5, .inl (fun _ => 0)))] := hD
  refine lv_aload_n hx hb d_St_init_38 rfl (lv_at hl 0 rfl) ?_
  refine lv_sipush (v := 169) hx hb d_St_init_39 (by decide) ?_
  refine va_newa (atype := .int) (ty := .int) (a0 := (169, .inl (fun _ => 0))) (N' := 169) hx hb ac3 rfl hK hP hD hS hA (z_I 169) (by decide +kernel) (by decide +kernel) (by decide +kernel) (Nat.le_of_ble_eq_true rfl) (Nat.le_of_ble_eq_true rfl) d_St_init_42 (fun q_5 cA H hK9 hP hD hS => ?_)
  obtain rfl : cI = cA := ty_one hK9 (Or.inl rfl) (i := 0) (j := 6) rfl rfl
  clear hK9
  have hP : va_P (dC, dI) cl_all [(h_this, .inr (2, [.int 0, .int 0, .ref q_1, .ref q_2, .ref q_3, .ref q_4, .null])), (q_1, .inl (cI, 4096, .inl (fun _ => 0))), (q_2, .inl (cI, 4096, .inl (fun _ => 0))), (q_3, .inl (cI, 6868, .inl (fun _ => 0))), (q_4, .inl (cI, 5, .inl (fun _ => 0))), (q_5, .inl (cI, 169, .inl (fun _ => 0)))] H := hP
  have hD : va_D A [(h_this, .inr (2, [.int 0, .int 0, .ref q_1, .ref q_2, .ref q_3, .ref q_4, .null])), (q_1, .inl (cI, 4096, .inl (fun _ => 0))), (q_2, .inl (cI, 4096, .inl (fun _ => 0))), (q_3, .inl (cI, 6868, .inl (fun _ => 0))), (q_4, .inl (cI, 5, .inl (fun _ => 0))), (q_5, .inl (cI, 169, .inl (fun _ => 0)))] := hD
  refine va_putF (D := (dC, dI)) (ci := 2) (v := .ref q_5) (ty := .array .int) (C := "BasisWalk$Study") (T := T_St) (N := 7) hx hb hts iw5 ty_St tyok_St nm_St hown hK hP hD hS 0 rfl rfl 6 (by decide) fl9 (fun _ h9 => h9) rfl hin rfl (by decide +kernel) rfl rfl (Nat.le_of_ble_eq_true rfl) d_St_init_44 (fun H locs hP hD hS => ?_)
  have hP : va_P (dC, dI) cl_all [(h_this, .inr (2, [.int 0, .int 0, .ref q_1, .ref q_2, .ref q_3, .ref q_4, .ref q_5])), (q_1, .inl (cI, 4096, .inl (fun _ => 0))), (q_2, .inl (cI, 4096, .inl (fun _ => 0))), (q_3, .inl (cI, 6868, .inl (fun _ => 0))), (q_4, .inl (cI, 5, .inl (fun _ => 0))), (q_5, .inl (cI, 169, .inl (fun _ => 0)))] H := hP
  have hD : va_D A [(h_this, .inr (2, [.int 0, .int 0, .ref q_1, .ref q_2, .ref q_3, .ref q_4, .ref q_5])), (q_1, .inl (cI, 4096, .inl (fun _ => 0))), (q_2, .inl (cI, 4096, .inl (fun _ => 0))), (q_3, .inl (cI, 6868, .inl (fun _ => 0))), (q_4, .inl (cI, 5, .inl (fun _ => 0))), (q_5, .inl (cI, 169, .inl (fun _ => 0)))] := hD
  subst hQ
  refine W.widen (k := 5) (n := 15234) (Nat.le_of_ble_eq_true rfl) (Nat.le_of_ble_eq_true rfl) ?_
  exact W.vret hx hb hr (fun t ht hW => ⟨⟨(), rfl, trivial, q_1, q_2, q_3, q_4, q_5, by rw [ht]; exact hP, va_K.moved hW.alike hK, hD⟩, hS.F ht⟩) hS.2.2 d_St_init_47
theorem d_Or_init_0 : decode prog_3_method_1_code 0 = .ok (.aload_n 0, 1) := by decide +kernel
theorem d_Or_init_1 : decode prog_3_method_1_code 1 = .ok (.invokespecial 3, 3) := by decide +kernel
theorem d_Or_init_4 : decode prog_3_method_1_code 4 = .ok (.aload_n 0, 1) := by decide +kernel
theorem d_Or_init_5 : decode prog_3_method_1_code 5 = .ok (.sipush 4096, 3) := by decide +kernel
theorem d_Or_init_8 : decode prog_3_method_1_code 8 = .ok (.newarray .int, 2) := by decide +kernel
theorem d_Or_init_10 : decode prog_3_method_1_code 10 = .ok (.putfield 9, 3) := by decide +kernel
theorem d_Or_init_13 : decode prog_3_method_1_code 13 = .ok (.aload_n 0, 1) := by decide +kernel
theorem d_Or_init_14 : decode prog_3_method_1_code 14 = .ok (.bipush 14, 2) := by decide +kernel
theorem d_Or_init_16 : decode prog_3_method_1_code 16 = .ok (.newarray .int, 2) := by decide +kernel
theorem d_Or_init_18 : decode prog_3_method_1_code 18 = .ok (.putfield 15, 3) := by decide +kernel
theorem d_Or_init_21 : decode prog_3_method_1_code 21 = .ok (.aload_n 0, 1) := by decide +kernel
theorem d_Or_init_22 : decode prog_3_method_1_code 22 = .ok (.getfield 15, 3) := by decide +kernel
theorem d_Or_init_25 : decode prog_3_method_1_code 25 = .ok (.iconst 1, 1) := by decide +kernel
theorem d_Or_init_26 : decode prog_3_method_1_code 26 = .ok (.iconst 1, 1) := by decide +kernel
theorem d_Or_init_27 : decode prog_3_method_1_code 27 = .ok (.iastore, 1) := by decide +kernel
theorem d_Or_init_28 : decode prog_3_method_1_code 28 = .ok (.aload_n 0, 1) := by decide +kernel
theorem d_Or_init_29 : decode prog_3_method_1_code 29 = .ok (.bipush 13, 2) := by decide +kernel
theorem d_Or_init_31 : decode prog_3_method_1_code 31 = .ok (.newarray .int, 2) := by decide +kernel
theorem d_Or_init_33 : decode prog_3_method_1_code 33 = .ok (.putfield 18, 3) := by decide +kernel
theorem d_Or_init_36 : decode prog_3_method_1_code 36 = .ok (.return_, 1) := by decide +kernel
set_option maxHeartbeats 4000000 in
set_option maxRecDepth 100000 in
theorem n_Order (l : Launch) (dC : Nat → ClassId) (dI : Nat → Nat → Nat) (cI cJ cB cZ cT cN : ClassId) (sz : Nat) (h_this : Nat) : Met l y_Or_init w_Or_init ({ frames := 1, cells := 3, slots := 4123, locals := 12 } : Room) (va_Pc [.ref h_this] (fun U => U.heap.size = sz ∧ va_P (dC, dI) cl_all [(h_this, .inr (1, [.int 0, .null, .null, .null]))] U.heap ∧ va_K (dC, dI) cl_all [(cI, .int), (cJ, .long), (cB, .byte), (cZ, .boolean), (cT, .object "BasisWalk$Table"), (cN, .object "BasisWalkModel$Num")] U ∧ NW U ∧ va_D (fun _ => True) [(h_this, .inr (1, [.int 0, .null, .null, .null]))])) (va_Qv (fun _ : Unit => True) (fun (_ : Unit) (t : State) => ∃ (q_1 : Nat) (q_2 : Nat) (q_4 : Nat), va_P (dC, dI) cl_all [(h_this, .inr (1, [.int 0, .ref q_1, .ref q_2, .ref q_4])), (q_1, .inl (cI, 4096, .inl (fun _ => 0))), (q_2, .inl (cI, 14, .inl (upd (fun _ => 0) (1 : Int32).toNatClampNeg 1))), (q_4, .inl (cI, 13, .inl (fun _ => 0)))] t.heap ∧ va_K (dC, dI) cl_all [(cI, .int), (cJ, .long), (cB, .byte), (cZ, .boolean), (cT, .object "BasisWalk$Table"), (cN, .object "BasisWalkModel$Num")] t ∧ va_D (va_A [(h_this, .inr (1, [.int 0, .null, .null, .null]))] sz) [(h_this, .inr (1, [.int 0, .ref q_1, .ref q_2, .ref q_4])), (q_1, .inl (cI, 4096, .inl (fun _ => 0))), (q_2, .inl (cI, 14, .inl (upd (fun _ => 0) (1 : Int32).toNatClampNeg 1))), (q_4, .inl (cI, 13, .inl (fun _ => 0)))]) (va_A [(h_this, .inr (1, [.int 0, .null, .null, .null]))] sz)) 3 4123 (va_A [(h_this, .inr (1, [.int 0, .null, .null, .null]))] sz) := by
  refine Met.ofW (cc := prog_3_method_1_code) (maxL := 1) (ret := (Option.none : Option Jvm.ClassFile.FieldType)) (by decide) rfl ?_
  intro p e s m args below meth c s₁ B hml hv
  obtain ⟨hAR, hsz, hP, hK, hN, hD0⟩ := hv
  have hx := B.exec
  have hb := B.bytes
  have hr := B.returns
  have hts := atoms_spec (ws := w_Or_init) B.pre
  have hown : s.vm.findClass "BasisWalk$Order" = some m.cls := findClass_of_methodNamed B.named
  have hlocks := B.notSynchronized
  have hin : meth.name = "<init>" := (name_of_methodNamed B.named B.method).1
  clear B
  subst hsz
  have hD := hD0.self (sz := s.heap.size)
  generalize hAe : va_A [(h_this, .inr (1, [.int 0, .null, .null, .null]))] s.heap.size = A at hD ⊢
  have hA : ∀ q : Nat, s.heap.size ≤ q → A q := fun q h => by rw [← hAe]; exact Or.inr h
  clear hAe hD0
  have hS : va_S A s.heap s.heap [] := va_S.rf
  have hl := lv_entry ([.ref h_this]) (n := 1) (Nat.le_of_ble_eq_true rfl)
  subst hAR
  rw [lg_entry_eq]
  generalize (lg_sl ([.ref h_this]) ++ List.replicate (1 - (lg_sl ([.ref h_this])).length) Slot.unset).toArray = ls at hl ⊢
  have hl : lv_has ls 1 [(0, .ref h_this)] := hl
  change W p l e ({ frames := 1, cells := 3, slots := 4123, locals := 12 } : Room) s m _ below meth c s.heap [] 0 0 _ _
  generalize hARe : ([.ref h_this] : List Value).toArray = AR at hts ⊢
  clear hARe
  generalize hQ : MQ below _ AR s 3 4123 A = QQ
  have oi0 := hts _ (List.mem_cons_of_mem _ tw_91)
  have oi1 := hts _ (List.mem_cons_of_mem _ tw_17)
  have oi2 := hts _ (List.mem_cons_of_mem _ tw_18)
  have ac3 := hts _ (List.mem_cons_of_mem _ tw_57)
  have fl4 := hts _ (List.mem_cons_of_mem _ tw_93)
  have iw5 := (fun w hw => List.mem_cons_of_mem _ (in_Or w hw) : ∀ w ∈ u_ws "BasisWalk$Order" T_Or 4, w ∈ w_Or_init)
  have fl6 := hts _ (List.mem_cons_of_mem _ tw_96)
  have fl7 := hts _ (List.mem_cons_of_mem _ tw_99)
  obtain ⟨H, hHe⟩ : ∃ H : Heap, H = s.heap := ⟨_, rfl⟩
  rw [← hHe] at hP ⊢
  replace hS : va_S A s.heap H [] := by rw [hHe]; exact va_S.rf
  clear hHe
  refine lv_aload_n hx hb d_Or_init_0 rfl (lv_at hl 0 rfl) ?_
  refine W.objInit hx hb hown oi0 oi1 oi2 rfl (by rw [hml]; exact hl.1) rfl d_Or_init_1 (Nat.le_of_ble_eq_true rfl) (Nat.le_of_ble_eq_true rfl) ?_
  refine W.eq (g2 := F0 m 4 ls []) rfl ?_
  refine lv_aload_n hx hb d_Or_init_4 rfl (lv_at hl 0 rfl) ?_
  refine lv_sipush (v := 4096) hx hb d_Or_init_5 (by decide) ?_
  refine va_newa (atype := .int) (ty := .int) (a0 := (4096, .inl (fun _ => 0))) (N' := 4096) hx hb ac3 rfl hK hP hD hS hA (z_I 4096) (by decide +kernel) (by decide +kernel) (by decide +kernel) (Nat.le_of_ble_eq_true rfl) (Nat.le_of_ble_eq_true rfl) d_Or_init_8 (fun q_1 cA H hK9 hP hD hS => ?_)
  obtain rfl : cI = cA := ty_one hK9 (Or.inl rfl) (i := 0) (j := 6) rfl rfl
  clear hK9
  have hP : va_P (dC, dI) cl_all [(h_this, .inr (1, [.int 0, .null, .null, .null])), (q_1, .inl (cI, 4096, .inl (fun _ => 0)))] H := hP
  have hD : va_D A [(h_this, .inr (1, [.int 0, .null, .null, .null])), (q_1, .inl (cI, 4096, .inl (fun _ => 0)))] := hD
  refine va_putF (D := (dC, dI)) (ci := 1) (v := .ref q_1) (ty := .array .int) (C := "BasisWalk$Order") (T := T_Or) (N := 4) hx hb hts iw5 ty_Or tyok_Or nm_Or hown hK hP hD hS 0 rfl rfl 1 (by decide) fl4 (fun _ h9 => h9) rfl hin rfl (by decide +kernel) rfl rfl (Nat.le_of_ble_eq_true rfl) d_Or_init_10 (fun H locs hP hD hS => ?_)
  have hP : va_P (dC, dI) cl_all [(h_this, .inr (1, [.int 0, .ref q_1, .null, .null])), (q_1, .inl (cI, 4096, .inl (fun _ => 0)))] H := hP
  have hD : va_D A [(h_this, .inr (1, [.int 0, .ref q_1, .null, .null])), (q_1, .inl (cI, 4096, .inl (fun _ => 0)))] := hD
  refine lv_aload_n hx hb d_Or_init_13 rfl (lv_at hl 0 rfl) ?_
  refine lv_bipush (v := 14) hx hb d_Or_init_14 (by decide) ?_
  refine va_newa (atype := .int) (ty := .int) (a0 := (14, .inl (fun _ => 0))) (N' := 14) hx hb ac3 rfl hK hP hD hS hA (z_I 14) (by decide +kernel) (by decide +kernel) (by decide +kernel) (Nat.le_of_ble_eq_true rfl) (Nat.le_of_ble_eq_true rfl) d_Or_init_16 (fun q_2 cA H hK9 hP hD hS => ?_)
  obtain rfl : cI = cA := ty_one hK9 (Or.inl rfl) (i := 0) (j := 6) rfl rfl
  clear hK9
  have hP : va_P (dC, dI) cl_all [(h_this, .inr (1, [.int 0, .ref q_1, .null, .null])), (q_1, .inl (cI, 4096, .inl (fun _ => 0))), (q_2, .inl (cI, 14, .inl (fun _ => 0)))] H := hP
  have hD : va_D A [(h_this, .inr (1, [.int 0, .ref q_1, .null, .null])), (q_1, .inl (cI, 4096, .inl (fun _ => 0))), (q_2, .inl (cI, 14, .inl (fun _ => 0)))] := hD
  refine va_putF (D := (dC, dI)) (ci := 1) (v := .ref q_2) (ty := .array .int) (C := "BasisWalk$Order") (T := T_Or) (N := 4) hx hb hts iw5 ty_Or tyok_Or nm_Or hown hK hP hD hS 0 rfl rfl 2 (by decide) fl6 (fun _ h9 => h9) rfl hin rfl (by decide +kernel) rfl rfl (Nat.le_of_ble_eq_true rfl) d_Or_init_18 (fun H locs hP hD hS => ?_)
  have hP : va_P (dC, dI) cl_all [(h_this, .inr (1, [.int 0, .ref q_1, .ref q_2, .null])), (q_1, .inl (cI, 4096, .inl (fun _ => 0))), (q_2, .inl (cI, 14, .inl (fun _ => 0)))] H := hP
  have hD : va_D A [(h_this, .inr (1, [.int 0, .ref q_1, .ref q_2, .null])), (q_1, .inl (cI, 4096, .inl (fun _ => 0))), (q_2, .inl (cI, 14, .inl (fun _ => 0)))] := hD
  refine lv_aload_n hx hb d_Or_init_21 rfl (lv_at hl 0 rfl) ?_
  refine va_get (D := (dC, dI)) (ci := 1) (v := .ref q_2) (C := "BasisWalk$Order") (T := T_Or) (N := 4) hx hb hts iw5 hown hK hP 0 rfl rfl 2 (by decide) fl6 (fun _ h9 => h9) rfl d_Or_init_22 ?_
  refine lv_iconst (v := 1) hx hb d_Or_init_25 (by decide) ?_
  refine lv_iconst (v := 1) hx hb d_Or_init_26 (by decide) ?_
  skip
  refine va_iast hx hb hK hP hD hS 2 0 rfl rfl (by unfold vp_in; decide +kernel) d_Or_init_27 (fun H locs hP hD hS => ?_)
  have hP : va_P (dC, dI) cl_all [(h_this, .inr (1, [.int 0, .ref q_1, .ref q_2, .null])), (q_1, .inl (cI, 4096, .inl (fun _ => 0))), (q_2, .inl (cI, 14, .inl (upd (fun _ => 0) (1 : Int32).toNatClampNeg 1)))] H := hP
  have hD : va_D A [(h_this, .inr (1, [.int 0, .ref q_1, .ref q_2, .null])), (q_1, .inl (cI, 4096, .inl (fun _ => 0))), (q_2, .inl (cI, 14, .inl (upd (fun _ => 0) (1 : Int32).toNatClampNeg 1)))] := hD
  refine lv_aload_n hx hb d_Or_init_28 rfl (lv_at hl 0 rfl) ?_
  refine lv_bipush (v := 13) hx hb d_Or_init_29 (by decide) ?_
  refine va_newa (atype := .int) (ty := .int) (a0 := (13, .inl (fun _ => 0))) (N' := 13) hx hb ac3 rfl hK hP hD hS hA (z_I 13) (by decide +kernel) (by decide +kernel) (by decide +kernel) (Nat.le_of_ble_eq_true rfl) (Nat.le_of_ble_eq_true rfl) d_Or_init_31 (fun q_4 cA H hK9 hP hD hS => ?_)
  obtain rfl : cI = cA := ty_one hK9 (Or.inl rfl) (i := 0) (j := 6) rfl rfl
  clear hK9
  have hP : va_P (dC, dI) cl_all [(h_this, .inr (1, [.int 0, .ref q_1, .ref q_2, .null])), (q_1, .inl (cI, 4096, .inl (fun _ => 0))), (q_2, .inl (cI, 14, .inl (upd (fun _ => 0) (1 : Int32).toNatClampNeg 1))), (q_4, .inl (cI, 13, .inl (fun _ => 0)))] H := hP
  have hD : va_D A [(h_this, .inr (1, [.int 0, .ref q_1, .ref q_2, .null])), (q_1, .inl (cI, 4096, .inl (fun _ => 0))), (q_2, .inl (cI, 14, .inl (upd (fun _ => 0) (1 : Int32).toNatClampNeg 1))), (q_4, .inl (cI, 13, .inl (fun _ => 0)))] := hD
  refine va_putF (D := (dC, dI)) (ci := 1) (v := .ref q_4) (ty := .array .int) (C := "BasisWalk$Order") (T := T_Or) (N := 4) hx hb hts iw5 ty_Or tyok_Or nm_Or hown hK hP hD hS 0 rfl rfl 3 (by decide) fl7 (fun _ h9 => h9) rfl hin rfl (by decide +kernel) rfl rfl (Nat.le_of_ble_eq_true rfl) d_Or_init_33 (fun H locs hP hD hS => ?_)
  have hP : va_P (dC, dI) cl_all [(h_this, .inr (1, [.int 0, .ref q_1, .ref q_2, .ref q_4])), (q_1, .inl (cI, 4096, .inl (fun _ => 0))), (q_2, .inl (cI, 14, .inl (upd (fun _ => 0) (1 : Int32).toNatClampNeg 1))), (q_4, .inl (cI, 13, .inl (fun _ => 0)))] H := hP
  have hD : va_D A [(h_this, .inr (1, [.int 0, .ref q_1, .ref q_2, .ref q_4])), (q_1, .inl (cI, 4096, .inl (fun _ => 0))), (q_2, .inl (cI, 14, .inl (upd (fun _ => 0) (1 : Int32).toNatClampNeg 1))), (q_4, .inl (cI, 13, .inl (fun _ => 0)))] := hD
  subst hQ
  refine W.widen (k := 3) (n := 4123) (Nat.le_of_ble_eq_true rfl) (Nat.le_of_ble_eq_true rfl) ?_
  exact W.vret hx hb hr (fun t ht hW => ⟨⟨(), rfl, trivial, q_1, q_2, q_4, by rw [ht]; exact hP, va_K.moved hW.alike hK, hD⟩, hS.F ht⟩) hS.2.2 d_Or_init_36
theorem d_Mi_init_0 : decode prog_2_method_1_code 0 = .ok (.aload_n 0, 1) := by decide +kernel
theorem d_Mi_init_1 : decode prog_2_method_1_code 1 = .ok (.invokespecial 5, 3) := by decide +kernel
theorem d_Mi_init_4 : decode prog_2_method_1_code 4 = .ok (.aload_n 0, 1) := by decide +kernel
theorem d_Mi_init_5 : decode prog_2_method_1_code 5 = .ok (.sipush 4096, 3) := by decide +kernel
theorem d_Mi_init_8 : decode prog_2_method_1_code 8 = .ok (.newarray .long, 2) := by decide +kernel
theorem d_Mi_init_10 : decode prog_2_method_1_code 10 = .ok (.putfield 11, 3) := by decide +kernel
theorem d_Mi_init_13 : decode prog_2_method_1_code 13 = .ok (.aload_n 0, 1) := by decide +kernel
theorem d_Mi_init_14 : decode prog_2_method_1_code 14 = .ok (.sipush 4096, 3) := by decide +kernel
theorem d_Mi_init_17 : decode prog_2_method_1_code 17 = .ok (.newarray .long, 2) := by decide +kernel
theorem d_Mi_init_19 : decode prog_2_method_1_code 19 = .ok (.putfield 15, 3) := by decide +kernel
theorem d_Mi_init_22 : decode prog_2_method_1_code 22 = .ok (.aload_n 0, 1) := by decide +kernel
theorem d_Mi_init_23 : decode prog_2_method_1_code 23 = .ok (.sipush 4096, 3) := by decide +kernel
theorem d_Mi_init_26 : decode prog_2_method_1_code 26 = .ok (.newarray .long, 2) := by decide +kernel
theorem d_Mi_init_28 : decode prog_2_method_1_code 28 = .ok (.putfield 18, 3) := by decide +kernel
theorem d_Mi_init_31 : decode prog_2_method_1_code 31 = .ok (.return_, 1) := by decide +kernel
set_option maxHeartbeats 4000000 in
set_option maxRecDepth 100000 in
theorem n_Minors (l : Launch) (dC : Nat → ClassId) (dI : Nat → Nat → Nat) (cI cJ cB cZ cT cN : ClassId) (sz : Nat) (h_this : Nat) : Met l y_Mi_init w_Mi_init ({ frames := 1, cells := 3, slots := 12288, locals := 12 } : Room) (va_Pc [.ref h_this] (fun U => U.heap.size = sz ∧ va_P (dC, dI) cl_all [(h_this, .inr (0, [.null, .null, .null]))] U.heap ∧ va_K (dC, dI) cl_all [(cI, .int), (cJ, .long), (cB, .byte), (cZ, .boolean), (cT, .object "BasisWalk$Table"), (cN, .object "BasisWalkModel$Num")] U ∧ NW U ∧ va_D (fun _ => True) [(h_this, .inr (0, [.null, .null, .null]))])) (va_Qv (fun _ : Unit => True) (fun (_ : Unit) (t : State) => ∃ (q_1 : Nat) (q_2 : Nat) (q_3 : Nat), va_P (dC, dI) cl_all [(h_this, .inr (0, [.ref q_1, .ref q_2, .ref q_3])), (q_1, .inl (cJ, 4096, .inr (.inl (fun _ => 0)))), (q_2, .inl (cJ, 4096, .inr (.inl (fun _ => 0)))), (q_3, .inl (cJ, 4096, .inr (.inl (fun _ => 0))))] t.heap ∧ va_K (dC, dI) cl_all [(cI, .int), (cJ, .long), (cB, .byte), (cZ, .boolean), (cT, .object "BasisWalk$Table"), (cN, .object "BasisWalkModel$Num")] t ∧ va_D (va_A [(h_this, .inr (0, [.null, .null, .null]))] sz) [(h_this, .inr (0, [.ref q_1, .ref q_2, .ref q_3])), (q_1, .inl (cJ, 4096, .inr (.inl (fun _ => 0)))), (q_2, .inl (cJ, 4096, .inr (.inl (fun _ => 0)))), (q_3, .inl (cJ, 4096, .inr (.inl (fun _ => 0))))]) (va_A [(h_this, .inr (0, [.null, .null, .null]))] sz)) 3 12288 (va_A [(h_this, .inr (0, [.null, .null, .null]))] sz) := by
  refine Met.ofW (cc := prog_2_method_1_code) (maxL := 1) (ret := (Option.none : Option Jvm.ClassFile.FieldType)) (by decide) rfl ?_
  intro p e s m args below meth c s₁ B hml hv
  obtain ⟨hAR, hsz, hP, hK, hN, hD0⟩ := hv
  have hx := B.exec
  have hb := B.bytes
  have hr := B.returns
  have hts := atoms_spec (ws := w_Mi_init) B.pre
  have hown : s.vm.findClass "BasisWalk$Minors" = some m.cls := findClass_of_methodNamed B.named
  have hlocks := B.notSynchronized
  have hin : meth.name = "<init>" := (name_of_methodNamed B.named B.method).1
  clear B
  subst hsz
  have hD := hD0.self (sz := s.heap.size)
  generalize hAe : va_A [(h_this, .inr (0, [.null, .null, .null]))] s.heap.size = A at hD ⊢
  have hA : ∀ q : Nat, s.heap.size ≤ q → A q := fun q h => by rw [← hAe]; exact Or.inr h
  clear hAe hD0
  have hS : va_S A s.heap s.heap [] := va_S.rf
  have hl := lv_entry ([.ref h_this]) (n := 1) (Nat.le_of_ble_eq_true rfl)
  subst hAR
  rw [lg_entry_eq]
  generalize (lg_sl ([.ref h_this]) ++ List.replicate (1 - (lg_sl ([.ref h_this])).length) Slot.unset).toArray = ls at hl ⊢
  have hl : lv_has ls 1 [(0, .ref h_this)] := hl
  change W p l e ({ frames := 1, cells := 3, slots := 12288, locals := 12 } : Room) s m _ below meth c s.heap [] 0 0 _ _
  generalize hARe : ([.ref h_this] : List Value).toArray = AR at hts ⊢
  clear hARe
  generalize hQ : MQ below _ AR s 3 12288 A = QQ
  have oi0 := hts _ (List.mem_cons_of_mem _ tw_114)
  have oi1 := hts _ (List.mem_cons_of_mem _ tw_17)
  have oi2 := hts _ (List.mem_cons_of_mem _ tw_18)
  have ac3 := hts _ (List.mem_cons_of_mem _ tw_125)
  have fl4 := hts _ (List.mem_cons_of_mem _ tw_115)
  have iw5 := (fun w hw => List.mem_cons_of_mem _ (in_Mi w hw) : ∀ w ∈ u_ws "BasisWalk$Minors" T_Mi 3, w ∈ w_Mi_init)
  have fl6 := hts _ (List.mem_cons_of_mem _ tw_116)
  have fl7 := hts _ (List.mem_cons_of_mem _ tw_117)
  obtain ⟨H, hHe⟩ : ∃ H : Heap, H = s.heap := ⟨_, rfl⟩
  rw [← hHe] at hP ⊢
  replace hS : va_S A s.heap H [] := by rw [hHe]; exact va_S.rf
  clear hHe
  refine lv_aload_n hx hb d_Mi_init_0 rfl (lv_at hl 0 rfl) ?_
  refine W.objInit hx hb hown oi0 oi1 oi2 rfl (by rw [hml]; exact hl.1) rfl d_Mi_init_1 (Nat.le_of_ble_eq_true rfl) (Nat.le_of_ble_eq_true rfl) ?_
  refine W.eq (g2 := F0 m 4 ls []) rfl ?_
  refine lv_aload_n hx hb d_Mi_init_4 rfl (lv_at hl 0 rfl) ?_
  refine lv_sipush (v := 4096) hx hb d_Mi_init_5 (by decide) ?_
  refine va_newa (atype := .long) (ty := .long) (a0 := (4096, .inr (.inl (fun _ => 0)))) (N' := 4096) hx hb ac3 rfl hK hP hD hS hA (z_J 4096) (by decide +kernel) (by decide +kernel) (by decide +kernel) (Nat.le_of_ble_eq_true rfl) (Nat.le_of_ble_eq_true rfl) d_Mi_init_8 (fun q_1 cA H hK9 hP hD hS => ?_)
  obtain rfl : cJ = cA := ty_one hK9 (Or.inr (Or.inl rfl)) (i := 1) (j := 6) rfl rfl
  clear hK9
  have hP : va_P (dC, dI) cl_all [(h_this, .inr (0, [.null, .null, .null])), (q_1, .inl (cJ, 4096, .inr (.inl (fun _ => 0))))] H := hP
  have hD : va_D A [(h_this, .inr (0, [.null, .null, .null])), (q_1, .inl (cJ, 4096, .inr (.inl (fun _ => 0))))] := hD
  refine va_putF (D := (dC, dI)) (ci := 0) (v := .ref q_1) (ty := .array .long) (C := "BasisWalk$Minors") (T := T_Mi) (N := 3) hx hb hts iw5 ty_Mi tyok_Mi nm_Mi hown hK hP hD hS 0 rfl rfl 0 (by decide) fl4 (fun _ h9 => h9) rfl hin rfl (by decide +kernel) rfl rfl (Nat.le_of_ble_eq_true rfl) d_Mi_init_10 (fun H locs hP hD hS => ?_)
  have hP : va_P (dC, dI) cl_all [(h_this, .inr (0, [.ref q_1, .null, .null])), (q_1, .inl (cJ, 4096, .inr (.inl (fun _ => 0))))] H := hP
  have hD : va_D A [(h_this, .inr (0, [.ref q_1, .null, .null])), (q_1, .inl (cJ, 4096, .inr (.inl (fun _ => 0))))] := hD
  refine lv_aload_n hx hb d_Mi_init_13 rfl (lv_at hl 0 rfl) ?_
  refine lv_sipush (v := 4096) hx hb d_Mi_init_14 (by decide) ?_
  refine va_newa (atype := .long) (ty := .long) (a0 := (4096, .inr (.inl (fun _ => 0)))) (N' := 4096) hx hb ac3 rfl hK hP hD hS hA (z_J 4096) (by decide +kernel) (by decide +kernel) (by decide +kernel) (Nat.le_of_ble_eq_true rfl) (Nat.le_of_ble_eq_true rfl) d_Mi_init_17 (fun q_2 cA H hK9 hP hD hS => ?_)
  obtain rfl : cJ = cA := ty_one hK9 (Or.inr (Or.inl rfl)) (i := 1) (j := 6) rfl rfl
  clear hK9
  have hP : va_P (dC, dI) cl_all [(h_this, .inr (0, [.ref q_1, .null, .null])), (q_1, .inl (cJ, 4096, .inr (.inl (fun _ => 0)))), (q_2, .inl (cJ, 4096, .inr (.inl (fun _ => 0))))] H := hP
  have hD : va_D A [(h_this, .inr (0, [.ref q_1, .null, .null])), (q_1, .inl (cJ, 4096, .inr (.inl (fun _ => 0)))), (q_2, .inl (cJ, 4096, .inr (.inl (fun _ => 0))))] := hD
  refine va_putF (D := (dC, dI)) (ci := 0) (v := .ref q_2) (ty := .array .long) (C := "BasisWalk$Minors") (T := T_Mi) (N := 3) hx hb hts iw5 ty_Mi tyok_Mi nm_Mi hown hK hP hD hS 0 rfl rfl 1 (by decide) fl6 (fun _ h9 => h9) rfl hin rfl (by decide +kernel) rfl rfl (Nat.le_of_ble_eq_true rfl) d_Mi_init_19 (fun H locs hP hD hS => ?_)
  have hP : va_P (dC, dI) cl_all [(h_this, .inr (0, [.ref q_1, .ref q_2, .null])), (q_1, .inl (cJ, 4096, .inr (.inl (fun _ => 0)))), (q_2, .inl (cJ, 4096, .inr (.inl (fun _ => 0))))] H := hP
  have hD : va_D A [(h_this, .inr (0, [.ref q_1, .ref q_2, .null])), (q_1, .inl (cJ, 4096, .inr (.inl (fun _ => 0)))), (q_2, .inl (cJ, 4096, .inr (.inl (fun _ => 0))))] := hD
  refine lv_aload_n hx hb d_Mi_init_22 rfl (lv_at hl 0 rfl) ?_
  refine lv_sipush (v := 4096) hx hb d_Mi_init_23 (by decide) ?_
  refine va_newa (atype := .long) (ty := .long) (a0 := (4096, .inr (.inl (fun _ => 0)))) (N' := 4096) hx hb ac3 rfl hK hP hD hS hA (z_J 4096) (by decide +kernel) (by decide +kernel) (by decide +kernel) (Nat.le_of_ble_eq_true rfl) (Nat.le_of_ble_eq_true rfl) d_Mi_init_26 (fun q_3 cA H hK9 hP hD hS => ?_)
  obtain rfl : cJ = cA := ty_one hK9 (Or.inr (Or.inl rfl)) (i := 1) (j := 6) rfl rfl
  clear hK9
  have hP : va_P (dC, dI) cl_all [(h_this, .inr (0, [.ref q_1, .ref q_2, .null])), (q_1, .inl (cJ, 4096, .inr (.inl (fun _ => 0)))), (q_2, .inl (cJ, 4096, .inr (.inl (fun _ => 0)))), (q_3, .inl (cJ, 4096, .inr (.inl (fun _ => 0))))] H := hP
  have hD : va_D A [(h_this, .inr (0, [.ref q_1, .ref q_2, .null])), (q_1, .inl (cJ, 4096, .inr (.inl (fun _ => 0)))), (q_2, .inl (cJ, 4096, .inr (.inl (fun _ => 0)))), (q_3, .inl (cJ, 4096, .inr (.inl (fun _ => 0))))] := hD
  refine va_putF (D := (dC, dI)) (ci := 0) (v := .ref q_3) (ty := .array .long) (C := "BasisWalk$Minors") (T := T_Mi) (N := 3) hx hb hts iw5 ty_Mi tyok_Mi nm_Mi hown hK hP hD hS 0 rfl rfl 2 (by decide) fl7 (fun _ h9 => h9) rfl hin rfl (by decide +kernel) rfl rfl (Nat.le_of_ble_eq_true rfl) d_Mi_init_28 (fun H locs hP hD hS => ?_)
  have hP : va_P (dC, dI) cl_all [(h_this, .inr (0, [.ref q_1, .ref q_2, .ref q_3])), (q_1, .inl (cJ, 4096, .inr (.inl (fun _ => 0)))), (q_2, .inl (cJ, 4096, .inr (.inl (fun _ => 0)))), (q_3, .inl (cJ, 4096, .inr (.inl (fun _ => 0))))] H := hP
  have hD : va_D A [(h_this, .inr (0, [.ref q_1, .ref q_2, .ref q_3])), (q_1, .inl (cJ, 4096, .inr (.inl (fun _ => 0)))), (q_2, .inl (cJ, 4096, .inr (.inl (fun _ => 0)))), (q_3, .inl (cJ, 4096, .inr (.inl (fun _ => 0))))] := hD
  subst hQ
  refine W.widen (k := 3) (n := 12288) (Nat.le_of_ble_eq_true rfl) (Nat.le_of_ble_eq_true rfl) ?_
  exact W.vret hx hb hr (fun t ht hW => ⟨⟨(), rfl, trivial, q_1, q_2, q_3, by rw [ht]; exact hP, va_K.moved hW.alike hK, hD⟩, hS.F ht⟩) hS.2.2 d_Mi_init_31
theorem d_Nu_init_0 : decode prog_8_method_1_code 0 = .ok (.aload_n 0, 1) := by decide +kernel
theorem d_Nu_init_1 : decode prog_8_method_1_code 1 = .ok (.invokespecial 1, 3) := by decide +kernel
theorem d_Nu_init_4 : decode prog_8_method_1_code 4 = .ok (.aload_n 0, 1) := by decide +kernel
theorem d_Nu_init_5 : decode prog_8_method_1_code 5 = .ok (.sipush 160, 3) := by decide +kernel
theorem d_Nu_init_8 : decode prog_8_method_1_code 8 = .ok (.newarray .int, 2) := by decide +kernel
theorem d_Nu_init_10 : decode prog_8_method_1_code 10 = .ok (.putfield 7, 3) := by decide +kernel
theorem d_Nu_init_13 : decode prog_8_method_1_code 13 = .ok (.return_, 1) := by decide +kernel
set_option maxHeartbeats 4000000 in
set_option maxRecDepth 100000 in
theorem n_Num (l : Launch) (dC : Nat → ClassId) (dI : Nat → Nat → Nat) (cI cJ cB cZ cT cN : ClassId) (sz : Nat) (h_this : Nat) : Met l y_Nu_init w_Nu_init ({ frames := 1, cells := 1, slots := 160, locals := 12 } : Room) (va_Pc [.ref h_this] (fun U => U.heap.size = sz ∧ va_P (dC, dI) cl_all [(h_this, .inr (5, [.null, .int 0, .int 0]))] U.heap ∧ va_K (dC, dI) cl_all [(cI, .int), (cJ, .long), (cB, .byte), (cZ, .boolean), (cT, .object "BasisWalk$Table"), (cN, .object "BasisWalkModel$Num")] U ∧ NW U ∧ va_D (fun _ => True) [(h_this, .inr (5, [.null, .int 0, .int 0]))])) (va_Qv (fun _ : Unit => True) (fun (_ : Unit) (t : State) => ∃ (q_1 : Nat), va_P (dC, dI) cl_all [(h_this, .inr (5, [.ref q_1, .int 0, .int 0])), (q_1, .inl (cI, 160, .inl (fun _ => 0)))] t.heap ∧ va_K (dC, dI) cl_all [(cI, .int), (cJ, .long), (cB, .byte), (cZ, .boolean), (cT, .object "BasisWalk$Table"), (cN, .object "BasisWalkModel$Num")] t ∧ va_D (va_A [(h_this, .inr (5, [.null, .int 0, .int 0]))] sz) [(h_this, .inr (5, [.ref q_1, .int 0, .int 0])), (q_1, .inl (cI, 160, .inl (fun _ => 0)))]) (va_A [(h_this, .inr (5, [.null, .int 0, .int 0]))] sz)) 1 160 (va_A [(h_this, .inr (5, [.null, .int 0, .int 0]))] sz) := by
  refine Met.ofW (cc := prog_8_method_1_code) (maxL := 1) (ret := (Option.none : Option Jvm.ClassFile.FieldType)) (by decide) rfl ?_
  intro p e s m args below meth c s₁ B hml hv
  obtain ⟨hAR, hsz, hP, hK, hN, hD0⟩ := hv
  have hx := B.exec
  have hb := B.bytes
  have hr := B.returns
  have hts := atoms_spec (ws := w_Nu_init) B.pre
  have hown : s.vm.findClass "BasisWalkModel$Num" = some m.cls := findClass_of_methodNamed B.named
  have hlocks := B.notSynchronized
  have hin : meth.name = "<init>" := (name_of_methodNamed B.named B.method).1
  clear B
  subst hsz
  have hD := hD0.self (sz := s.heap.size)
  generalize hAe : va_A [(h_this, .inr (5, [.null, .int 0, .int 0]))] s.heap.size = A at hD ⊢
  have hA : ∀ q : Nat, s.heap.size ≤ q → A q := fun q h => by rw [← hAe]; exact Or.inr h
  clear hAe hD0
  have hS : va_S A s.heap s.heap [] := va_S.rf
  have hl := lv_entry ([.ref h_this]) (n := 1) (Nat.le_of_ble_eq_true rfl)
  subst hAR
  rw [lg_entry_eq]
  generalize (lg_sl ([.ref h_this]) ++ List.replicate (1 - (lg_sl ([.ref h_this])).length) Slot.unset).toArray = ls at hl ⊢
  have hl : lv_has ls 1 [(0, .ref h_this)] := hl
  change W p l e ({ frames := 1, cells := 1, slots := 160, locals := 12 } : Room) s m _ below meth c s.heap [] 0 0 _ _
  generalize hARe : ([.ref h_this] : List Value).toArray = AR at hts ⊢
  clear hARe
  generalize hQ : MQ below _ AR s 1 160 A = QQ
  have oi0 := hts _ (List.mem_cons_of_mem _ tw_337)
  have oi1 := hts _ (List.mem_cons_of_mem _ tw_17)
  have oi2 := hts _ (List.mem_cons_of_mem _ tw_18)
  have ac3 := hts _ (List.mem_cons_of_mem _ tw_57)
  have fl4 := hts _ (List.mem_cons_of_mem _ tw_338)
  have iw5 := (fun w hw => List.mem_cons_of_mem _ (in_Nu w hw) : ∀ w ∈ u_ws "BasisWalkModel$Num" T_Nu 3, w ∈ w_Nu_init)
  obtain ⟨H, hHe⟩ : ∃ H : Heap, H = s.heap := ⟨_, rfl⟩
  rw [← hHe] at hP ⊢
  replace hS : va_S A s.heap H [] := by rw [hHe]; exact va_S.rf
  clear hHe
  refine lv_aload_n hx hb d_Nu_init_0 rfl (lv_at hl 0 rfl) ?_
  refine W.objInit hx hb hown oi0 oi1 oi2 rfl (by rw [hml]; exact hl.1) rfl d_Nu_init_1 (Nat.le_of_ble_eq_true rfl) (Nat.le_of_ble_eq_true rfl) ?_
  refine W.eq (g2 := F0 m 4 ls []) rfl ?_
  refine lv_aload_n hx hb d_Nu_init_4 rfl (lv_at hl 0 rfl) ?_
  refine lv_sipush (v := 160) hx hb d_Nu_init_5 (by decide) ?_
  refine va_newa (atype := .int) (ty := .int) (a0 := (160, .inl (fun _ => 0))) (N' := 160) hx hb ac3 rfl hK hP hD hS hA (z_I 160) (by decide +kernel) (by decide +kernel) (by decide +kernel) (Nat.le_of_ble_eq_true rfl) (Nat.le_of_ble_eq_true rfl) d_Nu_init_8 (fun q_1 cA H hK9 hP hD hS => ?_)
  obtain rfl : cI = cA := ty_one hK9 (Or.inl rfl) (i := 0) (j := 6) rfl rfl
  clear hK9
  have hP : va_P (dC, dI) cl_all [(h_this, .inr (5, [.null, .int 0, .int 0])), (q_1, .inl (cI, 160, .inl (fun _ => 0)))] H := hP
  have hD : va_D A [(h_this, .inr (5, [.null, .int 0, .int 0])), (q_1, .inl (cI, 160, .inl (fun _ => 0)))] := hD
  refine va_putF (D := (dC, dI)) (ci := 5) (v := .ref q_1) (ty := .array .int) (C := "BasisWalkModel$Num") (T := T_Nu) (N := 3) hx hb hts iw5 ty_Nu tyok_Nu nm_Nu hown hK hP hD hS 0 rfl rfl 0 (by decide) fl4 (fun _ h9 => h9) rfl hin rfl (by decide +kernel) rfl rfl (Nat.le_of_ble_eq_true rfl) d_Nu_init_10 (fun H locs hP hD hS => ?_)
  have hP : va_P (dC, dI) cl_all [(h_this, .inr (5, [.ref q_1, .int 0, .int 0])), (q_1, .inl (cI, 160, .inl (fun _ => 0)))] H := hP
  have hD : va_D A [(h_this, .inr (5, [.ref q_1, .int 0, .int 0])), (q_1, .inl (cI, 160, .inl (fun _ => 0)))] := hD
  subst hQ
  refine W.widen (k := 1) (n := 160) (Nat.le_of_ble_eq_true rfl) (Nat.le_of_ble_eq_true rfl) ?_
  exact W.vret hx hb hr (fun t ht hW => ⟨⟨(), rfl, trivial, q_1, by rw [ht]; exact hP, va_K.moved hW.alike hK, hD⟩, hS.F ht⟩) hS.2.2 d_Nu_init_13
theorem d_Ta_init_0 : decode prog_5_method_1_code 0 = .ok (.aload_n 0, 1) := by decide +kernel
theorem d_Ta_init_1 : decode prog_5_method_1_code 1 = .ok (.invokespecial 3, 3) := by decide +kernel
theorem d_Ta_init_4 : decode prog_5_method_1_code 4 = .ok (.aload_n 0, 1) := by decide +kernel
theorem d_Ta_init_5 : decode prog_5_method_1_code 5 = .ok (.sipush 144, 3) := by decide +kernel
theorem d_Ta_init_8 : decode prog_5_method_1_code 8 = .ok (.newarray .int, 2) := by decide +kernel
theorem d_Ta_init_10 : decode prog_5_method_1_code 10 = .ok (.putfield 9, 3) := by decide +kernel
theorem d_Ta_init_13 : decode prog_5_method_1_code 13 = .ok (.aload_n 0, 1) := by decide +kernel
theorem d_Ta_init_14 : decode prog_5_method_1_code 14 = .ok (.new 15, 3) := by decide +kernel
theorem d_Ta_init_17 : decode prog_5_method_1_code 17 = .ok (.dup, 1) := by decide +kernel
theorem d_Ta_init_18 : decode prog_5_method_1_code 18 = .ok (.invokespecial 17, 3) := by decide +kernel
theorem d_Ta_init_21 : decode prog_5_method_1_code 21 = .ok (.putfield 18, 3) := by decide +kernel
theorem d_Ta_init_24 : decode prog_5_method_1_code 24 = .ok (.return_, 1) := by decide +kernel
set_option maxHeartbeats 4000000 in
set_option maxRecDepth 100000 in
theorem n_Table (l : Launch) (dC : Nat → ClassId) (dI : Nat → Nat → Nat) (cI cJ cB cZ cT cN : ClassId) (sz : Nat) (h_this : Nat) : Met l y_Ta_init w_Ta_init ({ frames := 2, cells := 7, slots := 15385, locals := 40 } : Room) (va_Pc [.ref h_this] (fun U => U.heap.size = sz ∧ va_P (dC, dI) cl_all [(h_this, .inr (3, [.int 0, .int 0, .int 0, .null, .int 0, .null]))] U.heap ∧ va_K (dC, dI) cl_all [(cI, .int), (cJ, .long), (cB, .byte), (cZ, .boolean), (cT, .object "BasisWalk$Table"), (cN, .object "BasisWalkModel$Num")] U ∧ NW U ∧ va_D (fun _ => True) [(h_this, .inr (3, [.int 0, .int 0, .int 0, .null, .int 0, .null]))])) (va_Qv (fun _ : Unit => True) (fun (_ : Unit) (t : State) => ∃ (q_1 : Nat) (q_2 : Nat) (q_3 : Nat) (q_4 : Nat) (q_5 : Nat) (q_6 : Nat) (q_7 : Nat), va_P (dC, dI) cl_all [(h_this, .inr (3, [.int 0, .int 0, .int 0, .ref q_1, .int 0, .ref q_2])), (q_1, .inl (cI, 144, .inl (fun _ => 0))), (q_2, .inr (2, [.int 0, .int 0, .ref q_3, .ref q_4, .ref q_5, .ref q_6, .ref q_7])), (q_3, .inl (cI, 4096, .inl (fun _ => 0))), (q_4, .inl (cI, 4096, .inl (fun _ => 0))), (q_5, .inl (cI, 6868, .inl (fun _ => 0))), (q_6, .inl (cI, 5, .inl (fun _ => 0))), (q_7, .inl (cI, 169, .inl (fun _ => 0)))] t.heap ∧ va_K (dC, dI) cl_all [(cI, .int), (cJ, .long), (cB, .byte), (cZ, .boolean), (cT, .object "BasisWalk$Table"), (cN, .object "BasisWalkModel$Num")] t ∧ va_D (va_A [(h_this, .inr (3, [.int 0, .int 0, .int 0, .null, .int 0, .null]))] sz) [(h_this, .inr (3, [.int 0, .int 0, .int 0, .ref q_1, .int 0, .ref q_2])), (q_1, .inl (cI, 144, .inl (fun _ => 0))), (q_2, .inr (2, [.int 0, .int 0, .ref q_3, .ref q_4, .ref q_5, .ref q_6, .ref q_7])), (q_3, .inl (cI, 4096, .inl (fun _ => 0))), (q_4, .inl (cI, 4096, .inl (fun _ => 0))), (q_5, .inl (cI, 6868, .inl (fun _ => 0))), (q_6, .inl (cI, 5, .inl (fun _ => 0))), (q_7, .inl (cI, 169, .inl (fun _ => 0)))]) (va_A [(h_this, .inr (3, [.int 0, .int 0, .int 0, .null, .int 0, .null]))] sz)) 7 15385 (va_A [(h_this, .inr (3, [.int 0, .int 0, .int 0, .null, .int 0, .null]))] sz) := by
  refine Met.ofW (cc := prog_5_method_1_code) (maxL := 1) (ret := (Option.none : Option Jvm.ClassFile.FieldType)) (by decide) rfl ?_
  intro p e s m args below meth c s₁ B hml hv
  obtain ⟨hAR, hsz, hP, hK, hN, hD0⟩ := hv
  have hx := B.exec
  have hb := B.bytes
  have hr := B.returns
  have hts := atoms_spec (ws := w_Ta_init) B.pre
  have hown : s.vm.findClass "BasisWalk$Table" = some m.cls := findClass_of_methodNamed B.named
  have hlocks := B.notSynchronized
  have hin : meth.name = "<init>" := (name_of_methodNamed B.named B.method).1
  clear B
  subst hsz
  have hD := hD0.self (sz := s.heap.size)
  generalize hAe : va_A [(h_this, .inr (3, [.int 0, .int 0, .int 0, .null, .int 0, .null]))] s.heap.size = A at hD ⊢
  have hA : ∀ q : Nat, s.heap.size ≤ q → A q := fun q h => by rw [← hAe]; exact Or.inr h
  clear hAe hD0
  have hS : va_S A s.heap s.heap [] := va_S.rf
  have hl := lv_entry ([.ref h_this]) (n := 1) (Nat.le_of_ble_eq_true rfl)
  subst hAR
  rw [lg_entry_eq]
  generalize (lg_sl ([.ref h_this]) ++ List.replicate (1 - (lg_sl ([.ref h_this])).length) Slot.unset).toArray = ls at hl ⊢
  have hl : lv_has ls 1 [(0, .ref h_this)] := hl
  change W p l e ({ frames := 2, cells := 7, slots := 15385, locals := 40 } : Room) s m _ below meth c s.heap [] 0 0 _ _
  generalize hARe : ([.ref h_this] : List Value).toArray = AR at hts ⊢
  clear hARe
  generalize hQ : MQ below _ AR s 7 15385 A = QQ
  have oi0 := hts _ (List.mem_cons_of_mem _ tw_25)
  have oi1 := hts _ (List.mem_cons_of_mem _ tw_17)
  have oi2 := hts _ (List.mem_cons_of_mem _ tw_18)
  have ac3 := hts _ (List.mem_cons_of_mem _ tw_57)
  have fl4 := hts _ (List.mem_cons_of_mem _ tw_67)
  have iw5 := (fun w hw => List.mem_cons_of_mem _ (in_Ta w hw) : ∀ w ∈ u_ws "BasisWalk$Table" T_Ta 6, w ∈ w_Ta_init)
  have cl6 := hts _ (List.mem_cons_of_mem _ tw_26)
  have it7 := hts _ (List.mem_cons_of_mem _ tw_27)
  have ini8 := hts _ (List.mem_cons_of_mem _ tw_3)
  have iw9 := (fun w hw => List.mem_cons_of_mem _ (in_St w hw) : ∀ w ∈ u_ws "BasisWalk$Study" T_St 7, w ∈ w_Ta_init)
  have fl10 := hts _ (List.mem_cons_of_mem _ tw_71)
  obtain ⟨H, hHe⟩ : ∃ H : Heap, H = s.heap := ⟨_, rfl⟩
  rw [← hHe] at hP ⊢
  replace hS : va_S A s.heap H [] := by rw [hHe]; exact va_S.rf
  clear hHe
  refine lv_aload_n hx hb d_Ta_init_0 rfl (lv_at hl 0 rfl) ?_
  refine W.objInit hx hb hown oi0 oi1 oi2 rfl (by rw [hml]; exact hl.1) rfl d_Ta_init_1 (Nat.le_of_ble_eq_true rfl) (Nat.le_of_ble_eq_true rfl) ?_
  refine W.eq (g2 := F0 m 4 ls []) rfl ?_
  refine lv_aload_n hx hb d_Ta_init_4 rfl (lv_at hl 0 rfl) ?_
  refine lv_sipush (v := 144) hx hb d_Ta_init_5 (by decide) ?_
  refine va_newa (atype := .int) (ty := .int) (a0 := (144, .inl (fun _ => 0))) (N' := 144) hx hb ac3 rfl hK hP hD hS hA (z_I 144) (by decide +kernel) (by decide +kernel) (by decide +kernel) (Nat.le_of_ble_eq_true rfl) (Nat.le_of_ble_eq_true rfl) d_Ta_init_8 (fun q_1 cA H hK9 hP hD hS => ?_)
  obtain rfl : cI = cA := ty_one hK9 (Or.inl rfl) (i := 0) (j := 6) rfl rfl
  clear hK9
  have hP : va_P (dC, dI) cl_all [(h_this, .inr (3, [.int 0, .int 0, .int 0, .null, .int 0, .null])), (q_1, .inl (cI, 144, .inl (fun _ => 0)))] H := hP
  have hD : va_D A [(h_this, .inr (3, [.int 0, .int 0, .int 0, .null, .int 0, .null])), (q_1, .inl (cI, 144, .inl (fun _ => 0)))] := hD
  refine va_putF (D := (dC, dI)) (ci := 3) (v := .ref q_1) (ty := .array .int) (C := "BasisWalk$Table") (T := T_Ta) (N := 6) hx hb hts iw5 ty_Ta tyok_Ta nm_Ta hown hK hP hD hS 0 rfl rfl 3 (by decide) fl4 (fun _ h9 => h9) rfl hin rfl (by decide +kernel) rfl rfl (Nat.le_of_ble_eq_true rfl) d_Ta_init_10 (fun H locs hP hD hS => ?_)
  have hP : va_P (dC, dI) cl_all [(h_this, .inr (3, [.int 0, .int 0, .int 0, .ref q_1, .int 0, .null])), (q_1, .inl (cI, 144, .inl (fun _ => 0)))] H := hP
  have hD : va_D A [(h_this, .inr (3, [.int 0, .int 0, .int 0, .ref q_1, .int 0, .null])), (q_1, .inl (cI, 144, .inl (fun _ => 0)))] := hD
  refine lv_aload_n hx hb d_Ta_init_13 rfl (lv_at hl 0 rfl) ?_
  refine va_new (ci := 2) (fs := [.int 0, .int 0, .null, .null, .null, .null, .null]) (C := "BasisWalk$Study") (T := T_St) (N := 7) hx hb hts iw9 ty_St tyok_St hown cl6 it7 ini8 hK hP hD hS hA rfl (fun j hj => by match j, hj with | 0, _ => rfl | 1, _ => rfl | 2, _ => rfl | 3, _ => rfl | 4, _ => rfl | 5, _ => rfl | 6, _ => rfl) (Nat.le_of_ble_eq_true rfl) (Nat.le_of_ble_eq_true rfl) d_Ta_init_14 (fun q_2 H hP hD hS => ?_)
  have hP : va_P (dC, dI) cl_all [(h_this, .inr (3, [.int 0, .int 0, .int 0, .ref q_1, .int 0, .null])), (q_1, .inl (cI, 144, .inl (fun _ => 0))), (q_2, .inr (2, [.int 0, .int 0, .null, .null, .null, .null, .null]))] H := hP
  have hD : va_D A [(h_this, .inr (3, [.int 0, .int 0, .int 0, .ref q_1, .int 0, .null])), (q_1, .inl (cI, 144, .inl (fun _ => 0))), (q_2, .inr (2, [.int 0, .int 0, .null, .null, .null, .null, .null]))] := hD
  refine lv_dup hx hb d_Ta_init_17 rfl ?_
  have hPc := hP.sub (ws' := [(q_2, .inr (2, [.int 0, .int 0, .null, .null, .null, .null, .null]))]) [2] rfl
  have hDc := hD.sub (ws' := [(q_2, .inr (2, [.int 0, .int 0, .null, .null, .null, .null, .null]))]) [2] (by decide) rfl
  have hFc := va_free (wc := [(q_2, .inr (2, [.int 0, .int 0, .null, .null, .null, .null, .null]))]) hD hS hA [2] rfl
  refine va_callv (va_runI (As := []) (rest := [.ref q_2, .ref h_this]) ⟨hx, hb, hml, hown, hts⟩ (n_Study l dC dI cI cJ cB cZ cT cN H.size q_2) (cwI 0 hts (tb_G tw_30) rfl rfl rfl (hts _ (List.mem_cons_of_mem _ tw_3)) (hts _ (List.mem_cons_of_mem _ tw_28)) (hts _ (List.mem_cons_of_mem _ tw_29)) rfl (by decide +kernel) ⟨Nat.le_of_ble_eq_true rfl, Nat.le_of_ble_eq_true rfl⟩) ⟨fun a U g mk q => by obtain ⟨q0, q1, qP, qK, qN, qD⟩ := q; exact ⟨q0, q1, qP, va_K.moved (u := U) (U := U.calling g mk a) (Vm.Alike.refl U.vm) qK, qN.same rfl, qD⟩, fun U hU hW => ⟨rfl, by rw [hU], by rw [hU]; exact hPc, va_K.moved hW.alike hK, hN.warm hW, hDc.weaken (fun _ _ _ _ => trivial)⟩⟩ rfl rfl hl.1 rfl (lv_room (Nat.le_of_ble_eq_true rfl)) d_Ta_init_18 ⟨Nat.le_of_ble_eq_true rfl, Nat.le_of_ble_eq_true rfl⟩) hS (fun q _ h => hFc q h) hFc (fun u t H1 locs ht hvm hw hB hz1 hk1 hS => ?_)
  obtain ⟨q_3, q_4, q_5, q_6, q_7, hP1, -, hD1⟩ := hB
  rw [ht] at hP1
  obtain ⟨hP, hD⟩ := va_join (wr := [(h_this, .inr (3, [.int 0, .int 0, .int 0, .ref q_1, .int 0, .null])), (q_1, .inl (cI, 144, .inl (fun _ => 0)))]) (w1 := [(q_2, .inr (2, [.int 0, .int 0, .ref q_3, .ref q_4, .ref q_5, .ref q_6, .ref q_7])), (q_3, .inl (cI, 4096, .inl (fun _ => 0))), (q_4, .inl (cI, 4096, .inl (fun _ => 0))), (q_5, .inl (cI, 6868, .inl (fun _ => 0))), (q_6, .inl (cI, 5, .inl (fun _ => 0))), (q_7, .inl (cI, 169, .inl (fun _ => 0)))]) hP hD [2] [0, 1] rfl rfl (by decide) (by decide) hk1 hFc hP1 hD1
  generalize H1 = H at hP hS ⊢
  have hP : va_P (dC, dI) cl_all [(h_this, .inr (3, [.int 0, .int 0, .int 0, .ref q_1, .int 0, .null])), (q_1, .inl (cI, 144, .inl (fun _ => 0))), (q_2, .inr (2, [.int 0, .int 0, .ref q_3, .ref q_4, .ref q_5, .ref q_6, .ref q_7])), (q_3, .inl (cI, 4096, .inl (fun _ => 0))), (q_4, .inl (cI, 4096, .inl (fun _ => 0))), (q_5, .inl (cI, 6868, .inl (fun _ => 0))), (q_6, .inl (cI, 5, .inl (fun _ => 0))), (q_7, .inl (cI, 169, .inl (fun _ => 0)))] H := hP
  have hD : va_D A [(h_this, .inr (3, [.int 0, .int 0, .int 0, .ref q_1, .int 0, .null])), (q_1, .inl (cI, 144, .inl (fun _ => 0))), (q_2, .inr (2, [.int 0, .int 0, .ref q_3, .ref q_4, .ref q_5, .ref q_6, .ref q_7])), (q_3, .inl (cI, 4096, .inl (fun _ => 0))), (q_4, .inl (cI, 4096, .inl (fun _ => 0))), (q_5, .inl (cI, 6868, .inl (fun _ => 0))), (q_6, .inl (cI, 5, .inl (fun _ => 0))), (q_7, .inl (cI, 169, .inl (fun _ => 0)))] := hD
  refine va_putF (D := (dC, dI)) (ci := 3) (v := .ref q_2) (ty := .object "BasisWalk$Study") (C := "BasisWalk$Table") (T := T_Ta) (N := 6) hx hb hts iw5 ty_Ta tyok_Ta nm_Ta hown hK hP hD hS 0 rfl rfl 5 (by decide) fl10 (fun _ h9 => h9) rfl hin rfl (by decide +kernel) rfl rfl (Nat.le_of_ble_eq_true rfl) d_Ta_init_21 (fun H locs hP hD hS => ?_)
  have hP : va_P (dC, dI) cl_all [(h_this, .inr (3, [.int 0, .int 0, .int 0, .ref q_1, .int 0, .ref q_2])), (q_1, .inl (cI, 144, .inl (fun _ => 0))), (q_2, .inr (2, [.int 0, .int 0, .ref q_3, .ref q_4, .ref q_5, .ref q_6, .ref q_7])), (q_3, .inl (cI, 4096, .inl (fun _ => 0))), (q_4, .inl (cI, 4096, .inl (fun _ => 0))), (q_5, .inl (cI, 6868, .inl (fun _ => 0))), (q_6, .inl (cI, 5, .inl (fun _ => 0))), (q_7, .inl (cI, 169, .inl (fun _ => 0)))] H := hP
  have hD : va_D A [(h_this, .inr (3, [.int 0, .int 0, .int 0, .ref q_1, .int 0, .ref q_2])), (q_1, .inl (cI, 144, .inl (fun _ => 0))), (q_2, .inr (2, [.int 0, .int 0, .ref q_3, .ref q_4, .ref q_5, .ref q_6, .ref q_7])), (q_3, .inl (cI, 4096, .inl (fun _ => 0))), (q_4, .inl (cI, 4096, .inl (fun _ => 0))), (q_5, .inl (cI, 6868, .inl (fun _ => 0))), (q_6, .inl (cI, 5, .inl (fun _ => 0))), (q_7, .inl (cI, 169, .inl (fun _ => 0)))] := hD
  subst hQ
  refine W.widen (k := 7) (n := 15385) (Nat.le_of_ble_eq_true rfl) (Nat.le_of_ble_eq_true rfl) ?_
  exact W.vret hx hb hr (fun t ht hW => ⟨⟨(), rfl, trivial, q_1, q_2, q_3, q_4, q_5, q_6, q_7, by rw [ht]; exact hP, va_K.moved hW.alike hK, hD⟩, hS.F ht⟩) hS.2.2 d_Ta_init_24
