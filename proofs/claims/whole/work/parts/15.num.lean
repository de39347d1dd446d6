theorem d_Nu_zero_0 : decode prog_8_method_2_code 0 = .ok (.aload_n 0, 1) := by decide +kernel
theorem d_Nu_zero_1 : decode prog_8_method_2_code 1 = .ok (.iconst 0, 1) := by decide +kernel
theorem d_Nu_zero_2 : decode prog_8_method_2_code 2 = .ok (.putfield 13, 3) := by decide +kernel
theorem d_Nu_zero_5 : decode prog_8_method_2_code 5 = .ok (.aload_n 0, 1) := by decide +kernel
theorem d_Nu_zero_6 : decode prog_8_method_2_code 6 = .ok (.iconst 0, 1) := by decide +kernel
theorem d_Nu_zero_7 : decode prog_8_method_2_code 7 = .ok (.putfield 17, 3) := by decide +kernel
theorem d_Nu_zero_10 : decode prog_8_method_2_code 10 = .ok (.return_, 1) := by decide +kernel
def f_N_zero : Option (Int32 × Int32) :=
  some (0, 0)
set_option maxHeartbeats 4000000 in
set_option maxRecDepth 100000 in
theorem c_N_zero (l : Launch) (dC : Nat → ClassId) (dI : Nat → Nat → Nat) (cI cJ cB cZ cT cN : ClassId) (sz : Nat) (h_x : Nat) (h_x_d : Nat) (x_n : Int32) (x_minus : Int32) (x_d_n : Nat) (x_d : Nat → Int32) (r : Int32 × Int32) (h : f_N_zero = some r) : Met l y_Nu_zero w_Nu_zero ({ frames := 0, cells := 0, slots := 0, locals := 0 } : Room) (va_Pc [.ref h_x] (fun U => U.heap.size = sz ∧ va_P (dC, dI) cl_all [(h_x, .inr (5, [.ref h_x_d, .int x_n, .int x_minus])), (h_x_d, .inl (cI, x_d_n, .inl x_d))] U.heap ∧ va_K (dC, dI) cl_all [(cI, .int), (cJ, .long), (cB, .byte), (cZ, .boolean), (cT, .object "BasisWalk$Table"), (cN, .object "BasisWalkModel$Num")] U ∧ NW U ∧ va_D (fun _ => True) [(h_x, .inr (5, [.ref h_x_d, .int x_n, .int x_minus])), (h_x_d, .inl (cI, x_d_n, .inl x_d))])) (va_Qv (fun u : Int32 × Int32 => u = r) (fun (u : Int32 × Int32) (t : State) => va_P (dC, dI) cl_all [(h_x, .inr (5, [.ref h_x_d, .int u.1, .int u.2])), (h_x_d, .inl (cI, x_d_n, .inl x_d))] t.heap ∧ va_K (dC, dI) cl_all [(cI, .int), (cJ, .long), (cB, .byte), (cZ, .boolean), (cT, .object "BasisWalk$Table"), (cN, .object "BasisWalkModel$Num")] t ∧ va_D (va_A [(h_x, .inr (5, [.ref h_x_d, .int x_n, .int x_minus])), (h_x_d, .inl (cI, x_d_n, .inl x_d))] sz) [(h_x, .inr (5, [.ref h_x_d, .int u.1, .int u.2])), (h_x_d, .inl (cI, x_d_n, .inl x_d))]) (va_A [(h_x, .inr (5, [.ref h_x_d, .int x_n, .int x_minus])), (h_x_d, .inl (cI, x_d_n, .inl x_d))] sz)) 0 0 (va_A [(h_x, .inr (5, [.ref h_x_d, .int x_n, .int x_minus])), (h_x_d, .inl (cI, x_d_n, .inl x_d))] sz) := by
  refine Met.ofW (cc := prog_8_method_2_code) (maxL := 1) (ret := (Option.none : Option Jvm.ClassFile.FieldType)) (by decide) rfl ?_
  intro p e s m args below meth c s₁ B hml hv
  obtain ⟨hAR, hsz, hP, hK, hN, hD0⟩ := hv
  have hx := B.exec
  have hb := B.bytes
  have hr := B.returns
  have hts := atoms_spec (ws := w_Nu_zero) B.pre
  have hown : s.vm.findClass "BasisWalkModel$Num" = some m.cls := findClass_of_methodNamed B.named
  have hlocks := B.notSynchronized
  clear B
  subst hsz
  have hD := hD0.self (sz := s.heap.size)
  generalize hAe : va_A [(h_x, .inr (5, [.ref h_x_d, .int x_n, .int x_minus])), (h_x_d, .inl (cI, x_d_n, .inl x_d))] s.heap.size = A at hD ⊢
  have hA : ∀ q : Nat, s.heap.size ≤ q → A q := fun q h => by rw [← hAe]; exact Or.inr h
  clear hAe hD0
  have hS : va_S A s.heap s.heap [] := va_S.rf
  have hl := lv_entry ([.ref h_x]) (n := 1) (Nat.le_of_ble_eq_true rfl)
  subst hAR
  rw [lg_entry_eq]
  generalize (lg_sl ([.ref h_x]) ++ List.replicate (1 - (lg_sl ([.ref h_x])).length) Slot.unset).toArray = ls at hl ⊢
  have hl : lv_has ls 1 [(0, .ref h_x)] := hl
  change W p l e ({ frames := 0, cells := 0, slots := 0, locals := 0 } : Room) s m _ below meth c s.heap [] 0 0 _ _
  generalize hARe : ([.ref h_x] : List Value).toArray = AR at hts ⊢
  clear hARe
  generalize hQ : MQ below _ AR s 0 0 A = QQ
  have fl0 := hts _ (List.mem_cons_of_mem _ tw_340)
  have iw1 := (fun w hw => List.mem_cons_of_mem _ (in_Nu w hw) : ∀ w ∈ u_ws "BasisWalkModel$Num" T_Nu 3, w ∈ w_Nu_zero)
  have fl2 := hts _ (List.mem_cons_of_mem _ tw_342)
  obtain ⟨H, hHe⟩ : ∃ H : Heap, H = s.heap := ⟨_, rfl⟩
  rw [← hHe] at hP ⊢
  replace hS : va_S A s.heap H [] := by rw [hHe]; exact va_S.rf
  clear hHe
  unfold f_N_zero at h
  refine lv_aload_n hx hb d_Nu_zero_0 rfl (lv_at hl 0 rfl) ?_
  refine lv_iconst (v := 0) hx hb d_Nu_zero_1 (by decide) ?_
  refine va_put (D := (dC, dI)) (ci := 5) (v := .int 0) (ty := .int) (C := "BasisWalkModel$Num") (T := T_Nu) (N := 3) hx hb hts iw1 ty_Nu tyok_Nu nm_Nu hown hK hP hD hS 0 rfl rfl 1 (by decide) fl0 (fun _ h9 => h9) rfl (by decide +kernel) rfl rfl (Nat.le_of_ble_eq_true rfl) d_Nu_zero_2 (fun H locs hP hD hS => ?_)
  have hP : va_P (dC, dI) cl_all [(h_x, .inr (5, [.ref h_x_d, .int 0, .int x_minus])), (h_x_d, .inl (cI, x_d_n, .inl x_d))] H := hP
  have hD : va_D A [(h_x, .inr (5, [.ref h_x_d, .int 0, .int x_minus])), (h_x_d, .inl (cI, x_d_n, .inl x_d))] := hD
  refine lv_aload_n hx hb d_Nu_zero_5 rfl (lv_at hl 0 rfl) ?_
  refine lv_iconst (v := 0) hx hb d_Nu_zero_6 (by decide) ?_
  refine va_put (D := (dC, dI)) (ci := 5) (v := .int 0) (ty := .boolean) (C := "BasisWalkModel$Num") (T := T_Nu) (N := 3) hx hb hts iw1 ty_Nu tyok_Nu nm_Nu hown hK hP hD hS 0 rfl rfl 2 (by decide) fl2 (fun _ h9 => h9) rfl (by decide +kernel) rfl rfl (Nat.le_of_ble_eq_true rfl) d_Nu_zero_7 (fun H locs hP hD hS => ?_)
  have hP : va_P (dC, dI) cl_all [(h_x, .inr (5, [.ref h_x_d, .int 0, .int 0])), (h_x_d, .inl (cI, x_d_n, .inl x_d))] H := hP
  have hD : va_D A [(h_x, .inr (5, [.ref h_x_d, .int 0, .int 0])), (h_x_d, .inl (cI, x_d_n, .inl x_d))] := hD
  obtain rfl := Option.some.inj h
  subst hQ
  exact W.vret hx hb hr (fun t ht hW => ⟨⟨(0, 0), rfl, rfl, by rw [ht]; exact hP, va_K.moved hW.alike hK, hD⟩, hS.F ht⟩) hS.2.2 d_Nu_zero_10
theorem d_Nu_copy_0 : decode prog_8_method_3_code 0 = .ok (.aload_n 0, 1) := by decide +kernel
theorem d_Nu_copy_1 : decode prog_8_method_3_code 1 = .ok (.aload_n 1, 1) := by decide +kernel
theorem d_Nu_copy_2 : decode prog_8_method_3_code 2 = .ok (.getfield 13, 3) := by decide +kernel
theorem d_Nu_copy_5 : decode prog_8_method_3_code 5 = .ok (.putfield 13, 3) := by decide +kernel
theorem d_Nu_copy_8 : decode prog_8_method_3_code 8 = .ok (.aload_n 0, 1) := by decide +kernel
theorem d_Nu_copy_9 : decode prog_8_method_3_code 9 = .ok (.aload_n 1, 1) := by decide +kernel
theorem d_Nu_copy_10 : decode prog_8_method_3_code 10 = .ok (.getfield 17, 3) := by decide +kernel
theorem d_Nu_copy_13 : decode prog_8_method_3_code 13 = .ok (.putfield 17, 3) := by decide +kernel
theorem d_Nu_copy_16 : decode prog_8_method_3_code 16 = .ok (.iconst 0, 1) := by decide +kernel
theorem d_Nu_copy_17 : decode prog_8_method_3_code 17 = .ok (.istore_n 2, 1) := by decide +kernel
theorem d_Nu_copy_18 : decode prog_8_method_3_code 18 = .ok (.iload_n 2, 1) := by decide +kernel
theorem d_Nu_copy_19 : decode prog_8_method_3_code 19 = .ok (.aload_n 0, 1) := by decide +kernel
theorem d_Nu_copy_20 : decode prog_8_method_3_code 20 = .ok (.getfield 13, 3) := by decide +kernel
theorem d_Nu_copy_23 : decode prog_8_method_3_code 23 = .ok (.if_icmp .ge 21, 3) := by decide +kernel
theorem d_Nu_copy_26 : decode prog_8_method_3_code 26 = .ok (.aload_n 0, 1) := by decide +kernel
theorem d_Nu_copy_27 : decode prog_8_method_3_code 27 = .ok (.getfield 7, 3) := by decide +kernel
theorem d_Nu_copy_30 : decode prog_8_method_3_code 30 = .ok (.iload_n 2, 1) := by decide +kernel
theorem d_Nu_copy_31 : decode prog_8_method_3_code 31 = .ok (.aload_n 1, 1) := by decide +kernel
theorem d_Nu_copy_32 : decode prog_8_method_3_code 32 = .ok (.getfield 7, 3) := by decide +kernel
theorem d_Nu_copy_35 : decode prog_8_method_3_code 35 = .ok (.iload_n 2, 1) := by decide +kernel
theorem d_Nu_copy_36 : decode prog_8_method_3_code 36 = .ok (.iaload, 1) := by decide +kernel
theorem d_Nu_copy_37 : decode prog_8_method_3_code 37 = .ok (.iastore, 1) := by decide +kernel
theorem d_Nu_copy_38 : decode prog_8_method_3_code 38 = .ok (.iinc 2 1, 3) := by decide +kernel
theorem d_Nu_copy_41 : decode prog_8_method_3_code 41 = .ok (.goto (-23), 3) := by decide +kernel
theorem d_Nu_copy_44 : decode prog_8_method_3_code 44 = .ok (.return_, 1) := by decide +kernel
def f_N_copy (x_d_n : Nat) (x_d : Nat → Int32) (o_n : Int32) (o_minus : Int32) (o_d_n : Nat) (o_d : Nat → Int32) : Option (Int32 × Int32 × (Nat → Int32)) :=
  ck_z o_minus <| lo2 (fun k_18 (v2_2 : Int32) (w_3 : Nat → Int32) => ck_if (o_n ≤ v2_2) (some (o_n, o_minus, w_3)) (ck_in v2_2 o_d_n <| ck_in v2_2 x_d_n <| ck_nm (v2_2 + 1) <| fun x_7 => k_18 x_7 (upd w_3 v2_2.toNatClampNeg (o_d v2_2.toNatClampNeg)))) ck_F 0 x_d
set_option maxHeartbeats 4000000 in
set_option maxRecDepth 100000 in
theorem c_N_copy (l : Launch) (dC : Nat → ClassId) (dI : Nat → Nat → Nat) (cI cJ cB cZ cT cN : ClassId) (sz : Nat) (h_x : Nat) (h_o : Nat) (h_x_d : Nat) (h_o_d : Nat) (x_n : Int32) (x_minus : Int32) (x_d_n : Nat) (x_d : Nat → Int32) (o_n : Int32) (o_minus : Int32) (o_d_n : Nat) (o_d : Nat → Int32) (r : Int32 × Int32 × (Nat → Int32)) (h : f_N_copy x_d_n x_d o_n o_minus o_d_n o_d = some r) : Met l y_Nu_copy w_Nu_copy ({ frames := 0, cells := 0, slots := 0, locals := 0 } : Room) (va_Pc [.ref h_x, .ref h_o] (fun U => U.heap.size = sz ∧ va_P (dC, dI) cl_all [(h_x, .inr (5, [.ref h_x_d, .int x_n, .int x_minus])), (h_x_d, .inl (cI, x_d_n, .inl x_d)), (h_o, .inr (5, [.ref h_o_d, .int o_n, .int o_minus])), (h_o_d, .inl (cI, o_d_n, .inl o_d))] U.heap ∧ va_K (dC, dI) cl_all [(cI, .int), (cJ, .long), (cB, .byte), (cZ, .boolean), (cT, .object "BasisWalk$Table"), (cN, .object "BasisWalkModel$Num")] U ∧ NW U ∧ va_D (fun _ => True) [(h_x, .inr (5, [.ref h_x_d, .int x_n, .int x_minus])), (h_x_d, .inl (cI, x_d_n, .inl x_d)), (h_o, .inr (5, [.ref h_o_d, .int o_n, .int o_minus])), (h_o_d, .inl (cI, o_d_n, .inl o_d))])) (va_Qv (fun u : Int32 × Int32 × (Nat → Int32) => u = r) (fun (u : Int32 × Int32 × (Nat → Int32)) (t : State) => va_P (dC, dI) cl_all [(h_x, .inr (5, [.ref h_x_d, .int u.1, .int u.2.1])), (h_x_d, .inl (cI, x_d_n, .inl u.2.2)), (h_o, .inr (5, [.ref h_o_d, .int o_n, .int o_minus])), (h_o_d, .inl (cI, o_d_n, .inl o_d))] t.heap ∧ va_K (dC, dI) cl_all [(cI, .int), (cJ, .long), (cB, .byte), (cZ, .boolean), (cT, .object "BasisWalk$Table"), (cN, .object "BasisWalkModel$Num")] t ∧ va_D (va_A [(h_x, .inr (5, [.ref h_x_d, .int x_n, .int x_minus])), (h_x_d, .inl (cI, x_d_n, .inl x_d)), (h_o, .inr (5, [.ref h_o_d, .int o_n, .int o_minus])), (h_o_d, .inl (cI, o_d_n, .inl o_d))] sz) [(h_x, .inr (5, [.ref h_x_d, .int u.1, .int u.2.1])), (h_x_d, .inl (cI, x_d_n, .inl u.2.2)), (h_o, .inr (5, [.ref h_o_d, .int o_n, .int o_minus])), (h_o_d, .inl (cI, o_d_n, .inl o_d))]) (va_A [(h_x, .inr (5, [.ref h_x_d, .int x_n, .int x_minus])), (h_x_d, .inl (cI, x_d_n, .inl x_d)), (h_o, .inr (5, [.ref h_o_d, .int o_n, .int o_minus])), (h_o_d, .inl (cI, o_d_n, .inl o_d))] sz)) 0 0 (va_A [(h_x, .inr (5, [.ref h_x_d, .int x_n, .int x_minus])), (h_x_d, .inl (cI, x_d_n, .inl x_d)), (h_o, .inr (5, [.ref h_o_d, .int o_n, .int o_minus])), (h_o_d, .inl (cI, o_d_n, .inl o_d))] sz) := by
  refine Met.ofW (cc := prog_8_method_3_code) (maxL := 3) (ret := (Option.none : Option Jvm.ClassFile.FieldType)) (by decide) rfl ?_
  intro p e s m args below meth c s₁ B hml hv
  obtain ⟨hAR, hsz, hP, hK, hN, hD0⟩ := hv
  have hx := B.exec
  have hb := B.bytes
  have hr := B.returns
  have hts := atoms_spec (ws := w_Nu_copy) B.pre
  have hown : s.vm.findClass "BasisWalkModel$Num" = some m.cls := findClass_of_methodNamed B.named
  have hlocks := B.notSynchronized
  clear B
  subst hsz
  have hD := hD0.self (sz := s.heap.size)
  generalize hAe : va_A [(h_x, .inr (5, [.ref h_x_d, .int x_n, .int x_minus])), (h_x_d, .inl (cI, x_d_n, .inl x_d)), (h_o, .inr (5, [.ref h_o_d, .int o_n, .int o_minus])), (h_o_d, .inl (cI, o_d_n, .inl o_d))] s.heap.size = A at hD ⊢
  have hA : ∀ q : Nat, s.heap.size ≤ q → A q := fun q h => by rw [← hAe]; exact Or.inr h
  clear hAe hD0
  have hS : va_S A s.heap s.heap [] := va_S.rf
  have hl := lv_entry ([.ref h_x, .ref h_o]) (n := 3) (Nat.le_of_ble_eq_true rfl)
  subst hAR
  rw [lg_entry_eq]
  generalize (lg_sl ([.ref h_x, .ref h_o]) ++ List.replicate (3 - (lg_sl ([.ref h_x, .ref h_o])).length) Slot.unset).toArray = ls at hl ⊢
  have hl : lv_has ls 3 [(0, .ref h_x), (1, .ref h_o)] := hl
  change W p l e ({ frames := 0, cells := 0, slots := 0, locals := 0 } : Room) s m _ below meth c s.heap [] 0 0 _ _
  generalize hARe : ([.ref h_x, .ref h_o] : List Value).toArray = AR at hts ⊢
  clear hARe
  generalize hQ : MQ below _ AR s 0 0 A = QQ
  have fl0 := hts _ (List.mem_cons_of_mem _ tw_340)
  have iw1 := (fun w hw => List.mem_cons_of_mem _ (in_Nu w hw) : ∀ w ∈ u_ws "BasisWalkModel$Num" T_Nu 3, w ∈ w_Nu_copy)
  have fl2 := hts _ (List.mem_cons_of_mem _ tw_342)
  have fl3 := hts _ (List.mem_cons_of_mem _ tw_338)
  obtain ⟨H, hHe⟩ : ∃ H : Heap, H = s.heap := ⟨_, rfl⟩
  rw [← hHe] at hP ⊢
  replace hS : va_S A s.heap H [] := by rw [hHe]; exact va_S.rf
  clear hHe
  unfold f_N_copy at h
  refine lv_aload_n hx hb d_Nu_copy_0 rfl (lv_at hl 0 rfl) ?_
  refine lv_aload_n hx hb d_Nu_copy_1 rfl (lv_at hl 1 rfl) ?_
  refine va_get (D := (dC, dI)) (ci := 5) (v := .int o_n) (C := "BasisWalkModel$Num") (T := T_Nu) (N := 3) hx hb hts iw1 hown hK hP 2 rfl rfl 1 (by decide) fl0 (fun _ h9 => h9) rfl d_Nu_copy_2 ?_
  refine va_put (D := (dC, dI)) (ci := 5) (v := .int o_n) (ty := .int) (C := "BasisWalkModel$Num") (T := T_Nu) (N := 3) hx hb hts iw1 ty_Nu tyok_Nu nm_Nu hown hK hP hD hS 0 rfl rfl 1 (by decide) fl0 (fun _ h9 => h9) rfl (by decide +kernel) rfl rfl (Nat.le_of_ble_eq_true rfl) d_Nu_copy_5 (fun H locs hP hD hS => ?_)
  have hP : va_P (dC, dI) cl_all [(h_x, .inr (5, [.ref h_x_d, .int o_n, .int x_minus])), (h_x_d, .inl (cI, x_d_n, .inl x_d)), (h_o, .inr (5, [.ref h_o_d, .int o_n, .int o_minus])), (h_o_d, .inl (cI, o_d_n, .inl o_d))] H := hP
  have hD : va_D A [(h_x, .inr (5, [.ref h_x_d, .int o_n, .int x_minus])), (h_x_d, .inl (cI, x_d_n, .inl x_d)), (h_o, .inr (5, [.ref h_o_d, .int o_n, .int o_minus])), (h_o_d, .inl (cI, o_d_n, .inl o_d))] := hD
  refine lv_aload_n hx hb d_Nu_copy_8 rfl (lv_at hl 0 rfl) ?_
  refine lv_aload_n hx hb d_Nu_copy_9 rfl (lv_at hl 1 rfl) ?_
  refine va_get (D := (dC, dI)) (ci := 5) (v := .int o_minus) (C := "BasisWalkModel$Num") (T := T_Nu) (N := 3) hx hb hts iw1 hown hK hP 2 rfl rfl 2 (by decide) fl2 (fun _ h9 => h9) rfl d_Nu_copy_10 ?_
  obtain ⟨g_1, h⟩ := ck_z_s h
  refine va_put (D := (dC, dI)) (ci := 5) (v := .int o_minus) (ty := .boolean) (C := "BasisWalkModel$Num") (T := T_Nu) (N := 3) hx hb hts iw1 ty_Nu tyok_Nu nm_Nu hown hK hP hD hS 0 rfl rfl 2 (by decide) fl2 (fun _ h9 => h9) rfl (by decide +kernel) g_1.1 g_1.2 (Nat.le_of_ble_eq_true rfl) d_Nu_copy_13 (fun H locs hP hD hS => ?_)
  have hP : va_P (dC, dI) cl_all [(h_x, .inr (5, [.ref h_x_d, .int o_n, .int o_minus])), (h_x_d, .inl (cI, x_d_n, .inl x_d)), (h_o, .inr (5, [.ref h_o_d, .int o_n, .int o_minus])), (h_o_d, .inl (cI, o_d_n, .inl o_d))] H := hP
  have hD : va_D A [(h_x, .inr (5, [.ref h_x_d, .int o_n, .int o_minus])), (h_x_d, .inl (cI, x_d_n, .inl x_d)), (h_o, .inr (5, [.ref h_o_d, .int o_n, .int o_minus])), (h_o_d, .inl (cI, o_d_n, .inl o_d))] := hD
  refine lv_iconst (v := 0) hx hb d_Nu_copy_16 (by decide) ?_
  refine lv_istore_n (lv' := [(2, .int 0), (0, .ref h_x), (1, .ref h_o)]) hx hb d_Nu_copy_17 rfl hl (by decide) rfl (fun ls hl => ?_)
  refine lo2_W (r := r) (fun (v2_2 : Int32) (w_3 : Nat → Int32) => ∀ (H : Heap) (locs : List Loc), va_P (dC, dI) cl_all [(h_x, .inr (5, [.ref h_x_d, .int o_n, .int o_minus])), (h_x_d, .inl (cI, x_d_n, .inl w_3)), (h_o, .inr (5, [.ref h_o_d, .int o_n, .int o_minus])), (h_o_d, .inl (cI, o_d_n, .inl o_d))] H → va_D A [(h_x, .inr (5, [.ref h_x_d, .int o_n, .int o_minus])), (h_x_d, .inl (cI, x_d_n, .inl w_3)), (h_o, .inr (5, [.ref h_o_d, .int o_n, .int o_minus])), (h_o_d, .inl (cI, o_d_n, .inl o_d))] → va_S A s.heap H locs → ∀ ls : Array Slot, lv_has ls 3 [(0, .ref h_x), (1, .ref h_o), (2, .int v2_2)] → W p l e ({ frames := 0, cells := 0, slots := 0, locals := 0 } : Room) s m AR below meth c H locs 0 0 QQ (F0 m 18 ls [])) ?_ _ _ _ h _ _ hP hD hS _ (lv_sub hl [1, 2, 0] rfl)
  intro k_18 v2_2 w_3 J_18 h H locs hP hD hS ls hl
  refine lv_iload_n hx hb d_Nu_copy_18 rfl (lv_at hl 2 rfl) ?_
  refine lv_aload_n hx hb d_Nu_copy_19 rfl (lv_at hl 0 rfl) ?_
  refine va_get (D := (dC, dI)) (ci := 5) (v := .int o_n) (C := "BasisWalkModel$Num") (T := T_Nu) (N := 3) hx hb hts iw1 hown hK hP 0 rfl rfl 1 (by decide) fl0 (fun _ h9 => h9) rfl d_Nu_copy_20 ?_
  refine lv_icmp_ge (tgt := 44) hx hb d_Nu_copy_23 (by decide) (fun c_4 => ?_) (fun c_4 => ?_)
  · replace h := ck_if_t h c_4
    obtain rfl := Option.some.inj h
    subst hQ
    exact W.vret hx hb hr (fun t ht hW => ⟨⟨(o_n, o_minus, w_3), rfl, rfl, by rw [ht]; exact hP, va_K.moved hW.alike hK, hD⟩, hS.F ht⟩) hS.2.2 d_Nu_copy_44
  · replace h := ck_if_f h c_4
    refine lv_aload_n hx hb d_Nu_copy_26 rfl (lv_at hl 0 rfl) ?_
    refine va_get (D := (dC, dI)) (ci := 5) (v := .ref h_x_d) (C := "BasisWalkModel$Num") (T := T_Nu) (N := 3) hx hb hts iw1 hown hK hP 0 rfl rfl 0 (by decide) fl3 (fun _ h9 => h9) rfl d_Nu_copy_27 ?_
    refine lv_iload_n hx hb d_Nu_copy_30 rfl (lv_at hl 2 rfl) ?_
    refine lv_aload_n hx hb d_Nu_copy_31 rfl (lv_at hl 1 rfl) ?_
    refine va_get (D := (dC, dI)) (ci := 5) (v := .ref h_o_d) (C := "BasisWalkModel$Num") (T := T_Nu) (N := 3) hx hb hts iw1 hown hK hP 2 rfl rfl 0 (by decide) fl3 (fun _ h9 => h9) rfl d_Nu_copy_32 ?_
    refine lv_iload_n hx hb d_Nu_copy_35 rfl (lv_at hl 2 rfl) ?_
    obtain ⟨g_5, h⟩ := ck_in_s h
    refine va_iald hx hb hK hP 3 0 rfl rfl g_5 d_Nu_copy_36 ?_
    obtain ⟨g_6, h⟩ := ck_in_s h
    refine va_iast hx hb hK hP hD hS 1 0 rfl rfl g_6 d_Nu_copy_37 (fun H locs hP hD hS => ?_)
    have hP : va_P (dC, dI) cl_all [(h_x, .inr (5, [.ref h_x_d, .int o_n, .int o_minus])), (h_x_d, .inl (cI, x_d_n, .inl (upd w_3 v2_2.toNatClampNeg (o_d v2_2.toNatClampNeg)))), (h_o, .inr (5, [.ref h_o_d, .int o_n, .int o_minus])), (h_o_d, .inl (cI, o_d_n, .inl o_d))] H := hP
    have hD : va_D A [(h_x, .inr (5, [.ref h_x_d, .int o_n, .int o_minus])), (h_x_d, .inl (cI, x_d_n, .inl (upd w_3 v2_2.toNatClampNeg (o_d v2_2.toNatClampNeg)))), (h_o, .inr (5, [.ref h_o_d, .int o_n, .int o_minus])), (h_o_d, .inl (cI, o_d_n, .inl o_d))] := hD
    obtain ⟨x_7, ex_7⟩ : ∃ y : Int32, y = v2_2 + 1 := ⟨_, rfl⟩
    replace h := ck_nm_s h ex_7
    refine lv_iinc (v := x_7) (lv' := [(2, .int x_7), (0, .ref h_x), (1, .ref h_o)]) hx hb d_Nu_copy_38 hl (k := 2) rfl (by rw [ex_7]; rfl) (by decide) rfl (fun ls hl => ?_)
    refine lv_goto (tgt := 18) hx hb d_Nu_copy_41 (by decide) ?_
    exact J_18 _ _ h _ _ hP hD hS _ (lv_sub hl [1, 2, 0] rfl)
theorem d_Nu_small_0 : decode prog_8_method_4_code 0 = .ok (.aload_n 0, 1) := by decide +kernel
theorem d_Nu_small_1 : decode prog_8_method_4_code 1 = .ok (.invokevirtual 21, 3) := by decide +kernel
theorem d_Nu_small_4 : decode prog_8_method_4_code 4 = .ok (.aload_n 0, 1) := by decide +kernel
theorem d_Nu_small_5 : decode prog_8_method_4_code 5 = .ok (.lload_n 1, 1) := by decide +kernel
theorem d_Nu_small_6 : decode prog_8_method_4_code 6 = .ok (.lconst 0, 1) := by decide +kernel
theorem d_Nu_small_7 : decode prog_8_method_4_code 7 = .ok (.lcmp, 1) := by decide +kernel
theorem d_Nu_small_8 : decode prog_8_method_4_code 8 = .ok (.ifCond .ge 7, 3) := by decide +kernel
theorem d_Nu_small_11 : decode prog_8_method_4_code 11 = .ok (.iconst 1, 1) := by decide +kernel
theorem d_Nu_small_12 : decode prog_8_method_4_code 12 = .ok (.goto 4, 3) := by decide +kernel
theorem d_Nu_small_15 : decode prog_8_method_4_code 15 = .ok (.iconst 0, 1) := by decide +kernel
theorem d_Nu_small_16 : decode prog_8_method_4_code 16 = .ok (.putfield 17, 3) := by decide +kernel
theorem d_Nu_small_19 : decode prog_8_method_4_code 19 = .ok (.lload_n 1, 1) := by decide +kernel
theorem d_Nu_small_20 : decode prog_8_method_4_code 20 = .ok (.lconst 0, 1) := by decide +kernel
theorem d_Nu_small_21 : decode prog_8_method_4_code 21 = .ok (.lcmp, 1) := by decide +kernel
theorem d_Nu_small_22 : decode prog_8_method_4_code 22 = .ok (.ifCond .ge 8, 3) := by decide +kernel
theorem d_Nu_small_25 : decode prog_8_method_4_code 25 = .ok (.lload_n 1, 1) := by decide +kernel
theorem d_Nu_small_26 : decode prog_8_method_4_code 26 = .ok (.lneg, 1) := by decide +kernel
theorem d_Nu_small_27 : decode prog_8_method_4_code 27 = .ok (.goto 4, 3) := by decide +kernel
theorem d_Nu_small_30 : decode prog_8_method_4_code 30 = .ok (.lload_n 1, 1) := by decide +kernel
theorem d_Nu_small_31 : decode prog_8_method_4_code 31 = .ok (.lstore_n 3, 1) := by decide +kernel
theorem d_Nu_small_32 : decode prog_8_method_4_code 32 = .ok (.lload_n 3, 1) := by decide +kernel
theorem d_Nu_small_33 : decode prog_8_method_4_code 33 = .ok (.lconst 0, 1) := by decide +kernel
theorem d_Nu_small_34 : decode prog_8_method_4_code 34 = .ok (.lcmp, 1) := by decide +kernel
theorem d_Nu_small_35 : decode prog_8_method_4_code 35 = .ok (.ifCond .le 37, 3) := by decide +kernel
theorem d_Nu_small_38 : decode prog_8_method_4_code 38 = .ok (.aload_n 0, 1) := by decide +kernel
theorem d_Nu_small_39 : decode prog_8_method_4_code 39 = .ok (.getfield 7, 3) := by decide +kernel
theorem d_Nu_small_42 : decode prog_8_method_4_code 42 = .ok (.aload_n 0, 1) := by decide +kernel
theorem d_Nu_small_43 : decode prog_8_method_4_code 43 = .ok (.getfield 13, 3) := by decide +kernel
theorem d_Nu_small_46 : decode prog_8_method_4_code 46 = .ok (.lload_n 3, 1) := by decide +kernel
theorem d_Nu_small_47 : decode prog_8_method_4_code 47 = .ok (.ldc2_w 24, 3) := by decide +kernel
theorem d_Nu_small_50 : decode prog_8_method_4_code 50 = .ok (.lrem, 1) := by decide +kernel
theorem d_Nu_small_51 : decode prog_8_method_4_code 51 = .ok (.l2i, 1) := by decide +kernel
theorem d_Nu_small_52 : decode prog_8_method_4_code 52 = .ok (.iastore, 1) := by decide +kernel
theorem d_Nu_small_53 : decode prog_8_method_4_code 53 = .ok (.aload_n 0, 1) := by decide +kernel
theorem d_Nu_small_54 : decode prog_8_method_4_code 54 = .ok (.dup, 1) := by decide +kernel
theorem d_Nu_small_55 : decode prog_8_method_4_code 55 = .ok (.getfield 13, 3) := by decide +kernel
theorem d_Nu_small_58 : decode prog_8_method_4_code 58 = .ok (.iconst 1, 1) := by decide +kernel
theorem d_Nu_small_59 : decode prog_8_method_4_code 59 = .ok (.iadd, 1) := by decide +kernel
theorem d_Nu_small_60 : decode prog_8_method_4_code 60 = .ok (.putfield 13, 3) := by decide +kernel
theorem d_Nu_small_63 : decode prog_8_method_4_code 63 = .ok (.lload_n 3, 1) := by decide +kernel
theorem d_Nu_small_64 : decode prog_8_method_4_code 64 = .ok (.ldc2_w 24, 3) := by decide +kernel
theorem d_Nu_small_67 : decode prog_8_method_4_code 67 = .ok (.ldiv, 1) := by decide +kernel
theorem d_Nu_small_68 : decode prog_8_method_4_code 68 = .ok (.lstore_n 3, 1) := by decide +kernel
theorem d_Nu_small_69 : decode prog_8_method_4_code 69 = .ok (.goto (-37), 3) := by decide +kernel
theorem d_Nu_small_72 : decode prog_8_method_4_code 72 = .ok (.return_, 1) := by decide +kernel
def f_N_small (x_d_n : Nat) (x_d : Nat → Int32) (v0 : Int64) : Option (Int32 × Int32 × (Nat → Int32)) :=
  ck_b2 (f_N_zero) <| fun u_1 u_2 => ck_jn (fun (s0_4 : Int32) => ck_z s0_4 <| ck_jn (fun (s0_6 : Int64) => lo3 (fun k_32 (v3_7 : Int64) (w_8 : Int32) (w_9 : Nat → Int32) => ck_if ((lg_cmp v3_7 0) ≤ 0) (some (w_8, s0_4, w_9)) (ck_in w_8 x_d_n <| ck_nm (v3_7 / 65536) <| fun x_12 => k_32 x_12 (w_8 + 1) (upd w_9 w_8.toNatClampNeg ((v3_7 - v3_7 / 65536 * 65536).toInt32)))) ck_F s0_6 u_1 x_d) <| fun k_31 => ck_if (0 ≤ (lg_cmp v0 0)) (k_31 v0) (k_31 (-v0))) <| fun k_16 => ck_if (0 ≤ (lg_cmp v0 0)) (k_16 0) (k_16 1)
set_option maxHeartbeats 4000000 in
set_option maxRecDepth 100000 in
theorem c_N_small (l : Launch) (dC : Nat → ClassId) (dI : Nat → Nat → Nat) (cI cJ cB cZ cT cN : ClassId) (sz : Nat) (h_x : Nat) (h_x_d : Nat) (x_n : Int32) (x_minus : Int32) (x_d_n : Nat) (x_d : Nat → Int32) (v0 : Int64) (r : Int32 × Int32 × (Nat → Int32)) (h : f_N_small x_d_n x_d v0 = some r) : Met l y_Nu_small w_Nu_small ({ frames := 1, cells := 0, slots := 0, locals := 20 } : Room) (va_Pc [.ref h_x, .long v0] (fun U => U.heap.size = sz ∧ va_P (dC, dI) cl_all [(h_x, .inr (5, [.ref h_x_d, .int x_n, .int x_minus])), (h_x_d, .inl (cI, x_d_n, .inl x_d))] U.heap ∧ va_K (dC, dI) cl_all [(cI, .int), (cJ, .long), (cB, .byte), (cZ, .boolean), (cT, .object "BasisWalk$Table"), (cN, .object "BasisWalkModel$Num")] U ∧ NW U ∧ va_D (fun _ => True) [(h_x, .inr (5, [.ref h_x_d, .int x_n, .int x_minus])), (h_x_d, .inl (cI, x_d_n, .inl x_d))])) (va_Qv (fun u : Int32 × Int32 × (Nat → Int32) => u = r) (fun (u : Int32 × Int32 × (Nat → Int32)) (t : State) => va_P (dC, dI) cl_all [(h_x, .inr (5, [.ref h_x_d, .int u.1, .int u.2.1])), (h_x_d, .inl (cI, x_d_n, .inl u.2.2))] t.heap ∧ va_K (dC, dI) cl_all [(cI, .int), (cJ, .long), (cB, .byte), (cZ, .boolean), (cT, .object "BasisWalk$Table"), (cN, .object "BasisWalkModel$Num")] t ∧ va_D (va_A [(h_x, .inr (5, [.ref h_x_d, .int x_n, .int x_minus])), (h_x_d, .inl (cI, x_d_n, .inl x_d))] sz) [(h_x, .inr (5, [.ref h_x_d, .int u.1, .int u.2.1])), (h_x_d, .inl (cI, x_d_n, .inl u.2.2))]) (va_A [(h_x, .inr (5, [.ref h_x_d, .int x_n, .int x_minus])), (h_x_d, .inl (cI, x_d_n, .inl x_d))] sz)) 0 0 (va_A [(h_x, .inr (5, [.ref h_x_d, .int x_n, .int x_minus])), (h_x_d, .inl (cI, x_d_n, .inl x_d))] sz) := by
  refine Met.ofW (cc := prog_8_method_4_code) (maxL := 5) (ret := (Option.none : Option Jvm.ClassFile.FieldType)) (by decide) rfl ?_
  intro p e s m args below meth c s₁ B hml hv
  obtain ⟨hAR, hsz, hP, hK, hN, hD0⟩ := hv
  have hx := B.exec
  have hb := B.bytes
  have hr := B.returns
  have hts := atoms_spec (ws := w_Nu_small) B.pre
  have hown : s.vm.findClass "BasisWalkModel$Num" = some m.cls := findClass_of_methodNamed B.named
  have hlocks := B.notSynchronized
  clear B
  subst hsz
  have hD := hD0.self (sz := s.heap.size)
  generalize hAe : va_A [(h_x, .inr (5, [.ref h_x_d, .int x_n, .int x_minus])), (h_x_d, .inl (cI, x_d_n, .inl x_d))] s.heap.size = A at hD ⊢
  have hA : ∀ q : Nat, s.heap.size ≤ q → A q := fun q h => by rw [← hAe]; exact Or.inr h
  clear hAe hD0
  have hS : va_S A s.heap s.heap [] := va_S.rf
  have hl := lv_entry ([.ref h_x, .long v0]) (n := 5) (Nat.le_of_ble_eq_true rfl)
  subst hAR
  rw [lg_entry_eq]
  generalize (lg_sl ([.ref h_x, .long v0]) ++ List.replicate (5 - (lg_sl ([.ref h_x, .long v0])).length) Slot.unset).toArray = ls at hl ⊢
  have hl : lv_has ls 5 [(0, .ref h_x), (1, .long v0)] := hl
  change W p l e ({ frames := 1, cells := 0, slots := 0, locals := 20 } : Room) s m _ below meth c s.heap [] 0 0 _ _
  generalize hARe : ([.ref h_x, .long v0] : List Value).toArray = AR at hts ⊢
  clear hARe
  generalize hQ : MQ below _ AR s 0 0 A = QQ
  have fl0 := hts _ (List.mem_cons_of_mem _ tw_342)
  have iw1 := (fun w hw => List.mem_cons_of_mem _ (in_Nu w hw) : ∀ w ∈ u_ws "BasisWalkModel$Num" T_Nu 3, w ∈ w_Nu_small)
  have fl2 := hts _ (List.mem_cons_of_mem _ tw_338)
  have fl3 := hts _ (List.mem_cons_of_mem _ tw_340)
  have kc4 := hts _ (List.mem_cons_of_mem _ tw_497)
  obtain ⟨H, hHe⟩ : ∃ H : Heap, H = s.heap := ⟨_, rfl⟩
  rw [← hHe] at hP ⊢
  replace hS : va_S A s.heap H [] := by rw [hHe]; exact va_S.rf
  clear hHe
  unfold f_N_small at h
  refine lv_aload_n hx hb d_Nu_small_0 rfl (lv_at hl 0 rfl) ?_
  obtain ⟨u_1, u_2, hc_3, h⟩ := ck_b2_s h
  have hPc := hP.sub (ws' := [(h_x, .inr (5, [.ref h_x_d, .int x_n, .int x_minus])), (h_x_d, .inl (cI, x_d_n, .inl x_d))]) [0, 1] rfl
  have hDc := hD.sub (ws' := [(h_x, .inr (5, [.ref h_x_d, .int x_n, .int x_minus])), (h_x_d, .inl (cI, x_d_n, .inl x_d))]) [0, 1] (by decide) rfl
  have hFc := va_free (wc := [(h_x, .inr (5, [.ref h_x_d, .int x_n, .int x_minus])), (h_x_d, .inl (cI, x_d_n, .inl x_d))]) hD hS hA [0, 1] rfl
  refine va_callv (va_runV (As := []) (rest := []) ⟨hx, hb, hml, hown, hts⟩ (c_N_zero l dC dI cI cJ cB cZ cT cN H.size h_x h_x_d x_n x_minus x_d_n x_d _ hc_3) (cwV 0 hts (tb_V tw_493 tw_494 tw_495 tw_7 tw_496) rfl rfl rfl (by decide +kernel) ⟨Nat.le_of_ble_eq_true rfl, Nat.le_of_ble_eq_true rfl⟩) ⟨fun a U g mk q => by obtain ⟨q0, q1, qP, qK, qN, qD⟩ := q; exact ⟨q0, q1, qP, va_K.moved (u := U) (U := U.calling g mk a) (Vm.Alike.refl U.vm) qK, qN.same rfl, qD⟩, va_recv hK hPc (ci := 5) (q0 := 0) rfl rfl, fun U hU hW => ⟨rfl, by rw [hU], by rw [hU]; exact hPc, va_K.moved hW.alike hK, hN.warm hW, hDc.weaken (fun _ _ _ _ => trivial)⟩⟩ rfl rfl hl.1 rfl (lv_room (Nat.le_of_ble_eq_true rfl)) d_Nu_small_1 ⟨Nat.zero_le _, Nat.zero_le _⟩) hS (fun q _ h => hFc q h) hFc (fun u t H1 locs ht hvm hw hB hz1 hk1 hS => ?_)
  replace hw := hw.symm
  subst hw
  obtain ⟨hP1, -, hD1⟩ := hB
  rw [ht] at hP1
  obtain ⟨hP, hD⟩ := va_join (wr := []) (w1 := [(h_x, .inr (5, [.ref h_x_d, .int u_1, .int u_2])), (h_x_d, .inl (cI, x_d_n, .inl x_d))]) hP hD [0, 1] [] rfl rfl (by decide) (by decide) hk1 hFc hP1 hD1
  generalize H1 = H at hP hS ⊢
  have hP : va_P (dC, dI) cl_all [(h_x, .inr (5, [.ref h_x_d, .int u_1, .int u_2])), (h_x_d, .inl (cI, x_d_n, .inl x_d))] H := hP.sub [0, 1] rfl
  have hD : va_D A [(h_x, .inr (5, [.ref h_x_d, .int u_1, .int u_2])), (h_x_d, .inl (cI, x_d_n, .inl x_d))] := hD.sub [0, 1] (by decide) rfl
  refine lv_aload_n hx hb d_Nu_small_4 rfl (lv_at hl 0 rfl) ?_
  refine lv_lload_n hx hb d_Nu_small_5 rfl (lv_at hl 1 rfl) ?_
  refine lv_lconst (v := 0) hx hb d_Nu_small_6 (by decide) ?_
  refine W.lcmp hx hb d_Nu_small_7 ?_
  refine ck_jn_W h (fun k' => ∀ (s0_4 : Int32), k' s0_4 = some r → ∀ (H : Heap) (locs : List Loc), va_P (dC, dI) cl_all [(h_x, .inr (5, [.ref h_x_d, .int u_1, .int u_2])), (h_x_d, .inl (cI, x_d_n, .inl x_d))] H → va_D A [(h_x, .inr (5, [.ref h_x_d, .int u_1, .int u_2])), (h_x_d, .inl (cI, x_d_n, .inl x_d))] → va_S A s.heap H locs → ∀ ls : Array Slot, lv_has ls 5 [(0, .ref h_x), (1, .long v0)] → W p l e ({ frames := 1, cells := 0, slots := 0, locals := 20 } : Room) s m AR below meth c H locs 0 0 QQ (F0 m 16 ls [.int s0_4, .ref h_x])) ?_ ?_
  · intro s0_4 h H locs hP hD hS ls hl
    obtain ⟨g_5, h⟩ := ck_z_s h
    refine va_put (D := (dC, dI)) (ci := 5) (v := .int s0_4) (ty := .boolean) (C := "BasisWalkModel$Num") (T := T_Nu) (N := 3) hx hb hts iw1 ty_Nu tyok_Nu nm_Nu hown hK hP hD hS 0 rfl rfl 2 (by decide) fl0 (fun _ h9 => h9) rfl (by decide +kernel) g_5.1 g_5.2 (Nat.le_of_ble_eq_true rfl) d_Nu_small_16 (fun H locs hP hD hS => ?_)
    have hP : va_P (dC, dI) cl_all [(h_x, .inr (5, [.ref h_x_d, .int u_1, .int s0_4])), (h_x_d, .inl (cI, x_d_n, .inl x_d))] H := hP
    have hD : va_D A [(h_x, .inr (5, [.ref h_x_d, .int u_1, .int s0_4])), (h_x_d, .inl (cI, x_d_n, .inl x_d))] := hD
    refine lv_lload_n hx hb d_Nu_small_19 rfl (lv_at hl 1 rfl) ?_
    refine lv_lconst (v := 0) hx hb d_Nu_small_20 (by decide) ?_
    refine W.lcmp hx hb d_Nu_small_21 ?_
    refine ck_jn_W h (fun k' => ∀ (s0_6 : Int64), k' s0_6 = some r → ∀ (H : Heap) (locs : List Loc), va_P (dC, dI) cl_all [(h_x, .inr (5, [.ref h_x_d, .int u_1, .int s0_4])), (h_x_d, .inl (cI, x_d_n, .inl x_d))] H → va_D A [(h_x, .inr (5, [.ref h_x_d, .int u_1, .int s0_4])), (h_x_d, .inl (cI, x_d_n, .inl x_d))] → va_S A s.heap H locs → ∀ ls : Array Slot, lv_has ls 5 [(0, .ref h_x)] → W p l e ({ frames := 1, cells := 0, slots := 0, locals := 20 } : Room) s m AR below meth c H locs 0 0 QQ (F0 m 31 ls [.long s0_6])) ?_ ?_
    · intro s0_6 h H locs hP hD hS ls hl
      refine lv_lstore_n (lv' := [(3, .long s0_6), (0, .ref h_x)]) hx hb d_Nu_small_31 rfl hl (by decide) rfl (fun ls hl => ?_)
      refine lo3_W (r := r) (fun (v3_7 : Int64) (w_8 : Int32) (w_9 : Nat → Int32) => ∀ (H : Heap) (locs : List Loc), va_P (dC, dI) cl_all [(h_x, .inr (5, [.ref h_x_d, .int w_8, .int s0_4])), (h_x_d, .inl (cI, x_d_n, .inl w_9))] H → va_D A [(h_x, .inr (5, [.ref h_x_d, .int w_8, .int s0_4])), (h_x_d, .inl (cI, x_d_n, .inl w_9))] → va_S A s.heap H locs → ∀ ls : Array Slot, lv_has ls 5 [(0, .ref h_x), (3, .long v3_7)] → W p l e ({ frames := 1, cells := 0, slots := 0, locals := 20 } : Room) s m AR below meth c H locs 0 0 QQ (F0 m 32 ls [])) ?_ _ _ _ _ h _ _ hP hD hS _ (lv_sub hl [1, 0] rfl)
      intro k_32 v3_7 w_8 w_9 J_32 h H locs hP hD hS ls hl
      refine lv_lload_n hx hb d_Nu_small_32 rfl (lv_at hl 1 rfl) ?_
      refine lv_lconst (v := 0) hx hb d_Nu_small_33 (by decide) ?_
      refine W.lcmp hx hb d_Nu_small_34 ?_
      refine lv_if_le (tgt := 72) hx hb d_Nu_small_35 (by decide) (fun c_10 => ?_) (fun c_10 => ?_)
      · replace h := ck_if_t h c_10
        obtain rfl := Option.some.inj h
        subst hQ
        exact W.vret hx hb hr (fun t ht hW => ⟨⟨(w_8, s0_4, w_9), rfl, rfl, by rw [ht]; exact hP, va_K.moved hW.alike hK, hD⟩, hS.F ht⟩) hS.2.2 d_Nu_small_72
      · replace h := ck_if_f h c_10
        refine lv_aload_n hx hb d_Nu_small_38 rfl (lv_at hl 0 rfl) ?_
        refine va_get (D := (dC, dI)) (ci := 5) (v := .ref h_x_d) (C := "BasisWalkModel$Num") (T := T_Nu) (N := 3) hx hb hts iw1 hown hK hP 0 rfl rfl 0 (by decide) fl2 (fun _ h9 => h9) rfl d_Nu_small_39 ?_
        refine lv_aload_n hx hb d_Nu_small_42 rfl (lv_at hl 0 rfl) ?_
        refine va_get (D := (dC, dI)) (ci := 5) (v := .int w_8) (C := "BasisWalkModel$Num") (T := T_Nu) (N := 3) hx hb hts iw1 hown hK hP 0 rfl rfl 1 (by decide) fl3 (fun _ h9 => h9) rfl d_Nu_small_43 ?_
        refine lv_lload_n hx hb d_Nu_small_46 rfl (lv_at hl 1 rfl) ?_
        refine lv_ldc2 (v := 65536) hx hb hown kc4 d_Nu_small_47 ?_
        refine lv_lrem hx hb d_Nu_small_50 (by decide) ?_
        refine lv_l2i hx hb d_Nu_small_51 rfl ?_
        obtain ⟨g_11, h⟩ := ck_in_s h
        refine va_iast hx hb hK hP hD hS 1 0 rfl rfl g_11 d_Nu_small_52 (fun H locs hP hD hS => ?_)
        have hP : va_P (dC, dI) cl_all [(h_x, .inr (5, [.ref h_x_d, .int w_8, .int s0_4])), (h_x_d, .inl (cI, x_d_n, .inl (upd w_9 w_8.toNatClampNeg ((v3_7 - v3_7 / 65536 * 65536).toInt32))))] H := hP
        have hD : va_D A [(h_x, .inr (5, [.ref h_x_d, .int w_8, .int s0_4])), (h_x_d, .inl (cI, x_d_n, .inl (upd w_9 w_8.toNatClampNeg ((v3_7 - v3_7 / 65536 * 65536).toInt32))))] := hD
        refine lv_aload_n hx hb d_Nu_small_53 rfl (lv_at hl 0 rfl) ?_
        refine lv_dup hx hb d_Nu_small_54 rfl ?_
        refine va_get (D := (dC, dI)) (ci := 5) (v := .int w_8) (C := "BasisWalkModel$Num") (T := T_Nu) (N := 3) hx hb hts iw1 hown hK hP 0 rfl rfl 1 (by decide) fl3 (fun _ h9 => h9) rfl d_Nu_small_55 ?_
        refine lv_iconst (v := 1) hx hb d_Nu_small_58 (by decide) ?_
        refine lv_iadd hx hb d_Nu_small_59 ?_
        refine va_put (D := (dC, dI)) (ci := 5) (v := .int (w_8 + 1)) (ty := .int) (C := "BasisWalkModel$Num") (T := T_Nu) (N := 3) hx hb hts iw1 ty_Nu tyok_Nu nm_Nu hown hK hP hD hS 0 rfl rfl 1 (by decide) fl3 (fun _ h9 => h9) rfl (by decide +kernel) rfl rfl (Nat.le_of_ble_eq_true rfl) d_Nu_small_60 (fun H locs hP hD hS => ?_)
        have hP : va_P (dC, dI) cl_all [(h_x, .inr (5, [.ref h_x_d, .int (w_8 + 1), .int s0_4])), (h_x_d, .inl (cI, x_d_n, .inl (upd w_9 w_8.toNatClampNeg ((v3_7 - v3_7 / 65536 * 65536).toInt32))))] H := hP
        have hD : va_D A [(h_x, .inr (5, [.ref h_x_d, .int (w_8 + 1), .int s0_4])), (h_x_d, .inl (cI, x_d_n, .inl (upd w_9 w_8.toNatClampNeg ((v3_7 - v3_7 / 65536 * 65536).toInt32))))] := hD
        refine lv_lload_n hx hb d_Nu_small_63 rfl (lv_at hl 1 rfl) ?_
        refine lv_ldc2 (v := 65536) hx hb hown kc4 d_Nu_small_64 ?_
        refine lv_ldiv hx hb d_Nu_small_67 (by decide) ?_
        refine lv_topl (fun x_12 ex_12 => ?_)
        replace h := ck_nm_s h ex_12
        refine lv_lstore_n (lv' := [(3, .long x_12), (0, .ref h_x)]) hx hb d_Nu_small_68 rfl hl (by decide) rfl (fun ls hl => ?_)
        refine lv_goto (tgt := 32) hx hb d_Nu_small_69 (by decide) ?_
        exact J_32 _ _ _ h _ _ hP hD hS _ (lv_sub hl [1, 0] rfl)
    · intro k_31 J_31 h
      refine lv_if_ge (tgt := 30) hx hb d_Nu_small_22 (by decide) (fun c_13 => ?_) (fun c_13 => ?_)
      · replace h := ck_if_t h c_13
        refine lv_lload_n hx hb d_Nu_small_30 rfl (lv_at hl 1 rfl) ?_
        exact J_31 _ h _ _ hP hD hS _ (lv_sub hl [0] rfl)
      · replace h := ck_if_f h c_13
        refine lv_lload_n hx hb d_Nu_small_25 rfl (lv_at hl 1 rfl) ?_
        refine lv_lneg hx hb d_Nu_small_26 ?_
        refine lv_goto (tgt := 31) hx hb d_Nu_small_27 (by decide) ?_
        exact J_31 _ h _ _ hP hD hS _ (lv_sub hl [0] rfl)
  · intro k_16 J_16 h
    refine lv_if_ge (tgt := 15) hx hb d_Nu_small_8 (by decide) (fun c_14 => ?_) (fun c_14 => ?_)
    · replace h := ck_if_t h c_14
      refine lv_iconst (v := 0) hx hb d_Nu_small_15 (by decide) ?_
      exact J_16 _ h _ _ hP hD hS _ (lv_sub hl [0, 1] rfl)
    · replace h := ck_if_f h c_14
      refine lv_iconst (v := 1) hx hb d_Nu_small_11 (by decide) ?_
      refine lv_goto (tgt := 16) hx hb d_Nu_small_12 (by decide) ?_
      exact J_16 _ h _ _ hP hD hS _ (lv_sub hl [0, 1] rfl)
theorem d_Nu_isOne_0 : decode prog_8_method_5_code 0 = .ok (.aload_n 0, 1) := by decide +kernel
theorem d_Nu_isOne_1 : decode prog_8_method_5_code 1 = .ok (.getfield 13, 3) := by decide +kernel
theorem d_Nu_isOne_4 : decode prog_8_method_5_code 4 = .ok (.iconst 1, 1) := by decide +kernel
theorem d_Nu_isOne_5 : decode prog_8_method_5_code 5 = .ok (.if_icmp .ne 24, 3) := by decide +kernel
theorem d_Nu_isOne_8 : decode prog_8_method_5_code 8 = .ok (.aload_n 0, 1) := by decide +kernel
theorem d_Nu_isOne_9 : decode prog_8_method_5_code 9 = .ok (.getfield 7, 3) := by decide +kernel
theorem d_Nu_isOne_12 : decode prog_8_method_5_code 12 = .ok (.iconst 0, 1) := by decide +kernel
theorem d_Nu_isOne_13 : decode prog_8_method_5_code 13 = .ok (.iaload, 1) := by decide +kernel
theorem d_Nu_isOne_14 : decode prog_8_method_5_code 14 = .ok (.iconst 1, 1) := by decide +kernel
theorem d_Nu_isOne_15 : decode prog_8_method_5_code 15 = .ok (.if_icmp .ne 14, 3) := by decide +kernel
theorem d_Nu_isOne_18 : decode prog_8_method_5_code 18 = .ok (.aload_n 0, 1) := by decide +kernel
theorem d_Nu_isOne_19 : decode prog_8_method_5_code 19 = .ok (.getfield 17, 3) := by decide +kernel
theorem d_Nu_isOne_22 : decode prog_8_method_5_code 22 = .ok (.ifCond .ne 7, 3) := by decide +kernel
theorem d_Nu_isOne_25 : decode prog_8_method_5_code 25 = .ok (.iconst 1, 1) := by decide +kernel
theorem d_Nu_isOne_26 : decode prog_8_method_5_code 26 = .ok (.goto 4, 3) := by decide +kernel
theorem d_Nu_isOne_29 : decode prog_8_method_5_code 29 = .ok (.iconst 0, 1) := by decide +kernel
theorem d_Nu_isOne_30 : decode prog_8_method_5_code 30 = .ok (.ireturn, 1) := by decide +kernel
def f_N_isOne (x_n : Int32) (x_minus : Int32) (x_d_n : Nat) (x_d : Nat → Int32) : Option (Int32) :=
  ck_if (x_n = 1) (ck_in 0 x_d_n <| ck_if ((x_d (0 : Int32).toNatClampNeg) = 1) (ck_if (x_minus = 0) (some 1) (some 0)) (some 0)) (some 0)
set_option maxHeartbeats 4000000 in
set_option maxRecDepth 100000 in
theorem c_N_isOne (l : Launch) (dC : Nat → ClassId) (dI : Nat → Nat → Nat) (cI cJ cB cZ cT cN : ClassId) (sz : Nat) (h_x : Nat) (h_x_d : Nat) (x_n : Int32) (x_minus : Int32) (x_d_n : Nat) (x_d : Nat → Int32) (r : Int32) (h : f_N_isOne x_n x_minus x_d_n x_d = some r) : Met l y_Nu_isOne w_Nu_isOne ({ frames := 0, cells := 0, slots := 0, locals := 0 } : Room) (va_Pc [.ref h_x] (fun U => U.heap.size = sz ∧ va_P (dC, dI) cl_all [(h_x, .inr (5, [.ref h_x_d, .int x_n, .int x_minus])), (h_x_d, .inl (cI, x_d_n, .inl x_d))] U.heap ∧ va_K (dC, dI) cl_all [(cI, .int), (cJ, .long), (cB, .byte), (cZ, .boolean), (cT, .object "BasisWalk$Table"), (cN, .object "BasisWalkModel$Num")] U ∧ NW U ∧ va_D (fun _ => True) [(h_x, .inr (5, [.ref h_x_d, .int x_n, .int x_minus])), (h_x_d, .inl (cI, x_d_n, .inl x_d))])) (va_Qi (fun (v : Int32) (_ : Unit) => v = r) (fun (u : Unit) (t : State) => va_P (dC, dI) cl_all [(h_x, .inr (5, [.ref h_x_d, .int x_n, .int x_minus])), (h_x_d, .inl (cI, x_d_n, .inl x_d))] t.heap ∧ va_K (dC, dI) cl_all [(cI, .int), (cJ, .long), (cB, .byte), (cZ, .boolean), (cT, .object "BasisWalk$Table"), (cN, .object "BasisWalkModel$Num")] t ∧ va_D (va_A [(h_x, .inr (5, [.ref h_x_d, .int x_n, .int x_minus])), (h_x_d, .inl (cI, x_d_n, .inl x_d))] sz) [(h_x, .inr (5, [.ref h_x_d, .int x_n, .int x_minus])), (h_x_d, .inl (cI, x_d_n, .inl x_d))]) (va_A [(h_x, .inr (5, [.ref h_x_d, .int x_n, .int x_minus])), (h_x_d, .inl (cI, x_d_n, .inl x_d))] sz)) 0 0 (va_A [(h_x, .inr (5, [.ref h_x_d, .int x_n, .int x_minus])), (h_x_d, .inl (cI, x_d_n, .inl x_d))] sz) := by
  refine Met.ofW (cc := prog_8_method_5_code) (maxL := 1) (ret := (Option.some Jvm.ClassFile.FieldType.boolean)) (by decide) rfl ?_
  intro p e s m args below meth c s₁ B hml hv
  obtain ⟨hAR, hsz, hP, hK, hN, hD0⟩ := hv
  have hx := B.exec
  have hb := B.bytes
  have hr := B.returns
  have hts := atoms_spec (ws := w_Nu_isOne) B.pre
  have hown : s.vm.findClass "BasisWalkModel$Num" = some m.cls := findClass_of_methodNamed B.named
  have hlocks := B.notSynchronized
  clear B
  subst hsz
  have hD := hD0.self (sz := s.heap.size)
  generalize hAe : va_A [(h_x, .inr (5, [.ref h_x_d, .int x_n, .int x_minus])), (h_x_d, .inl (cI, x_d_n, .inl x_d))] s.heap.size = A at hD ⊢
  have hA : ∀ q : Nat, s.heap.size ≤ q → A q := fun q h => by rw [← hAe]; exact Or.inr h
  clear hAe hD0
  have hS : va_S A s.heap s.heap [] := va_S.rf
  have hl := lv_entry ([.ref h_x]) (n := 1) (Nat.le_of_ble_eq_true rfl)
  subst hAR
  rw [lg_entry_eq]
  generalize (lg_sl ([.ref h_x]) ++ List.replicate (1 - (lg_sl ([.ref h_x])).length) Slot.unset).toArray = ls at hl ⊢
  have hl : lv_has ls 1 [(0, .ref h_x)] := hl
  change W p l e ({ frames := 0, cells := 0, slots := 0, locals := 0 } : Room) s m _ below meth c s.heap [] 0 0 _ _
  generalize hARe : ([.ref h_x] : List Value).toArray = AR at hts ⊢
  clear hARe
  generalize hQ : MQ below _ AR s 0 0 A = QQ
  have fl0 := hts _ (List.mem_cons_of_mem _ tw_340)
  have iw1 := (fun w hw => List.mem_cons_of_mem _ (in_Nu w hw) : ∀ w ∈ u_ws "BasisWalkModel$Num" T_Nu 3, w ∈ w_Nu_isOne)
  have fl2 := hts _ (List.mem_cons_of_mem _ tw_338)
  have fl3 := hts _ (List.mem_cons_of_mem _ tw_342)
  obtain ⟨H, hHe⟩ : ∃ H : Heap, H = s.heap := ⟨_, rfl⟩
  rw [← hHe] at hP ⊢
  replace hS : va_S A s.heap H [] := by rw [hHe]; exact va_S.rf
  clear hHe
  unfold f_N_isOne at h
  refine lv_aload_n hx hb d_Nu_isOne_0 rfl (lv_at hl 0 rfl) ?_
  refine va_get (D := (dC, dI)) (ci := 5) (v := .int x_n) (C := "BasisWalkModel$Num") (T := T_Nu) (N := 3) hx hb hts iw1 hown hK hP 0 rfl rfl 1 (by decide) fl0 (fun _ h9 => h9) rfl d_Nu_isOne_1 ?_
  refine lv_iconst (v := 1) hx hb d_Nu_isOne_4 (by decide) ?_
  refine lv_icmp_ne (tgt := 29) hx hb d_Nu_isOne_5 (by decide) (fun c_1 => ?_) (fun c_1 => ?_)
  · replace h := ck_if_f h c_1
    refine lv_iconst (v := 0) hx hb d_Nu_isOne_29 (by decide) ?_
    obtain rfl := Option.some.inj h
    subst hQ
    exact W.zret (ty := .boolean) (v := 0) hx hb hr rfl (fun t ht hW => ⟨⟨0, (), rfl, rfl, by rw [ht]; exact hP, va_K.moved hW.alike hK, hD⟩, hS.F ht⟩) hS.2.2 d_Nu_isOne_30
  · replace h := ck_if_t h c_1
    refine lv_aload_n hx hb d_Nu_isOne_8 rfl (lv_at hl 0 rfl) ?_
    refine va_get (D := (dC, dI)) (ci := 5) (v := .ref h_x_d) (C := "BasisWalkModel$Num") (T := T_Nu) (N := 3) hx hb hts iw1 hown hK hP 0 rfl rfl 0 (by decide) fl2 (fun _ h9 => h9) rfl d_Nu_isOne_9 ?_
    refine lv_iconst (v := 0) hx hb d_Nu_isOne_12 (by decide) ?_
    obtain ⟨g_2, h⟩ := ck_in_s h
    refine va_iald hx hb hK hP 1 0 rfl rfl g_2 d_Nu_isOne_13 ?_
    refine lv_iconst (v := 1) hx hb d_Nu_isOne_14 (by decide) ?_
    refine lv_icmp_ne (tgt := 29) hx hb d_Nu_isOne_15 (by decide) (fun c_3 => ?_) (fun c_3 => ?_)
    · replace h := ck_if_f h c_3
      refine lv_iconst (v := 0) hx hb d_Nu_isOne_29 (by decide) ?_
      obtain rfl := Option.some.inj h
      subst hQ
      exact W.zret (ty := .boolean) (v := 0) hx hb hr rfl (fun t ht hW => ⟨⟨0, (), rfl, rfl, by rw [ht]; exact hP, va_K.moved hW.alike hK, hD⟩, hS.F ht⟩) hS.2.2 d_Nu_isOne_30
    · replace h := ck_if_t h c_3
      refine lv_aload_n hx hb d_Nu_isOne_18 rfl (lv_at hl 0 rfl) ?_
      refine va_get (D := (dC, dI)) (ci := 5) (v := .int x_minus) (C := "BasisWalkModel$Num") (T := T_Nu) (N := 3) hx hb hts iw1 hown hK hP 0 rfl rfl 2 (by decide) fl3 (fun _ h9 => h9) rfl d_Nu_isOne_19 ?_
      refine lv_if_ne (tgt := 29) hx hb d_Nu_isOne_22 (by decide) (fun c_4 => ?_) (fun c_4 => ?_)
      · replace h := ck_if_f h c_4
        refine lv_iconst (v := 0) hx hb d_Nu_isOne_29 (by decide) ?_
        obtain rfl := Option.some.inj h
        subst hQ
        exact W.zret (ty := .boolean) (v := 0) hx hb hr rfl (fun t ht hW => ⟨⟨0, (), rfl, rfl, by rw [ht]; exact hP, va_K.moved hW.alike hK, hD⟩, hS.F ht⟩) hS.2.2 d_Nu_isOne_30
      · replace h := ck_if_t h c_4
        refine lv_iconst (v := 1) hx hb d_Nu_isOne_25 (by decide) ?_
        refine lv_goto (tgt := 30) hx hb d_Nu_isOne_26 (by decide) ?_
        obtain rfl := Option.some.inj h
        subst hQ
        exact W.zret (ty := .boolean) (v := 1) hx hb hr rfl (fun t ht hW => ⟨⟨1, (), rfl, rfl, by rw [ht]; exact hP, va_K.moved hW.alike hK, hD⟩, hS.F ht⟩) hS.2.2 d_Nu_isOne_30
theorem d_Nu_sign_0 : decode prog_8_method_6_code 0 = .ok (.aload_n 0, 1) := by decide +kernel
theorem d_Nu_sign_1 : decode prog_8_method_6_code 1 = .ok (.getfield 13, 3) := by decide +kernel
theorem d_Nu_sign_4 : decode prog_8_method_6_code 4 = .ok (.ifCond .ne 7, 3) := by decide +kernel
theorem d_Nu_sign_7 : decode prog_8_method_6_code 7 = .ok (.iconst 0, 1) := by decide +kernel
theorem d_Nu_sign_8 : decode prog_8_method_6_code 8 = .ok (.goto 15, 3) := by decide +kernel
theorem d_Nu_sign_11 : decode prog_8_method_6_code 11 = .ok (.aload_n 0, 1) := by decide +kernel
theorem d_Nu_sign_12 : decode prog_8_method_6_code 12 = .ok (.getfield 17, 3) := by decide +kernel
theorem d_Nu_sign_15 : decode prog_8_method_6_code 15 = .ok (.ifCond .eq 7, 3) := by decide +kernel
theorem d_Nu_sign_18 : decode prog_8_method_6_code 18 = .ok (.iconst (-1), 1) := by decide +kernel
theorem d_Nu_sign_19 : decode prog_8_method_6_code 19 = .ok (.goto 4, 3) := by decide +kernel
theorem d_Nu_sign_22 : decode prog_8_method_6_code 22 = .ok (.iconst 1, 1) := by decide +kernel
theorem d_Nu_sign_23 : decode prog_8_method_6_code 23 = .ok (.ireturn, 1) := by decide +kernel
def f_N_sign (x_n : Int32) (x_minus : Int32) : Option (Int32) :=
  ck_if (x_n = 0) (some 0) (ck_if (x_minus = 0) (some 1) (some (-1)))
set_option maxHeartbeats 4000000 in
set_option maxRecDepth 100000 in
theorem c_N_sign (l : Launch) (dC : Nat → ClassId) (dI : Nat → Nat → Nat) (cI cJ cB cZ cT cN : ClassId) (sz : Nat) (h_x : Nat) (h_x_d : Nat) (x_n : Int32) (x_minus : Int32) (x_d_n : Nat) (x_d : Nat → Int32) (r : Int32) (h : f_N_sign x_n x_minus = some r) : Met l y_Nu_sign w_Nu_sign ({ frames := 0, cells := 0, slots := 0, locals := 0 } : Room) (va_Pc [.ref h_x] (fun U => U.heap.size = sz ∧ va_P (dC, dI) cl_all [(h_x, .inr (5, [.ref h_x_d, .int x_n, .int x_minus])), (h_x_d, .inl (cI, x_d_n, .inl x_d))] U.heap ∧ va_K (dC, dI) cl_all [(cI, .int), (cJ, .long), (cB, .byte), (cZ, .boolean), (cT, .object "BasisWalk$Table"), (cN, .object "BasisWalkModel$Num")] U ∧ NW U ∧ va_D (fun _ => True) [(h_x, .inr (5, [.ref h_x_d, .int x_n, .int x_minus])), (h_x_d, .inl (cI, x_d_n, .inl x_d))])) (va_Qi (fun (v : Int32) (_ : Unit) => v = r) (fun (u : Unit) (t : State) => va_P (dC, dI) cl_all [(h_x, .inr (5, [.ref h_x_d, .int x_n, .int x_minus])), (h_x_d, .inl (cI, x_d_n, .inl x_d))] t.heap ∧ va_K (dC, dI) cl_all [(cI, .int), (cJ, .long), (cB, .byte), (cZ, .boolean), (cT, .object "BasisWalk$Table"), (cN, .object "BasisWalkModel$Num")] t ∧ va_D (va_A [(h_x, .inr (5, [.ref h_x_d, .int x_n, .int x_minus])), (h_x_d, .inl (cI, x_d_n, .inl x_d))] sz) [(h_x, .inr (5, [.ref h_x_d, .int x_n, .int x_minus])), (h_x_d, .inl (cI, x_d_n, .inl x_d))]) (va_A [(h_x, .inr (5, [.ref h_x_d, .int x_n, .int x_minus])), (h_x_d, .inl (cI, x_d_n, .inl x_d))] sz)) 0 0 (va_A [(h_x, .inr (5, [.ref h_x_d, .int x_n, .int x_minus])), (h_x_d, .inl (cI, x_d_n, .inl x_d))] sz) := by
  refine Met.ofW (cc := prog_8_method_6_code) (maxL := 1) (ret := (Option.some Jvm.ClassFile.FieldType.int)) (by decide) rfl ?_
  intro p e s m args below meth c s₁ B hml hv
  obtain ⟨hAR, hsz, hP, hK, hN, hD0⟩ := hv
  have hx := B.exec
  have hb := B.bytes
  have hr := B.returns
  have hts := atoms_spec (ws := w_Nu_sign) B.pre
  have hown : s.vm.findClass "BasisWalkModel$Num" = some m.cls := findClass_of_methodNamed B.named
  have hlocks := B.notSynchronized
  clear B
  subst hsz
  have hD := hD0.self (sz := s.heap.size)
  generalize hAe : va_A [(h_x, .inr (5, [.ref h_x_d, .int x_n, .int x_minus])), (h_x_d, .inl (cI, x_d_n, .inl x_d))] s.heap.size = A at hD ⊢
  have hA : ∀ q : Nat, s.heap.size ≤ q → A q := fun q h => by rw [← hAe]; exact Or.inr h
  clear hAe hD0
  have hS : va_S A s.heap s.heap [] := va_S.rf
  have hl := lv_entry ([.ref h_x]) (n := 1) (Nat.le_of_ble_eq_true rfl)
  subst hAR
  rw [lg_entry_eq]
  generalize (lg_sl ([.ref h_x]) ++ List.replicate (1 - (lg_sl ([.ref h_x])).length) Slot.unset).toArray = ls at hl ⊢
  have hl : lv_has ls 1 [(0, .ref h_x)] := hl
  change W p l e ({ frames := 0, cells := 0, slots := 0, locals := 0 } : Room) s m _ below meth c s.heap [] 0 0 _ _
  generalize hARe : ([.ref h_x] : List Value).toArray = AR at hts ⊢
  clear hARe
  generalize hQ : MQ below _ AR s 0 0 A = QQ
  have fl0 := hts _ (List.mem_cons_of_mem _ tw_340)
  have iw1 := (fun w hw => List.mem_cons_of_mem _ (in_Nu w hw) : ∀ w ∈ u_ws "BasisWalkModel$Num" T_Nu 3, w ∈ w_Nu_sign)
  have fl2 := hts _ (List.mem_cons_of_mem _ tw_342)
  obtain ⟨H, hHe⟩ : ∃ H : Heap, H = s.heap := ⟨_, rfl⟩
  rw [← hHe] at hP ⊢
  replace hS : va_S A s.heap H [] := by rw [hHe]; exact va_S.rf
  clear hHe
  unfold f_N_sign at h
  refine lv_aload_n hx hb d_Nu_sign_0 rfl (lv_at hl 0 rfl) ?_
  refine va_get (D := (dC, dI)) (ci := 5) (v := .int x_n) (C := "BasisWalkModel$Num") (T := T_Nu) (N := 3) hx hb hts iw1 hown hK hP 0 rfl rfl 1 (by decide) fl0 (fun _ h9 => h9) rfl d_Nu_sign_1 ?_
  refine lv_if_ne (tgt := 11) hx hb d_Nu_sign_4 (by decide) (fun c_1 => ?_) (fun c_1 => ?_)
  · replace h := ck_if_f h c_1
    refine lv_aload_n hx hb d_Nu_sign_11 rfl (lv_at hl 0 rfl) ?_
    refine va_get (D := (dC, dI)) (ci := 5) (v := .int x_minus) (C := "BasisWalkModel$Num") (T := T_Nu) (N := 3) hx hb hts iw1 hown hK hP 0 rfl rfl 2 (by decide) fl2 (fun _ h9 => h9) rfl d_Nu_sign_12 ?_
    refine lv_if_eq (tgt := 22) hx hb d_Nu_sign_15 (by decide) (fun c_2 => ?_) (fun c_2 => ?_)
    · replace h := ck_if_t h c_2
      refine lv_iconst (v := 1) hx hb d_Nu_sign_22 (by decide) ?_
      obtain rfl := Option.some.inj h
      subst hQ
      exact W.iret (v := 1) hx hb hr (fun t ht hW => ⟨⟨1, (), rfl, rfl, by rw [ht]; exact hP, va_K.moved hW.alike hK, hD⟩, hS.F ht⟩) hS.2.2 d_Nu_sign_23
    · replace h := ck_if_f h c_2
      refine lv_iconst (v := (-1)) hx hb d_Nu_sign_18 (by decide) ?_
      refine lv_goto (tgt := 23) hx hb d_Nu_sign_19 (by decide) ?_
      obtain rfl := Option.some.inj h
      subst hQ
      exact W.iret (v := (-1)) hx hb hr (fun t ht hW => ⟨⟨(-1), (), rfl, rfl, by rw [ht]; exact hP, va_K.moved hW.alike hK, hD⟩, hS.F ht⟩) hS.2.2 d_Nu_sign_23
  · replace h := ck_if_t h c_1
    refine lv_iconst (v := 0) hx hb d_Nu_sign_7 (by decide) ?_
    refine lv_goto (tgt := 23) hx hb d_Nu_sign_8 (by decide) ?_
    obtain rfl := Option.some.inj h
    subst hQ
    exact W.iret (v := 0) hx hb hr (fun t ht hW => ⟨⟨0, (), rfl, rfl, by rw [ht]; exact hP, va_K.moved hW.alike hK, hD⟩, hS.F ht⟩) hS.2.2 d_Nu_sign_23
theorem d_Nu_turn_0 : decode prog_8_method_7_code 0 = .ok (.aload_n 0, 1) := by decide +kernel
theorem d_Nu_turn_1 : decode prog_8_method_7_code 1 = .ok (.aload_n 0, 1) := by decide +kernel
theorem d_Nu_turn_2 : decode prog_8_method_7_code 2 = .ok (.getfield 13, 3) := by decide +kernel
theorem d_Nu_turn_5 : decode prog_8_method_7_code 5 = .ok (.ifCond .le 14, 3) := by decide +kernel
theorem d_Nu_turn_8 : decode prog_8_method_7_code 8 = .ok (.aload_n 0, 1) := by decide +kernel
theorem d_Nu_turn_9 : decode prog_8_method_7_code 9 = .ok (.getfield 17, 3) := by decide +kernel
theorem d_Nu_turn_12 : decode prog_8_method_7_code 12 = .ok (.ifCond .ne 7, 3) := by decide +kernel
theorem d_Nu_turn_15 : decode prog_8_method_7_code 15 = .ok (.iconst 1, 1) := by decide +kernel
theorem d_Nu_turn_16 : decode prog_8_method_7_code 16 = .ok (.goto 4, 3) := by decide +kernel
theorem d_Nu_turn_19 : decode prog_8_method_7_code 19 = .ok (.iconst 0, 1) := by decide +kernel
theorem d_Nu_turn_20 : decode prog_8_method_7_code 20 = .ok (.putfield 17, 3) := by decide +kernel
theorem d_Nu_turn_23 : decode prog_8_method_7_code 23 = .ok (.return_, 1) := by decide +kernel
def f_N_turn (x_n : Int32) (x_minus : Int32) : Option (Int32) :=
  ck_if (x_n ≤ 0) (some 0) (ck_if (x_minus = 0) (some 1) (some 0))
set_option maxHeartbeats 4000000 in
set_option maxRecDepth 100000 in
theorem c_N_turn (l : Launch) (dC : Nat → ClassId) (dI : Nat → Nat → Nat) (cI cJ cB cZ cT cN : ClassId) (sz : Nat) (h_x : Nat) (h_x_d : Nat) (x_n : Int32) (x_minus : Int32) (x_d_n : Nat) (x_d : Nat → Int32) (r : Int32) (h : f_N_turn x_n x_minus = some r) : Met l y_Nu_turn w_Nu_turn ({ frames := 0, cells := 0, slots := 0, locals := 0 } : Room) (va_Pc [.ref h_x] (fun U => U.heap.size = sz ∧ va_P (dC, dI) cl_all [(h_x, .inr (5, [.ref h_x_d, .int x_n, .int x_minus])), (h_x_d, .inl (cI, x_d_n, .inl x_d))] U.heap ∧ va_K (dC, dI) cl_all [(cI, .int), (cJ, .long), (cB, .byte), (cZ, .boolean), (cT, .object "BasisWalk$Table"), (cN, .object "BasisWalkModel$Num")] U ∧ NW U ∧ va_D (fun _ => True) [(h_x, .inr (5, [.ref h_x_d, .int x_n, .int x_minus])), (h_x_d, .inl (cI, x_d_n, .inl x_d))])) (va_Qv (fun u : Int32 => u = r) (fun (u : Int32) (t : State) => va_P (dC, dI) cl_all [(h_x, .inr (5, [.ref h_x_d, .int x_n, .int u])), (h_x_d, .inl (cI, x_d_n, .inl x_d))] t.heap ∧ va_K (dC, dI) cl_all [(cI, .int), (cJ, .long), (cB, .byte), (cZ, .boolean), (cT, .object "BasisWalk$Table"), (cN, .object "BasisWalkModel$Num")] t ∧ va_D (va_A [(h_x, .inr (5, [.ref h_x_d, .int x_n, .int x_minus])), (h_x_d, .inl (cI, x_d_n, .inl x_d))] sz) [(h_x, .inr (5, [.ref h_x_d, .int x_n, .int u])), (h_x_d, .inl (cI, x_d_n, .inl x_d))]) (va_A [(h_x, .inr (5, [.ref h_x_d, .int x_n, .int x_minus])), (h_x_d, .inl (cI, x_d_n, .inl x_d))] sz)) 0 0 (va_A [(h_x, .inr (5, [.ref h_x_d, .int x_n, .int x_minus])), (h_x_d, .inl (cI, x_d_n, .inl x_d))] sz) := by
  refine Met.ofW (cc := prog_8_method_7_code) (maxL := 1) (ret := (Option.none : Option Jvm.ClassFile.FieldType)) (by decide) rfl ?_
  intro p e s m args below meth c s₁ B hml hv
  obtain ⟨hAR, hsz, hP, hK, hN, hD0⟩ := hv
  have hx := B.exec
  have hb := B.bytes
  have hr := B.returns
  have hts := atoms_spec (ws := w_Nu_turn) B.pre
  have hown : s.vm.findClass "BasisWalkModel$Num" = some m.cls := findClass_of_methodNamed B.named
  have hlocks := B.notSynchronized
  clear B
  subst hsz
  have hD := hD0.self (sz := s.heap.size)
  generalize hAe : va_A [(h_x, .inr (5, [.ref h_x_d, .int x_n, .int x_minus])), (h_x_d, .inl (cI, x_d_n, .inl x_d))] s.heap.size = A at hD ⊢
  have hA : ∀ q : Nat, s.heap.size ≤ q → A q := fun q h => by rw [← hAe]; exact Or.inr h
  clear hAe hD0
  have hS : va_S A s.heap s.heap [] := va_S.rf
  have hl := lv_entry ([.ref h_x]) (n := 1) (Nat.le_of_ble_eq_true rfl)
  subst hAR
  rw [lg_entry_eq]
  generalize (lg_sl ([.ref h_x]) ++ List.replicate (1 - (lg_sl ([.ref h_x])).length) Slot.unset).toArray = ls at hl ⊢
  have hl : lv_has ls 1 [(0, .ref h_x)] := hl
  change W p l e ({ frames := 0, cells := 0, slots := 0, locals := 0 } : Room) s m _ below meth c s.heap [] 0 0 _ _
  generalize hARe : ([.ref h_x] : List Value).toArray = AR at hts ⊢
  clear hARe
  generalize hQ : MQ below _ AR s 0 0 A = QQ
  have fl0 := hts _ (List.mem_cons_of_mem _ tw_340)
  have iw1 := (fun w hw => List.mem_cons_of_mem _ (in_Nu w hw) : ∀ w ∈ u_ws "BasisWalkModel$Num" T_Nu 3, w ∈ w_Nu_turn)
  have fl2 := hts _ (List.mem_cons_of_mem _ tw_342)
  obtain ⟨H, hHe⟩ : ∃ H : Heap, H = s.heap := ⟨_, rfl⟩
  rw [← hHe] at hP ⊢
  replace hS : va_S A s.heap H [] := by rw [hHe]; exact va_S.rf
  clear hHe
  unfold f_N_turn at h
  refine lv_aload_n hx hb d_Nu_turn_0 rfl (lv_at hl 0 rfl) ?_
  refine lv_aload_n hx hb d_Nu_turn_1 rfl (lv_at hl 0 rfl) ?_
  refine va_get (D := (dC, dI)) (ci := 5) (v := .int x_n) (C := "BasisWalkModel$Num") (T := T_Nu) (N := 3) hx hb hts iw1 hown hK hP 0 rfl rfl 1 (by decide) fl0 (fun _ h9 => h9) rfl d_Nu_turn_2 ?_
  refine lv_if_le (tgt := 19) hx hb d_Nu_turn_5 (by decide) (fun c_1 => ?_) (fun c_1 => ?_)
  · replace h := ck_if_t h c_1
    refine lv_iconst (v := 0) hx hb d_Nu_turn_19 (by decide) ?_
    refine va_put (D := (dC, dI)) (ci := 5) (v := .int 0) (ty := .boolean) (C := "BasisWalkModel$Num") (T := T_Nu) (N := 3) hx hb hts iw1 ty_Nu tyok_Nu nm_Nu hown hK hP hD hS 0 rfl rfl 2 (by decide) fl2 (fun _ h9 => h9) rfl (by decide +kernel) rfl rfl (Nat.le_of_ble_eq_true rfl) d_Nu_turn_20 (fun H locs hP hD hS => ?_)
    have hP : va_P (dC, dI) cl_all [(h_x, .inr (5, [.ref h_x_d, .int x_n, .int 0])), (h_x_d, .inl (cI, x_d_n, .inl x_d))] H := hP
    have hD : va_D A [(h_x, .inr (5, [.ref h_x_d, .int x_n, .int 0])), (h_x_d, .inl (cI, x_d_n, .inl x_d))] := hD
    obtain rfl := Option.some.inj h
    subst hQ
    exact W.vret hx hb hr (fun t ht hW => ⟨⟨0, rfl, rfl, by rw [ht]; exact hP, va_K.moved hW.alike hK, hD⟩, hS.F ht⟩) hS.2.2 d_Nu_turn_23
  · replace h := ck_if_f h c_1
    refine lv_aload_n hx hb d_Nu_turn_8 rfl (lv_at hl 0 rfl) ?_
    refine va_get (D := (dC, dI)) (ci := 5) (v := .int x_minus) (C := "BasisWalkModel$Num") (T := T_Nu) (N := 3) hx hb hts iw1 hown hK hP 0 rfl rfl 2 (by decide) fl2 (fun _ h9 => h9) rfl d_Nu_turn_9 ?_
    refine lv_if_ne (tgt := 19) hx hb d_Nu_turn_12 (by decide) (fun c_2 => ?_) (fun c_2 => ?_)
    · replace h := ck_if_f h c_2
      refine lv_iconst (v := 0) hx hb d_Nu_turn_19 (by decide) ?_
      refine va_put (D := (dC, dI)) (ci := 5) (v := .int 0) (ty := .boolean) (C := "BasisWalkModel$Num") (T := T_Nu) (N := 3) hx hb hts iw1 ty_Nu tyok_Nu nm_Nu hown hK hP hD hS 0 rfl rfl 2 (by decide) fl2 (fun _ h9 => h9) rfl (by decide +kernel) rfl rfl (Nat.le_of_ble_eq_true rfl) d_Nu_turn_20 (fun H locs hP hD hS => ?_)
      have hP : va_P (dC, dI) cl_all [(h_x, .inr (5, [.ref h_x_d, .int x_n, .int 0])), (h_x_d, .inl (cI, x_d_n, .inl x_d))] H := hP
      have hD : va_D A [(h_x, .inr (5, [.ref h_x_d, .int x_n, .int 0])), (h_x_d, .inl (cI, x_d_n, .inl x_d))] := hD
      obtain rfl := Option.some.inj h
      subst hQ
      exact W.vret hx hb hr (fun t ht hW => ⟨⟨0, rfl, rfl, by rw [ht]; exact hP, va_K.moved hW.alike hK, hD⟩, hS.F ht⟩) hS.2.2 d_Nu_turn_23
    · replace h := ck_if_t h c_2
      refine lv_iconst (v := 1) hx hb d_Nu_turn_15 (by decide) ?_
      refine lv_goto (tgt := 20) hx hb d_Nu_turn_16 (by decide) ?_
      refine va_put (D := (dC, dI)) (ci := 5) (v := .int 1) (ty := .boolean) (C := "BasisWalkModel$Num") (T := T_Nu) (N := 3) hx hb hts iw1 ty_Nu tyok_Nu nm_Nu hown hK hP hD hS 0 rfl rfl 2 (by decide) fl2 (fun _ h9 => h9) rfl (by decide +kernel) rfl rfl (Nat.le_of_ble_eq_true rfl) d_Nu_turn_20 (fun H locs hP hD hS => ?_)
      have hP : va_P (dC, dI) cl_all [(h_x, .inr (5, [.ref h_x_d, .int x_n, .int 1])), (h_x_d, .inl (cI, x_d_n, .inl x_d))] H := hP
      have hD : va_D A [(h_x, .inr (5, [.ref h_x_d, .int x_n, .int 1])), (h_x_d, .inl (cI, x_d_n, .inl x_d))] := hD
      obtain rfl := Option.some.inj h
      subst hQ
      exact W.vret hx hb hr (fun t ht hW => ⟨⟨1, rfl, rfl, by rw [ht]; exact hP, va_K.moved hW.alike hK, hD⟩, hS.F ht⟩) hS.2.2 d_Nu_turn_23
theorem d_Nu_trim_0 : decode prog_8_method_8_code 0 = .ok (.aload_n 0, 1) := by decide +kernel
theorem d_Nu_trim_1 : decode prog_8_method_8_code 1 = .ok (.getfield 13, 3) := by decide +kernel
theorem d_Nu_trim_4 : decode prog_8_method_8_code 4 = .ok (.ifCond .le 30, 3) := by decide +kernel
theorem d_Nu_trim_7 : decode prog_8_method_8_code 7 = .ok (.aload_n 0, 1) := by decide +kernel
theorem d_Nu_trim_8 : decode prog_8_method_8_code 8 = .ok (.getfield 7, 3) := by decide +kernel
theorem d_Nu_trim_11 : decode prog_8_method_8_code 11 = .ok (.aload_n 0, 1) := by decide +kernel
theorem d_Nu_trim_12 : decode prog_8_method_8_code 12 = .ok (.getfield 13, 3) := by decide +kernel
theorem d_Nu_trim_15 : decode prog_8_method_8_code 15 = .ok (.iconst 1, 1) := by decide +kernel
theorem d_Nu_trim_16 : decode prog_8_method_8_code 16 = .ok (.isub, 1) := by decide +kernel
theorem d_Nu_trim_17 : decode prog_8_method_8_code 17 = .ok (.iaload, 1) := by decide +kernel
theorem d_Nu_trim_18 : decode prog_8_method_8_code 18 = .ok (.ifCond .ne 16, 3) := by decide +kernel
theorem d_Nu_trim_21 : decode prog_8_method_8_code 21 = .ok (.aload_n 0, 1) := by decide +kernel
theorem d_Nu_trim_22 : decode prog_8_method_8_code 22 = .ok (.dup, 1) := by decide +kernel
theorem d_Nu_trim_23 : decode prog_8_method_8_code 23 = .ok (.getfield 13, 3) := by decide +kernel
theorem d_Nu_trim_26 : decode prog_8_method_8_code 26 = .ok (.iconst 1, 1) := by decide +kernel
theorem d_Nu_trim_27 : decode prog_8_method_8_code 27 = .ok (.isub, 1) := by decide +kernel
theorem d_Nu_trim_28 : decode prog_8_method_8_code 28 = .ok (.putfield 13, 3) := by decide +kernel
theorem d_Nu_trim_31 : decode prog_8_method_8_code 31 = .ok (.goto (-31), 3) := by decide +kernel
theorem d_Nu_trim_34 : decode prog_8_method_8_code 34 = .ok (.aload_n 0, 1) := by decide +kernel
theorem d_Nu_trim_35 : decode prog_8_method_8_code 35 = .ok (.aload_n 0, 1) := by decide +kernel
theorem d_Nu_trim_36 : decode prog_8_method_8_code 36 = .ok (.getfield 17, 3) := by decide +kernel
theorem d_Nu_trim_39 : decode prog_8_method_8_code 39 = .ok (.ifCond .eq 14, 3) := by decide +kernel
theorem d_Nu_trim_42 : decode prog_8_method_8_code 42 = .ok (.aload_n 0, 1) := by decide +kernel
theorem d_Nu_trim_43 : decode prog_8_method_8_code 43 = .ok (.getfield 13, 3) := by decide +kernel
theorem d_Nu_trim_46 : decode prog_8_method_8_code 46 = .ok (.ifCond .le 7, 3) := by decide +kernel
theorem d_Nu_trim_49 : decode prog_8_method_8_code 49 = .ok (.iconst 1, 1) := by decide +kernel
theorem d_Nu_trim_50 : decode prog_8_method_8_code 50 = .ok (.goto 4, 3) := by decide +kernel
theorem d_Nu_trim_53 : decode prog_8_method_8_code 53 = .ok (.iconst 0, 1) := by decide +kernel
theorem d_Nu_trim_54 : decode prog_8_method_8_code 54 = .ok (.putfield 17, 3) := by decide +kernel
theorem d_Nu_trim_57 : decode prog_8_method_8_code 57 = .ok (.return_, 1) := by decide +kernel
def f_N_trim (x_n : Int32) (x_minus : Int32) (x_d_n : Nat) (x_d : Nat → Int32) : Option (Int32 × Int32) :=
  ck_jn (fun (w_1 : Int32) => ck_if (x_minus = 0) (some (w_1, 0)) (ck_if (w_1 ≤ 0) (some (w_1, 0)) (some (w_1, 1)))) <| fun k_34 => lo1 (fun k_0 (w_4 : Int32) => ck_if (w_4 ≤ 0) (k_34 w_4) (ck_in (w_4 - 1) x_d_n <| ck_if ((x_d (w_4 - 1).toNatClampNeg) = 0) (k_0 (w_4 - 1)) (k_34 w_4))) ck_F x_n
set_option maxHeartbeats 4000000 in
set_option maxRecDepth 100000 in
theorem c_N_trim (l : Launch) (dC : Nat → ClassId) (dI : Nat → Nat → Nat) (cI cJ cB cZ cT cN : ClassId) (sz : Nat) (h_x : Nat) (h_x_d : Nat) (x_n : Int32) (x_minus : Int32) (x_d_n : Nat) (x_d : Nat → Int32) (r : Int32 × Int32) (h : f_N_trim x_n x_minus x_d_n x_d = some r) : Met l y_Nu_trim w_Nu_trim ({ frames := 0, cells := 0, slots := 0, locals := 0 } : Room) (va_Pc [.ref h_x] (fun U => U.heap.size = sz ∧ va_P (dC, dI) cl_all [(h_x, .inr (5, [.ref h_x_d, .int x_n, .int x_minus])), (h_x_d, .inl (cI, x_d_n, .inl x_d))] U.heap ∧ va_K (dC, dI) cl_all [(cI, .int), (cJ, .long), (cB, .byte), (cZ, .boolean), (cT, .object "BasisWalk$Table"), (cN, .object "BasisWalkModel$Num")] U ∧ NW U ∧ va_D (fun _ => True) [(h_x, .inr (5, [.ref h_x_d, .int x_n, .int x_minus])), (h_x_d, .inl (cI, x_d_n, .inl x_d))])) (va_Qv (fun u : Int32 × Int32 => u = r) (fun (u : Int32 × Int32) (t : State) => va_P (dC, dI) cl_all [(h_x, .inr (5, [.ref h_x_d, .int u.1, .int u.2])), (h_x_d, .inl (cI, x_d_n, .inl x_d))] t.heap ∧ va_K (dC, dI) cl_all [(cI, .int), (cJ, .long), (cB, .byte), (cZ, .boolean), (cT, .object "BasisWalk$Table"), (cN, .object "BasisWalkModel$Num")] t ∧ va_D (va_A [(h_x, .inr (5, [.ref h_x_d, .int x_n, .int x_minus])), (h_x_d, .inl (cI, x_d_n, .inl x_d))] sz) [(h_x, .inr (5, [.ref h_x_d, .int u.1, .int u.2])), (h_x_d, .inl (cI, x_d_n, .inl x_d))]) (va_A [(h_x, .inr (5, [.ref h_x_d, .int x_n, .int x_minus])), (h_x_d, .inl (cI, x_d_n, .inl x_d))] sz)) 0 0 (va_A [(h_x, .inr (5, [.ref h_x_d, .int x_n, .int x_minus])), (h_x_d, .inl (cI, x_d_n, .inl x_d))] sz) := by
  refine Met.ofW (cc := prog_8_method_8_code) (maxL := 1) (ret := (Option.none : Option Jvm.ClassFile.FieldType)) (by decide) rfl ?_
  intro p e s m args below meth c s₁ B hml hv
  obtain ⟨hAR, hsz, hP, hK, hN, hD0⟩ := hv
  have hx := B.exec
  have hb := B.bytes
  have hr := B.returns
  have hts := atoms_spec (ws := w_Nu_trim) B.pre
  have hown : s.vm.findClass "BasisWalkModel$Num" = some m.cls := findClass_of_methodNamed B.named
  have hlocks := B.notSynchronized
  clear B
  subst hsz
  have hD := hD0.self (sz := s.heap.size)
  generalize hAe : va_A [(h_x, .inr (5, [.ref h_x_d, .int x_n, .int x_minus])), (h_x_d, .inl (cI, x_d_n, .inl x_d))] s.heap.size = A at hD ⊢
  have hA : ∀ q : Nat, s.heap.size ≤ q → A q := fun q h => by rw [← hAe]; exact Or.inr h
  clear hAe hD0
  have hS : va_S A s.heap s.heap [] := va_S.rf
  have hl := lv_entry ([.ref h_x]) (n := 1) (Nat.le_of_ble_eq_true rfl)
  subst hAR
  rw [lg_entry_eq]
  generalize (lg_sl ([.ref h_x]) ++ List.replicate (1 - (lg_sl ([.ref h_x])).length) Slot.unset).toArray = ls at hl ⊢
  have hl : lv_has ls 1 [(0, .ref h_x)] := hl
  change W p l e ({ frames := 0, cells := 0, slots := 0, locals := 0 } : Room) s m _ below meth c s.heap [] 0 0 _ _
  generalize hARe : ([.ref h_x] : List Value).toArray = AR at hts ⊢
  clear hARe
  generalize hQ : MQ below _ AR s 0 0 A = QQ
  have fl0 := hts _ (List.mem_cons_of_mem _ tw_342)
  have iw1 := (fun w hw => List.mem_cons_of_mem _ (in_Nu w hw) : ∀ w ∈ u_ws "BasisWalkModel$Num" T_Nu 3, w ∈ w_Nu_trim)
  have fl2 := hts _ (List.mem_cons_of_mem _ tw_340)
  have fl3 := hts _ (List.mem_cons_of_mem _ tw_338)
  obtain ⟨H, hHe⟩ : ∃ H : Heap, H = s.heap := ⟨_, rfl⟩
  rw [← hHe] at hP ⊢
  replace hS : va_S A s.heap H [] := by rw [hHe]; exact va_S.rf
  clear hHe
  unfold f_N_trim at h
  refine ck_jn_W h (fun k' => ∀ (w_1 : Int32), k' w_1 = some r → ∀ (H : Heap) (locs : List Loc), va_P (dC, dI) cl_all [(h_x, .inr (5, [.ref h_x_d, .int w_1, .int x_minus])), (h_x_d, .inl (cI, x_d_n, .inl x_d))] H → va_D A [(h_x, .inr (5, [.ref h_x_d, .int w_1, .int x_minus])), (h_x_d, .inl (cI, x_d_n, .inl x_d))] → va_S A s.heap H locs → ∀ ls : Array Slot, lv_has ls 1 [(0, .ref h_x)] → W p l e ({ frames := 0, cells := 0, slots := 0, locals := 0 } : Room) s m AR below meth c H locs 0 0 QQ (F0 m 34 ls [])) ?_ ?_
  · intro w_1 h H locs hP hD hS ls hl
    refine lv_aload_n hx hb d_Nu_trim_34 rfl (lv_at hl 0 rfl) ?_
    refine lv_aload_n hx hb d_Nu_trim_35 rfl (lv_at hl 0 rfl) ?_
    refine va_get (D := (dC, dI)) (ci := 5) (v := .int x_minus) (C := "BasisWalkModel$Num") (T := T_Nu) (N := 3) hx hb hts iw1 hown hK hP 0 rfl rfl 2 (by decide) fl0 (fun _ h9 => h9) rfl d_Nu_trim_36 ?_
    refine lv_if_eq (tgt := 53) hx hb d_Nu_trim_39 (by decide) (fun c_2 => ?_) (fun c_2 => ?_)
    · replace h := ck_if_t h c_2
      refine lv_iconst (v := 0) hx hb d_Nu_trim_53 (by decide) ?_
      refine va_put (D := (dC, dI)) (ci := 5) (v := .int 0) (ty := .boolean) (C := "BasisWalkModel$Num") (T := T_Nu) (N := 3) hx hb hts iw1 ty_Nu tyok_Nu nm_Nu hown hK hP hD hS 0 rfl rfl 2 (by decide) fl0 (fun _ h9 => h9) rfl (by decide +kernel) rfl rfl (Nat.le_of_ble_eq_true rfl) d_Nu_trim_54 (fun H locs hP hD hS => ?_)
      have hP : va_P (dC, dI) cl_all [(h_x, .inr (5, [.ref h_x_d, .int w_1, .int 0])), (h_x_d, .inl (cI, x_d_n, .inl x_d))] H := hP
      have hD : va_D A [(h_x, .inr (5, [.ref h_x_d, .int w_1, .int 0])), (h_x_d, .inl (cI, x_d_n, .inl x_d))] := hD
      obtain rfl := Option.some.inj h
      subst hQ
      exact W.vret hx hb hr (fun t ht hW => ⟨⟨(w_1, 0), rfl, rfl, by rw [ht]; exact hP, va_K.moved hW.alike hK, hD⟩, hS.F ht⟩) hS.2.2 d_Nu_trim_57
    · replace h := ck_if_f h c_2
      refine lv_aload_n hx hb d_Nu_trim_42 rfl (lv_at hl 0 rfl) ?_
      refine va_get (D := (dC, dI)) (ci := 5) (v := .int w_1) (C := "BasisWalkModel$Num") (T := T_Nu) (N := 3) hx hb hts iw1 hown hK hP 0 rfl rfl 1 (by decide) fl2 (fun _ h9 => h9) rfl d_Nu_trim_43 ?_
      refine lv_if_le (tgt := 53) hx hb d_Nu_trim_46 (by decide) (fun c_3 => ?_) (fun c_3 => ?_)
      · replace h := ck_if_t h c_3
        refine lv_iconst (v := 0) hx hb d_Nu_trim_53 (by decide) ?_
        refine va_put (D := (dC, dI)) (ci := 5) (v := .int 0) (ty := .boolean) (C := "BasisWalkModel$Num") (T := T_Nu) (N := 3) hx hb hts iw1 ty_Nu tyok_Nu nm_Nu hown hK hP hD hS 0 rfl rfl 2 (by decide) fl0 (fun _ h9 => h9) rfl (by decide +kernel) rfl rfl (Nat.le_of_ble_eq_true rfl) d_Nu_trim_54 (fun H locs hP hD hS => ?_)
        have hP : va_P (dC, dI) cl_all [(h_x, .inr (5, [.ref h_x_d, .int w_1, .int 0])), (h_x_d, .inl (cI, x_d_n, .inl x_d))] H := hP
        have hD : va_D A [(h_x, .inr (5, [.ref h_x_d, .int w_1, .int 0])), (h_x_d, .inl (cI, x_d_n, .inl x_d))] := hD
        obtain rfl := Option.some.inj h
        subst hQ
        exact W.vret hx hb hr (fun t ht hW => ⟨⟨(w_1, 0), rfl, rfl, by rw [ht]; exact hP, va_K.moved hW.alike hK, hD⟩, hS.F ht⟩) hS.2.2 d_Nu_trim_57
      · replace h := ck_if_f h c_3
        refine lv_iconst (v := 1) hx hb d_Nu_trim_49 (by decide) ?_
        refine lv_goto (tgt := 54) hx hb d_Nu_trim_50 (by decide) ?_
        refine va_put (D := (dC, dI)) (ci := 5) (v := .int 1) (ty := .boolean) (C := "BasisWalkModel$Num") (T := T_Nu) (N := 3) hx hb hts iw1 ty_Nu tyok_Nu nm_Nu hown hK hP hD hS 0 rfl rfl 2 (by decide) fl0 (fun _ h9 => h9) rfl (by decide +kernel) rfl rfl (Nat.le_of_ble_eq_true rfl) d_Nu_trim_54 (fun H locs hP hD hS => ?_)
        have hP : va_P (dC, dI) cl_all [(h_x, .inr (5, [.ref h_x_d, .int w_1, .int 1])), (h_x_d, .inl (cI, x_d_n, .inl x_d))] H := hP
        have hD : va_D A [(h_x, .inr (5, [.ref h_x_d, .int w_1, .int 1])), (h_x_d, .inl (cI, x_d_n, .inl x_d))] := hD
        obtain rfl := Option.some.inj h
        subst hQ
        exact W.vret hx hb hr (fun t ht hW => ⟨⟨(w_1, 1), rfl, rfl, by rw [ht]; exact hP, va_K.moved hW.alike hK, hD⟩, hS.F ht⟩) hS.2.2 d_Nu_trim_57
  · intro k_34 J_34 h
    refine lo1_W (r := r) (fun (w_4 : Int32) => ∀ (H : Heap) (locs : List Loc), va_P (dC, dI) cl_all [(h_x, .inr (5, [.ref h_x_d, .int w_4, .int x_minus])), (h_x_d, .inl (cI, x_d_n, .inl x_d))] H → va_D A [(h_x, .inr (5, [.ref h_x_d, .int w_4, .int x_minus])), (h_x_d, .inl (cI, x_d_n, .inl x_d))] → va_S A s.heap H locs → ∀ ls : Array Slot, lv_has ls 1 [(0, .ref h_x)] → W p l e ({ frames := 0, cells := 0, slots := 0, locals := 0 } : Room) s m AR below meth c H locs 0 0 QQ (F0 m 0 ls [])) ?_ _ _ h _ _ hP hD hS _ (lv_sub hl [0] rfl)
    intro k_0 w_4 J_0 h H locs hP hD hS ls hl
    refine lv_aload_n hx hb d_Nu_trim_0 rfl (lv_at hl 0 rfl) ?_
    refine va_get (D := (dC, dI)) (ci := 5) (v := .int w_4) (C := "BasisWalkModel$Num") (T := T_Nu) (N := 3) hx hb hts iw1 hown hK hP 0 rfl rfl 1 (by decide) fl2 (fun _ h9 => h9) rfl d_Nu_trim_1 ?_
    refine lv_if_le (tgt := 34) hx hb d_Nu_trim_4 (by decide) (fun c_5 => ?_) (fun c_5 => ?_)
    · replace h := ck_if_t h c_5
      exact J_34 _ h _ _ hP hD hS _ (lv_sub hl [0] rfl)
    · replace h := ck_if_f h c_5
      refine lv_aload_n hx hb d_Nu_trim_7 rfl (lv_at hl 0 rfl) ?_
      refine va_get (D := (dC, dI)) (ci := 5) (v := .ref h_x_d) (C := "BasisWalkModel$Num") (T := T_Nu) (N := 3) hx hb hts iw1 hown hK hP 0 rfl rfl 0 (by decide) fl3 (fun _ h9 => h9) rfl d_Nu_trim_8 ?_
      refine lv_aload_n hx hb d_Nu_trim_11 rfl (lv_at hl 0 rfl) ?_
      refine va_get (D := (dC, dI)) (ci := 5) (v := .int w_4) (C := "BasisWalkModel$Num") (T := T_Nu) (N := 3) hx hb hts iw1 hown hK hP 0 rfl rfl 1 (by decide) fl2 (fun _ h9 => h9) rfl d_Nu_trim_12 ?_
      refine lv_iconst (v := 1) hx hb d_Nu_trim_15 (by decide) ?_
      refine lv_isub hx hb d_Nu_trim_16 ?_
      obtain ⟨g_6, h⟩ := ck_in_s h
      refine va_iald hx hb hK hP 1 0 rfl rfl g_6 d_Nu_trim_17 ?_
      refine lv_if_ne (tgt := 34) hx hb d_Nu_trim_18 (by decide) (fun c_7 => ?_) (fun c_7 => ?_)
      · replace h := ck_if_f h c_7
        exact J_34 _ h _ _ hP hD hS _ (lv_sub hl [0] rfl)
      · replace h := ck_if_t h c_7
        refine lv_aload_n hx hb d_Nu_trim_21 rfl (lv_at hl 0 rfl) ?_
        refine lv_dup hx hb d_Nu_trim_22 rfl ?_
        refine va_get (D := (dC, dI)) (ci := 5) (v := .int w_4) (C := "BasisWalkModel$Num") (T := T_Nu) (N := 3) hx hb hts iw1 hown hK hP 0 rfl rfl 1 (by decide) fl2 (fun _ h9 => h9) rfl d_Nu_trim_23 ?_
        refine lv_iconst (v := 1) hx hb d_Nu_trim_26 (by decide) ?_
        refine lv_isub hx hb d_Nu_trim_27 ?_
        refine va_put (D := (dC, dI)) (ci := 5) (v := .int (w_4 - 1)) (ty := .int) (C := "BasisWalkModel$Num") (T := T_Nu) (N := 3) hx hb hts iw1 ty_Nu tyok_Nu nm_Nu hown hK hP hD hS 0 rfl rfl 1 (by decide) fl2 (fun _ h9 => h9) rfl (by decide +kernel) rfl rfl (Nat.le_of_ble_eq_true rfl) d_Nu_trim_28 (fun H locs hP hD hS => ?_)
        have hP : va_P (dC, dI) cl_all [(h_x, .inr (5, [.ref h_x_d, .int (w_4 - 1), .int x_minus])), (h_x_d, .inl (cI, x_d_n, .inl x_d))] H := hP
        have hD : va_D A [(h_x, .inr (5, [.ref h_x_d, .int (w_4 - 1), .int x_minus])), (h_x_d, .inl (cI, x_d_n, .inl x_d))] := hD
        refine lv_goto (tgt := 0) hx hb d_Nu_trim_31 (by decide) ?_
        exact J_0 _ h _ _ hP hD hS _ (lv_sub hl [0] rfl)
theorem d_Nu_compareSize_0 : decode prog_8_method_9_code 0 = .ok (.aload_n 0, 1) := by decide +kernel
theorem d_Nu_compareSize_1 : decode prog_8_method_9_code 1 = .ok (.getfield 13, 3) := by decide +kernel
theorem d_Nu_compareSize_4 : decode prog_8_method_9_code 4 = .ok (.aload_n 1, 1) := by decide +kernel
theorem d_Nu_compareSize_5 : decode prog_8_method_9_code 5 = .ok (.getfield 13, 3) := by decide +kernel
theorem d_Nu_compareSize_8 : decode prog_8_method_9_code 8 = .ok (.if_icmp .eq 20, 3) := by decide +kernel
theorem d_Nu_compareSize_11 : decode prog_8_method_9_code 11 = .ok (.aload_n 0, 1) := by decide +kernel
theorem d_Nu_compareSize_12 : decode prog_8_method_9_code 12 = .ok (.getfield 13, 3) := by decide +kernel
theorem d_Nu_compareSize_15 : decode prog_8_method_9_code 15 = .ok (.aload_n 1, 1) := by decide +kernel
theorem d_Nu_compareSize_16 : decode prog_8_method_9_code 16 = .ok (.getfield 13, 3) := by decide +kernel
theorem d_Nu_compareSize_19 : decode prog_8_method_9_code 19 = .ok (.if_icmp .ge 7, 3) := by decide +kernel
theorem d_Nu_compareSize_22 : decode prog_8_method_9_code 22 = .ok (.iconst (-1), 1) := by decide +kernel
theorem d_Nu_compareSize_23 : decode prog_8_method_9_code 23 = .ok (.goto 4, 3) := by decide +kernel
theorem d_Nu_compareSize_26 : decode prog_8_method_9_code 26 = .ok (.iconst 1, 1) := by decide +kernel
theorem d_Nu_compareSize_27 : decode prog_8_method_9_code 27 = .ok (.ireturn, 1) := by decide +kernel
theorem d_Nu_compareSize_28 : decode prog_8_method_9_code 28 = .ok (.aload_n 0, 1) := by decide +kernel
theorem d_Nu_compareSize_29 : decode prog_8_method_9_code 29 = .ok (.getfield 13, 3) := by decide +kernel
theorem d_Nu_compareSize_32 : decode prog_8_method_9_code 32 = .ok (.iconst 1, 1) := by decide +kernel
theorem d_Nu_compareSize_33 : decode prog_8_method_9_code 33 = .ok (.isub, 1) := by decide +kernel
theorem d_Nu_compareSize_34 : decode prog_8_method_9_code 34 = .ok (.istore_n 2, 1) := by decide +kernel
theorem d_Nu_compareSize_35 : decode prog_8_method_9_code 35 = .ok (.iload_n 2, 1) := by decide +kernel
theorem d_Nu_compareSize_36 : decode prog_8_method_9_code 36 = .ok (.ifCond .lt 24, 3) := by decide +kernel
theorem d_Nu_compareSize_39 : decode prog_8_method_9_code 39 = .ok (.aload_n 0, 1) := by decide +kernel
theorem d_Nu_compareSize_40 : decode prog_8_method_9_code 40 = .ok (.getfield 7, 3) := by decide +kernel
theorem d_Nu_compareSize_43 : decode prog_8_method_9_code 43 = .ok (.iload_n 2, 1) := by decide +kernel
theorem d_Nu_compareSize_44 : decode prog_8_method_9_code 44 = .ok (.iaload, 1) := by decide +kernel
theorem d_Nu_compareSize_45 : decode prog_8_method_9_code 45 = .ok (.aload_n 1, 1) := by decide +kernel
theorem d_Nu_compareSize_46 : decode prog_8_method_9_code 46 = .ok (.getfield 7, 3) := by decide +kernel
theorem d_Nu_compareSize_49 : decode prog_8_method_9_code 49 = .ok (.iload_n 2, 1) := by decide +kernel
theorem d_Nu_compareSize_50 : decode prog_8_method_9_code 50 = .ok (.iaload, 1) := by decide +kernel
theorem d_Nu_compareSize_51 : decode prog_8_method_9_code 51 = .ok (.if_icmp .ne 9, 3) := by decide +kernel
theorem d_Nu_compareSize_54 : decode prog_8_method_9_code 54 = .ok (.iinc 2 (-1), 3) := by decide +kernel
theorem d_Nu_compareSize_57 : decode prog_8_method_9_code 57 = .ok (.goto (-22), 3) := by decide +kernel
theorem d_Nu_compareSize_60 : decode prog_8_method_9_code 60 = .ok (.iload_n 2, 1) := by decide +kernel
theorem d_Nu_compareSize_61 : decode prog_8_method_9_code 61 = .ok (.ifCond .ge 7, 3) := by decide +kernel
theorem d_Nu_compareSize_64 : decode prog_8_method_9_code 64 = .ok (.iconst 0, 1) := by decide +kernel
theorem d_Nu_compareSize_65 : decode prog_8_method_9_code 65 = .ok (.goto 23, 3) := by decide +kernel
theorem d_Nu_compareSize_68 : decode prog_8_method_9_code 68 = .ok (.aload_n 0, 1) := by decide +kernel
theorem d_Nu_compareSize_69 : decode prog_8_method_9_code 69 = .ok (.getfield 7, 3) := by decide +kernel
theorem d_Nu_compareSize_72 : decode prog_8_method_9_code 72 = .ok (.iload_n 2, 1) := by decide +kernel
theorem d_Nu_compareSize_73 : decode prog_8_method_9_code 73 = .ok (.iaload, 1) := by decide +kernel
theorem d_Nu_compareSize_74 : decode prog_8_method_9_code 74 = .ok (.aload_n 1, 1) := by decide +kernel
theorem d_Nu_compareSize_75 : decode prog_8_method_9_code 75 = .ok (.getfield 7, 3) := by decide +kernel
theorem d_Nu_compareSize_78 : decode prog_8_method_9_code 78 = .ok (.iload_n 2, 1) := by decide +kernel
theorem d_Nu_compareSize_79 : decode prog_8_method_9_code 79 = .ok (.iaload, 1) := by decide +kernel
theorem d_Nu_compareSize_80 : decode prog_8_method_9_code 80 = .ok (.if_icmp .ge 7, 3) := by decide +kernel
theorem d_Nu_compareSize_83 : decode prog_8_method_9_code 83 = .ok (.iconst (-1), 1) := by decide +kernel
theorem d_Nu_compareSize_84 : decode prog_8_method_9_code 84 = .ok (.goto 4, 3) := by decide +kernel
theorem d_Nu_compareSize_87 : decode prog_8_method_9_code 87 = .ok (.iconst 1, 1) := by decide +kernel
theorem d_Nu_compareSize_88 : decode prog_8_method_9_code 88 = .ok (.ireturn, 1) := by decide +kernel
def f_N_compareSize (x_n : Int32) (x_d_n : Nat) (x_d : Nat → Int32) (o_n : Int32) (o_d_n : Nat) (o_d : Nat → Int32) : Option (Int32) :=
  ck_if (x_n = o_n) (ck_nm (x_n - 1) <| fun x_2 => ck_jn (fun (v2_3 : Int32) => ck_if (0 ≤ v2_3) (ck_in v2_3 x_d_n <| ck_in v2_3 o_d_n <| ck_if ((o_d v2_3.toNatClampNeg) ≤ (x_d v2_3.toNatClampNeg)) (some 1) (some (-1))) (some 0)) <| fun k_60 => lo1 (fun k_35 (v2_8 : Int32) => ck_if (v2_8 < 0) (k_60 v2_8) (ck_in v2_8 x_d_n <| ck_in v2_8 o_d_n <| ck_if ((x_d v2_8.toNatClampNeg) = (o_d v2_8.toNatClampNeg)) (ck_nm (v2_8 + (-1)) <| fun x_13 => k_35 x_13) (k_60 v2_8))) ck_F x_2) (ck_if (o_n ≤ x_n) (some 1) (some (-1)))
set_option maxHeartbeats 4000000 in
set_option maxRecDepth 100000 in
theorem c_N_compareSize (l : Launch) (dC : Nat → ClassId) (dI : Nat → Nat → Nat) (cI cJ cB cZ cT cN : ClassId) (sz : Nat) (h_x : Nat) (h_o : Nat) (h_x_d : Nat) (h_o_d : Nat) (x_n : Int32) (x_minus : Int32) (x_d_n : Nat) (x_d : Nat → Int32) (o_n : Int32) (o_minus : Int32) (o_d_n : Nat) (o_d : Nat → Int32) (r : Int32) (h : f_N_compareSize x_n x_d_n x_d o_n o_d_n o_d = some r) : Met l y_Nu_compareSize w_Nu_compareSize ({ frames := 0, cells := 0, slots := 0, locals := 0 } : Room) (va_Pc [.ref h_x, .ref h_o] (fun U => U.heap.size = sz ∧ va_P (dC, dI) cl_all [(h_x, .inr (5, [.ref h_x_d, .int x_n, .int x_minus])), (h_x_d, .inl (cI, x_d_n, .inl x_d)), (h_o, .inr (5, [.ref h_o_d, .int o_n, .int o_minus])), (h_o_d, .inl (cI, o_d_n, .inl o_d))] U.heap ∧ va_K (dC, dI) cl_all [(cI, .int), (cJ, .long), (cB, .byte), (cZ, .boolean), (cT, .object "BasisWalk$Table"), (cN, .object "BasisWalkModel$Num")] U ∧ NW U ∧ va_D (fun _ => True) [(h_x, .inr (5, [.ref h_x_d, .int x_n, .int x_minus])), (h_x_d, .inl (cI, x_d_n, .inl x_d)), (h_o, .inr (5, [.ref h_o_d, .int o_n, .int o_minus])), (h_o_d, .inl (cI, o_d_n, .inl o_d))])) (va_Qi (fun (v : Int32) (_ : Unit) => v = r) (fun (u : Unit) (t : State) => va_P (dC, dI) cl_all [(h_x, .inr (5, [.ref h_x_d, .int x_n, .int x_minus])), (h_x_d, .inl (cI, x_d_n, .inl x_d)), (h_o, .inr (5, [.ref h_o_d, .int o_n, .int o_minus])), (h_o_d, .inl (cI, o_d_n, .inl o_d))] t.heap ∧ va_K (dC, dI) cl_all [(cI, .int), (cJ, .long), (cB, .byte), (cZ, .boolean), (cT, .object "BasisWalk$Table"), (cN, .object "BasisWalkModel$Num")] t ∧ va_D (va_A [(h_x, .inr (5, [.ref h_x_d, .int x_n, .int x_minus])), (h_x_d, .inl (cI, x_d_n, .inl x_d)), (h_o, .inr (5, [.ref h_o_d, .int o_n, .int o_minus])), (h_o_d, .inl (cI, o_d_n, .inl o_d))] sz) [(h_x, .inr (5, [.ref h_x_d, .int x_n, .int x_minus])), (h_x_d, .inl (cI, x_d_n, .inl x_d)), (h_o, .inr (5, [.ref h_o_d, .int o_n, .int o_minus])), (h_o_d, .inl (cI, o_d_n, .inl o_d))]) (va_A [(h_x, .inr (5, [.ref h_x_d, .int x_n, .int x_minus])), (h_x_d, .inl (cI, x_d_n, .inl x_d)), (h_o, .inr (5, [.ref h_o_d, .int o_n, .int o_minus])), (h_o_d, .inl (cI, o_d_n, .inl o_d))] sz)) 0 0 (va_A [(h_x, .inr (5, [.ref h_x_d, .int x_n, .int x_minus])), (h_x_d, .inl (cI, x_d_n, .inl x_d)), (h_o, .inr (5, [.ref h_o_d, .int o_n, .int o_minus])), (h_o_d, .inl (cI, o_d_n, .inl o_d))] sz) := by
  refine Met.ofW (cc := prog_8_method_9_code) (maxL := 3) (ret := (Option.some Jvm.ClassFile.FieldType.int)) (by decide) rfl ?_
  intro p e s m args below meth c s₁ B hml hv
  obtain ⟨hAR, hsz, hP, hK, hN, hD0⟩ := hv
  have hx := B.exec
  have hb := B.bytes
  have hr := B.returns
  have hts := atoms_spec (ws := w_Nu_compareSize) B.pre
  have hown : s.vm.findClass "BasisWalkModel$Num" = some m.cls := findClass_of_methodNamed B.named
  have hlocks := B.notSynchronized
  clear B
  subst hsz
  have hD := hD0.self (sz := s.heap.size)
  generalize hAe : va_A [(h_x, .inr (5, [.ref h_x_d, .int x_n, .int x_minus])), (h_x_d, .inl (cI, x_d_n, .inl x_d)), (h_o, .inr (5, [.ref h_o_d, .int o_n, .int o_minus])), (h_o_d, .inl (cI, o_d_n, .inl o_d))] s.heap.size = A at hD ⊢
  have hA : ∀ q : Nat, s.heap.size ≤ q → A q := fun q h => by rw [← hAe]; exact Or.inr h
  clear hAe hD0
  have hS : va_S A s.heap s.heap [] := va_S.rf
  have hl := lv_entry ([.ref h_x, .ref h_o]) (n := 3) (Nat.le_of_ble_eq_true rfl)
  subst hAR
  rw [lg_entry_eq]
  generalize (lg_sl ([.ref h_x, .ref h_o]) ++ List.replicate (3 - (lg_sl ([.ref h_x, .ref h_o])).length) Slot.unset).toArray = ls at hl ⊢
  have hl : lv_has ls 3 [(0, .ref h_x), (1, .ref h_o)] := hl
  change W p l e ({ frames := 0, cells := 0, slots := 0, locals := 0 } : Room) s m _ below meth c s.heap [] 0 0 _ _
  generalize hARe : ([.ref h_x, .ref h_o] : List Value).toArray = AR at hts ⊢
  clear hARe
  generalize hQ : MQ below _ AR s 0 0 A = QQ
  have fl0 := hts _ (List.mem_cons_of_mem _ tw_340)
  have iw1 := (fun w hw => List.mem_cons_of_mem _ (in_Nu w hw) : ∀ w ∈ u_ws "BasisWalkModel$Num" T_Nu 3, w ∈ w_Nu_compareSize)
  have fl2 := hts _ (List.mem_cons_of_mem _ tw_338)
  obtain ⟨H, hHe⟩ : ∃ H : Heap, H = s.heap := ⟨_, rfl⟩
  rw [← hHe] at hP ⊢
  replace hS : va_S A s.heap H [] := by rw [hHe]; exact va_S.rf
  clear hHe
  unfold f_N_compareSize at h
  refine lv_aload_n hx hb d_Nu_compareSize_0 rfl (lv_at hl 0 rfl) ?_
  refine va_get (D := (dC, dI)) (ci := 5) (v := .int x_n) (C := "BasisWalkModel$Num") (T := T_Nu) (N := 3) hx hb hts iw1 hown hK hP 0 rfl rfl 1 (by decide) fl0 (fun _ h9 => h9) rfl d_Nu_compareSize_1 ?_
  refine lv_aload_n hx hb d_Nu_compareSize_4 rfl (lv_at hl 1 rfl) ?_
  refine va_get (D := (dC, dI)) (ci := 5) (v := .int o_n) (C := "BasisWalkModel$Num") (T := T_Nu) (N := 3) hx hb hts iw1 hown hK hP 2 rfl rfl 1 (by decide) fl0 (fun _ h9 => h9) rfl d_Nu_compareSize_5 ?_
  refine lv_icmp_eq (tgt := 28) hx hb d_Nu_compareSize_8 (by decide) (fun c_1 => ?_) (fun c_1 => ?_)
  · replace h := ck_if_t h c_1
    refine lv_aload_n hx hb d_Nu_compareSize_28 rfl (lv_at hl 0 rfl) ?_
    refine va_get (D := (dC, dI)) (ci := 5) (v := .int x_n) (C := "BasisWalkModel$Num") (T := T_Nu) (N := 3) hx hb hts iw1 hown hK hP 0 rfl rfl 1 (by decide) fl0 (fun _ h9 => h9) rfl d_Nu_compareSize_29 ?_
    refine lv_iconst (v := 1) hx hb d_Nu_compareSize_32 (by decide) ?_
    refine lv_isub hx hb d_Nu_compareSize_33 ?_
    refine lv_topi (fun x_2 ex_2 => ?_)
    replace h := ck_nm_s h ex_2
    refine lv_istore_n (lv' := [(2, .int x_2), (0, .ref h_x), (1, .ref h_o)]) hx hb d_Nu_compareSize_34 rfl hl (by decide) rfl (fun ls hl => ?_)
    refine ck_jn_W h (fun k' => ∀ (v2_3 : Int32), k' v2_3 = some r → ∀ (H : Heap) (locs : List Loc), va_P (dC, dI) cl_all [(h_x, .inr (5, [.ref h_x_d, .int x_n, .int x_minus])), (h_x_d, .inl (cI, x_d_n, .inl x_d)), (h_o, .inr (5, [.ref h_o_d, .int o_n, .int o_minus])), (h_o_d, .inl (cI, o_d_n, .inl o_d))] H → va_D A [(h_x, .inr (5, [.ref h_x_d, .int x_n, .int x_minus])), (h_x_d, .inl (cI, x_d_n, .inl x_d)), (h_o, .inr (5, [.ref h_o_d, .int o_n, .int o_minus])), (h_o_d, .inl (cI, o_d_n, .inl o_d))] → va_S A s.heap H locs → ∀ ls : Array Slot, lv_has ls 3 [(0, .ref h_x), (1, .ref h_o), (2, .int v2_3)] → W p l e ({ frames := 0, cells := 0, slots := 0, locals := 0 } : Room) s m AR below meth c H locs 0 0 QQ (F0 m 60 ls [])) ?_ ?_
    · intro v2_3 h H locs hP hD hS ls hl
      refine lv_iload_n hx hb d_Nu_compareSize_60 rfl (lv_at hl 2 rfl) ?_
      refine lv_if_ge (tgt := 68) hx hb d_Nu_compareSize_61 (by decide) (fun c_4 => ?_) (fun c_4 => ?_)
      · replace h := ck_if_t h c_4
        refine lv_aload_n hx hb d_Nu_compareSize_68 rfl (lv_at hl 0 rfl) ?_
        refine va_get (D := (dC, dI)) (ci := 5) (v := .ref h_x_d) (C := "BasisWalkModel$Num") (T := T_Nu) (N := 3) hx hb hts iw1 hown hK hP 0 rfl rfl 0 (by decide) fl2 (fun _ h9 => h9) rfl d_Nu_compareSize_69 ?_
        refine lv_iload_n hx hb d_Nu_compareSize_72 rfl (lv_at hl 2 rfl) ?_
        obtain ⟨g_5, h⟩ := ck_in_s h
        refine va_iald hx hb hK hP 1 0 rfl rfl g_5 d_Nu_compareSize_73 ?_
        refine lv_aload_n hx hb d_Nu_compareSize_74 rfl (lv_at hl 1 rfl) ?_
        refine va_get (D := (dC, dI)) (ci := 5) (v := .ref h_o_d) (C := "BasisWalkModel$Num") (T := T_Nu) (N := 3) hx hb hts iw1 hown hK hP 2 rfl rfl 0 (by decide) fl2 (fun _ h9 => h9) rfl d_Nu_compareSize_75 ?_
        refine lv_iload_n hx hb d_Nu_compareSize_78 rfl (lv_at hl 2 rfl) ?_
        obtain ⟨g_6, h⟩ := ck_in_s h
        refine va_iald hx hb hK hP 3 0 rfl rfl g_6 d_Nu_compareSize_79 ?_
        refine lv_icmp_ge (tgt := 87) hx hb d_Nu_compareSize_80 (by decide) (fun c_7 => ?_) (fun c_7 => ?_)
        · replace h := ck_if_t h c_7
          refine lv_iconst (v := 1) hx hb d_Nu_compareSize_87 (by decide) ?_
          obtain rfl := Option.some.inj h
          subst hQ
          exact W.iret (v := 1) hx hb hr (fun t ht hW => ⟨⟨1, (), rfl, rfl, by rw [ht]; exact hP, va_K.moved hW.alike hK, hD⟩, hS.F ht⟩) hS.2.2 d_Nu_compareSize_88
        · replace h := ck_if_f h c_7
          refine lv_iconst (v := (-1)) hx hb d_Nu_compareSize_83 (by decide) ?_
          refine lv_goto (tgt := 88) hx hb d_Nu_compareSize_84 (by decide) ?_
          obtain rfl := Option.some.inj h
          subst hQ
          exact W.iret (v := (-1)) hx hb hr (fun t ht hW => ⟨⟨(-1), (), rfl, rfl, by rw [ht]; exact hP, va_K.moved hW.alike hK, hD⟩, hS.F ht⟩) hS.2.2 d_Nu_compareSize_88
      · replace h := ck_if_f h c_4
        refine lv_iconst (v := 0) hx hb d_Nu_compareSize_64 (by decide) ?_
        refine lv_goto (tgt := 88) hx hb d_Nu_compareSize_65 (by decide) ?_
        obtain rfl := Option.some.inj h
        subst hQ
        exact W.iret (v := 0) hx hb hr (fun t ht hW => ⟨⟨0, (), rfl, rfl, by rw [ht]; exact hP, va_K.moved hW.alike hK, hD⟩, hS.F ht⟩) hS.2.2 d_Nu_compareSize_88
    · intro k_60 J_60 h
      refine lo1_W (r := r) (fun (v2_8 : Int32) => ∀ (H : Heap) (locs : List Loc), va_P (dC, dI) cl_all [(h_x, .inr (5, [.ref h_x_d, .int x_n, .int x_minus])), (h_x_d, .inl (cI, x_d_n, .inl x_d)), (h_o, .inr (5, [.ref h_o_d, .int o_n, .int o_minus])), (h_o_d, .inl (cI, o_d_n, .inl o_d))] H → va_D A [(h_x, .inr (5, [.ref h_x_d, .int x_n, .int x_minus])), (h_x_d, .inl (cI, x_d_n, .inl x_d)), (h_o, .inr (5, [.ref h_o_d, .int o_n, .int o_minus])), (h_o_d, .inl (cI, o_d_n, .inl o_d))] → va_S A s.heap H locs → ∀ ls : Array Slot, lv_has ls 3 [(0, .ref h_x), (1, .ref h_o), (2, .int v2_8)] → W p l e ({ frames := 0, cells := 0, slots := 0, locals := 0 } : Room) s m AR below meth c H locs 0 0 QQ (F0 m 35 ls [])) ?_ _ _ h _ _ hP hD hS _ (lv_sub hl [1, 2, 0] rfl)
      intro k_35 v2_8 J_35 h H locs hP hD hS ls hl
      refine lv_iload_n hx hb d_Nu_compareSize_35 rfl (lv_at hl 2 rfl) ?_
      refine lv_if_lt (tgt := 60) hx hb d_Nu_compareSize_36 (by decide) (fun c_9 => ?_) (fun c_9 => ?_)
      · replace h := ck_if_t h c_9
        exact J_60 _ h _ _ hP hD hS _ (lv_sub hl [0, 1, 2] rfl)
      · replace h := ck_if_f h c_9
        refine lv_aload_n hx hb d_Nu_compareSize_39 rfl (lv_at hl 0 rfl) ?_
        refine va_get (D := (dC, dI)) (ci := 5) (v := .ref h_x_d) (C := "BasisWalkModel$Num") (T := T_Nu) (N := 3) hx hb hts iw1 hown hK hP 0 rfl rfl 0 (by decide) fl2 (fun _ h9 => h9) rfl d_Nu_compareSize_40 ?_
        refine lv_iload_n hx hb d_Nu_compareSize_43 rfl (lv_at hl 2 rfl) ?_
        obtain ⟨g_10, h⟩ := ck_in_s h
        refine va_iald hx hb hK hP 1 0 rfl rfl g_10 d_Nu_compareSize_44 ?_
        refine lv_aload_n hx hb d_Nu_compareSize_45 rfl (lv_at hl 1 rfl) ?_
        refine va_get (D := (dC, dI)) (ci := 5) (v := .ref h_o_d) (C := "BasisWalkModel$Num") (T := T_Nu) (N := 3) hx hb hts iw1 hown hK hP 2 rfl rfl 0 (by decide) fl2 (fun _ h9 => h9) rfl d_Nu_compareSize_46 ?_
        refine lv_iload_n hx hb d_Nu_compareSize_49 rfl (lv_at hl 2 rfl) ?_
        obtain ⟨g_11, h⟩ := ck_in_s h
        refine va_iald hx hb hK hP 3 0 rfl rfl g_11 d_Nu_compareSize_50 ?_
        refine lv_icmp_ne (tgt := 60) hx hb d_Nu_compareSize_51 (by decide) (fun c_12 => ?_) (fun c_12 => ?_)
        · replace h := ck_if_f h c_12
          exact J_60 _ h _ _ hP hD hS _ (lv_sub hl [0, 1, 2] rfl)
        · replace h := ck_if_t h c_12
          obtain ⟨x_13, ex_13⟩ : ∃ y : Int32, y = v2_8 + (-1) := ⟨_, rfl⟩
          replace h := ck_nm_s h ex_13
          refine lv_iinc (v := x_13) (lv' := [(2, .int x_13), (0, .ref h_x), (1, .ref h_o)]) hx hb d_Nu_compareSize_54 hl (k := 2) rfl (by rw [ex_13]; rfl) (by decide) rfl (fun ls hl => ?_)
          refine lv_goto (tgt := 35) hx hb d_Nu_compareSize_57 (by decide) ?_
          exact J_35 _ h _ _ hP hD hS _ (lv_sub hl [1, 2, 0] rfl)
  · replace h := ck_if_f h c_1
    refine lv_aload_n hx hb d_Nu_compareSize_11 rfl (lv_at hl 0 rfl) ?_
    refine va_get (D := (dC, dI)) (ci := 5) (v := .int x_n) (C := "BasisWalkModel$Num") (T := T_Nu) (N := 3) hx hb hts iw1 hown hK hP 0 rfl rfl 1 (by decide) fl0 (fun _ h9 => h9) rfl d_Nu_compareSize_12 ?_
    refine lv_aload_n hx hb d_Nu_compareSize_15 rfl (lv_at hl 1 rfl) ?_
    refine va_get (D := (dC, dI)) (ci := 5) (v := .int o_n) (C := "BasisWalkModel$Num") (T := T_Nu) (N := 3) hx hb hts iw1 hown hK hP 2 rfl rfl 1 (by decide) fl0 (fun _ h9 => h9) rfl d_Nu_compareSize_16 ?_
    refine lv_icmp_ge (tgt := 26) hx hb d_Nu_compareSize_19 (by decide) (fun c_14 => ?_) (fun c_14 => ?_)
    · replace h := ck_if_t h c_14
      refine lv_iconst (v := 1) hx hb d_Nu_compareSize_26 (by decide) ?_
      obtain rfl := Option.some.inj h
      subst hQ
      exact W.iret (v := 1) hx hb hr (fun t ht hW => ⟨⟨1, (), rfl, rfl, by rw [ht]; exact hP, va_K.moved hW.alike hK, hD⟩, hS.F ht⟩) hS.2.2 d_Nu_compareSize_27
    · replace h := ck_if_f h c_14
      refine lv_iconst (v := (-1)) hx hb d_Nu_compareSize_22 (by decide) ?_
      refine lv_goto (tgt := 27) hx hb d_Nu_compareSize_23 (by decide) ?_
      obtain rfl := Option.some.inj h
      subst hQ
      exact W.iret (v := (-1)) hx hb hr (fun t ht hW => ⟨⟨(-1), (), rfl, rfl, by rw [ht]; exact hP, va_K.moved hW.alike hK, hD⟩, hS.F ht⟩) hS.2.2 d_Nu_compareSize_27
