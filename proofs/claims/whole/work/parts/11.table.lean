theorem d_Ta_clear_0 : decode prog_5_method_2_code 0 = .ok (.aload_n 0, 1) := by decide +kernel
theorem d_Ta_clear_1 : decode prog_5_method_2_code 1 = .ok (.iload_n 1, 1) := by decide +kernel
theorem d_Ta_clear_2 : decode prog_5_method_2_code 2 = .ok (.putfield 22, 3) := by decide +kernel
theorem d_Ta_clear_5 : decode prog_5_method_2_code 5 = .ok (.aload_n 0, 1) := by decide +kernel
theorem d_Ta_clear_6 : decode prog_5_method_2_code 6 = .ok (.iload_n 2, 1) := by decide +kernel
theorem d_Ta_clear_7 : decode prog_5_method_2_code 7 = .ok (.putfield 26, 3) := by decide +kernel
theorem d_Ta_clear_10 : decode prog_5_method_2_code 10 = .ok (.aload_n 0, 1) := by decide +kernel
theorem d_Ta_clear_11 : decode prog_5_method_2_code 11 = .ok (.iload_n 3, 1) := by decide +kernel
theorem d_Ta_clear_12 : decode prog_5_method_2_code 12 = .ok (.putfield 29, 3) := by decide +kernel
theorem d_Ta_clear_15 : decode prog_5_method_2_code 15 = .ok (.aload_n 0, 1) := by decide +kernel
theorem d_Ta_clear_16 : decode prog_5_method_2_code 16 = .ok (.getfield 9, 3) := by decide +kernel
theorem d_Ta_clear_19 : decode prog_5_method_2_code 19 = .ok (.iconst 0, 1) := by decide +kernel
theorem d_Ta_clear_20 : decode prog_5_method_2_code 20 = .ok (.invokestatic 32, 3) := by decide +kernel
theorem d_Ta_clear_23 : decode prog_5_method_2_code 23 = .ok (.aload_n 0, 1) := by decide +kernel
theorem d_Ta_clear_24 : decode prog_5_method_2_code 24 = .ok (.iconst 0, 1) := by decide +kernel
theorem d_Ta_clear_25 : decode prog_5_method_2_code 25 = .ok (.putfield 38, 3) := by decide +kernel
theorem d_Ta_clear_28 : decode prog_5_method_2_code 28 = .ok (.return_, 1) := by decide +kernel
def f_T_clear (t_numbers_n : Nat) (t_numbers : Nat → Int32) (nf0 : Int32) (nr0 : Int32) (nc0 : Int32) : Option (Int32 × Int32 × Int32 × Int32 × (Nat → Int32)) :=
  ck_b1 (f_fillI t_numbers_n t_numbers 0) <| fun u_1 => some (nf0, nr0, nc0, 0, u_1)
set_option maxHeartbeats 4000000 in
set_option maxRecDepth 100000 in
theorem c_T_clear (l : Launch) (dC : Nat → ClassId) (dI : Nat → Nat → Nat) (cI cJ cB cZ cT cN : ClassId) (sz : Nat) (h_t : Nat) (h_t_numbers : Nat) (h_t_study : Nat) (t_field : Int32) (t_rowCount : Int32) (t_columnCount : Int32) (t_studied : Int32) (t_numbers_n : Nat) (t_numbers : Nat → Int32) (nf0 : Int32) (nr0 : Int32) (nc0 : Int32) (r : Int32 × Int32 × Int32 × Int32 × (Nat → Int32)) (h : f_T_clear t_numbers_n t_numbers nf0 nr0 nc0 = some r) : Met l y_Ta_clear w_Ta_clear ({ frames := 1, cells := 0, slots := 0, locals := 23 } : Room) (va_Pc [.ref h_t, .int nf0, .int nr0, .int nc0] (fun U => U.heap.size = sz ∧ va_P (dC, dI) cl_all [(h_t, .inr (3, [.int t_field, .int t_rowCount, .int t_columnCount, .ref h_t_numbers, .int t_studied, .ref h_t_study])), (h_t_numbers, .inl (cI, t_numbers_n, .inl t_numbers))] U.heap ∧ va_K (dC, dI) cl_all [(cI, .int), (cJ, .long), (cB, .byte), (cZ, .boolean), (cT, .object "BasisWalk$Table"), (cN, .object "BasisWalkModel$Num")] U ∧ NW U ∧ va_D (fun _ => True) [(h_t, .inr (3, [.int t_field, .int t_rowCount, .int t_columnCount, .ref h_t_numbers, .int t_studied, .ref h_t_study])), (h_t_numbers, .inl (cI, t_numbers_n, .inl t_numbers))])) (va_Qv (fun u : Int32 × Int32 × Int32 × Int32 × (Nat → Int32) => u = r) (fun (u : Int32 × Int32 × Int32 × Int32 × (Nat → Int32)) (t : State) => va_P (dC, dI) cl_all [(h_t, .inr (3, [.int u.1, .int u.2.1, .int u.2.2.1, .ref h_t_numbers, .int u.2.2.2.1, .ref h_t_study])), (h_t_numbers, .inl (cI, t_numbers_n, .inl u.2.2.2.2))] t.heap ∧ va_K (dC, dI) cl_all [(cI, .int), (cJ, .long), (cB, .byte), (cZ, .boolean), (cT, .object "BasisWalk$Table"), (cN, .object "BasisWalkModel$Num")] t ∧ va_D (va_A [(h_t, .inr (3, [.int t_field, .int t_rowCount, .int t_columnCount, .ref h_t_numbers, .int t_studied, .ref h_t_study])), (h_t_numbers, .inl (cI, t_numbers_n, .inl t_numbers))] sz) [(h_t, .inr (3, [.int u.1, .int u.2.1, .int u.2.2.1, .ref h_t_numbers, .int u.2.2.2.1, .ref h_t_study])), (h_t_numbers, .inl (cI, t_numbers_n, .inl u.2.2.2.2))]) (va_A [(h_t, .inr (3, [.int t_field, .int t_rowCount, .int t_columnCount, .ref h_t_numbers, .int t_studied, .ref h_t_study])), (h_t_numbers, .inl (cI, t_numbers_n, .inl t_numbers))] sz)) 0 0 (va_A [(h_t, .inr (3, [.int t_field, .int t_rowCount, .int t_columnCount, .ref h_t_numbers, .int t_studied, .ref h_t_study])), (h_t_numbers, .inl (cI, t_numbers_n, .inl t_numbers))] sz) := by
  refine Met.ofW (cc := prog_5_method_2_code) (maxL := 4) (ret := (Option.none : Option Jvm.ClassFile.FieldType)) (by decide) rfl ?_
  intro p e s m args below meth c s₁ B hml hv
  obtain ⟨hAR, hsz, hP, hK, hN, hD0⟩ := hv
  have hx := B.exec
  have hb := B.bytes
  have hr := B.returns
  have hts := atoms_spec (ws := w_Ta_clear) B.pre
  have hown : s.vm.findClass "BasisWalk$Table" = some m.cls := findClass_of_methodNamed B.named
  have hlocks := B.notSynchronized
  clear B
  subst hsz
  have hD := hD0.self (sz := s.heap.size)
  generalize hAe : va_A [(h_t, .inr (3, [.int t_field, .int t_rowCount, .int t_columnCount, .ref h_t_numbers, .int t_studied, .ref h_t_study])), (h_t_numbers, .inl (cI, t_numbers_n, .inl t_numbers))] s.heap.size = A at hD ⊢
  have hA : ∀ q : Nat, s.heap.size ≤ q → A q := fun q h => by rw [← hAe]; exact Or.inr h
  clear hAe hD0
  have hS : va_S A s.heap s.heap [] := va_S.rf
  have hl := lv_entry ([.ref h_t, .int nf0, .int nr0, .int nc0]) (n := 4) (Nat.le_of_ble_eq_true rfl)
  subst hAR
  rw [lg_entry_eq]
  generalize (lg_sl ([.ref h_t, .int nf0, .int nr0, .int nc0]) ++ List.replicate (4 - (lg_sl ([.ref h_t, .int nf0, .int nr0, .int nc0])).length) Slot.unset).toArray = ls at hl ⊢
  have hl : lv_has ls 4 [(0, .ref h_t), (1, .int nf0), (2, .int nr0), (3, .int nc0)] := hl
  change W p l e ({ frames := 1, cells := 0, slots := 0, locals := 23 } : Room) s m _ below meth c s.heap [] 0 0 _ _
  generalize hARe : ([.ref h_t, .int nf0, .int nr0, .int nc0] : List Value).toArray = AR at hts ⊢
  clear hARe
  generalize hQ : MQ below _ AR s 0 0 A = QQ
  have fl0 := hts _ (List.mem_cons_of_mem _ tw_58)
  have iw1 := (fun w hw => List.mem_cons_of_mem _ (in_Ta w hw) : ∀ w ∈ u_ws "BasisWalk$Table" T_Ta 6, w ∈ w_Ta_clear)
  have fl2 := hts _ (List.mem_cons_of_mem _ tw_61)
  have fl3 := hts _ (List.mem_cons_of_mem _ tw_64)
  have fl4 := hts _ (List.mem_cons_of_mem _ tw_67)
  have fl5 := hts _ (List.mem_cons_of_mem _ tw_69)
  obtain ⟨H, hHe⟩ : ∃ H : Heap, H = s.heap := ⟨_, rfl⟩
  rw [← hHe] at hP ⊢
  replace hS : va_S A s.heap H [] := by rw [hHe]; exact va_S.rf
  clear hHe
  unfold f_T_clear at h
  refine lv_aload_n hx hb d_Ta_clear_0 rfl (lv_at hl 0 rfl) ?_
  refine lv_iload_n hx hb d_Ta_clear_1 rfl (lv_at hl 1 rfl) ?_
  refine va_put (D := (dC, dI)) (ci := 3) (v := .int nf0) (ty := .int) (C := "BasisWalk$Table") (T := T_Ta) (N := 6) hx hb hts iw1 ty_Ta tyok_Ta nm_Ta hown hK hP hD hS 0 rfl rfl 0 (by decide) fl0 (fun _ h9 => h9) rfl (by decide +kernel) rfl rfl (Nat.le_of_ble_eq_true rfl) d_Ta_clear_2 (fun H locs hP hD hS => ?_)
  have hP : va_P (dC, dI) cl_all [(h_t, .inr (3, [.int nf0, .int t_rowCount, .int t_columnCount, .ref h_t_numbers, .int t_studied, .ref h_t_study])), (h_t_numbers, .inl (cI, t_numbers_n, .inl t_numbers))] H := hP
  have hD : va_D A [(h_t, .inr (3, [.int nf0, .int t_rowCount, .int t_columnCount, .ref h_t_numbers, .int t_studied, .ref h_t_study])), (h_t_numbers, .inl (cI, t_numbers_n, .inl t_numbers))] := hD
  refine lv_aload_n hx hb d_Ta_clear_5 rfl (lv_at hl 0 rfl) ?_
  refine lv_iload_n hx hb d_Ta_clear_6 rfl (lv_at hl 2 rfl) ?_
  refine va_put (D := (dC, dI)) (ci := 3) (v := .int nr0) (ty := .int) (C := "BasisWalk$Table") (T := T_Ta) (N := 6) hx hb hts iw1 ty_Ta tyok_Ta nm_Ta hown hK hP hD hS 0 rfl rfl 1 (by decide) fl2 (fun _ h9 => h9) rfl (by decide +kernel) rfl rfl (Nat.le_of_ble_eq_true rfl) d_Ta_clear_7 (fun H locs hP hD hS => ?_)
  have hP : va_P (dC, dI) cl_all [(h_t, .inr (3, [.int nf0, .int nr0, .int t_columnCount, .ref h_t_numbers, .int t_studied, .ref h_t_study])), (h_t_numbers, .inl (cI, t_numbers_n, .inl t_numbers))] H := hP
  have hD : va_D A [(h_t, .inr (3, [.int nf0, .int nr0, .int t_columnCount, .ref h_t_numbers, .int t_studied, .ref h_t_study])), (h_t_numbers, .inl (cI, t_numbers_n, .inl t_numbers))] := hD
  refine lv_aload_n hx hb d_Ta_clear_10 rfl (lv_at hl 0 rfl) ?_
  refine lv_iload_n hx hb d_Ta_clear_11 rfl (lv_at hl 3 rfl) ?_
  refine va_put (D := (dC, dI)) (ci := 3) (v := .int nc0) (ty := .int) (C := "BasisWalk$Table") (T := T_Ta) (N := 6) hx hb hts iw1 ty_Ta tyok_Ta nm_Ta hown hK hP hD hS 0 rfl rfl 2 (by decide) fl3 (fun _ h9 => h9) rfl (by decide +kernel) rfl rfl (Nat.le_of_ble_eq_true rfl) d_Ta_clear_12 (fun H locs hP hD hS => ?_)
  have hP : va_P (dC, dI) cl_all [(h_t, .inr (3, [.int nf0, .int nr0, .int nc0, .ref h_t_numbers, .int t_studied, .ref h_t_study])), (h_t_numbers, .inl (cI, t_numbers_n, .inl t_numbers))] H := hP
  have hD : va_D A [(h_t, .inr (3, [.int nf0, .int nr0, .int nc0, .ref h_t_numbers, .int t_studied, .ref h_t_study])), (h_t_numbers, .inl (cI, t_numbers_n, .inl t_numbers))] := hD
  refine lv_aload_n hx hb d_Ta_clear_15 rfl (lv_at hl 0 rfl) ?_
  refine va_get (D := (dC, dI)) (ci := 3) (v := .ref h_t_numbers) (C := "BasisWalk$Table") (T := T_Ta) (N := 6) hx hb hts iw1 hown hK hP 0 rfl rfl 3 (by decide) fl4 (fun _ h9 => h9) rfl d_Ta_clear_16 ?_
  refine lv_iconst (v := 0) hx hb d_Ta_clear_19 (by decide) ?_
  obtain ⟨u_1, hc_2, h⟩ := ck_b1_s h
  have hPc := hP.sub (ws' := [(h_t_numbers, .inl (cI, t_numbers_n, .inl t_numbers))]) [1] rfl
  have hDc := hD.sub (ws' := [(h_t_numbers, .inl (cI, t_numbers_n, .inl t_numbers))]) [1] (by decide) rfl
  have hFc := va_free (wc := [(h_t_numbers, .inl (cI, t_numbers_n, .inl t_numbers))]) hD hS hA [1] rfl
  refine va_callv (va_runS (As := [.ref h_t_numbers, .int 0]) (rest := []) ⟨hx, hb, hml, hown, hts⟩ (c_fillI l dC dI cI cJ cB cZ cT cN H.size h_t_numbers t_numbers_n t_numbers 0 _ hc_2) (va_cwS 2 hts (tb_S tw_154 tw_155 tw_8 tw_156) rfl rfl rfl (by decide +kernel) ⟨Nat.le_of_ble_eq_true rfl, Nat.le_of_ble_eq_true rfl⟩) ⟨fun a U g mk q => by obtain ⟨q0, q1, qP, qK, qN, qD⟩ := q; exact ⟨q0, q1, qP, va_K.moved (u := U) (U := U.calling g mk a) (Vm.Alike.refl U.vm) qK, qN.same rfl, qD⟩, fun U hU hW => ⟨rfl, by rw [hU], by rw [hU]; exact hPc, va_K.moved hW.alike hK, hN.warm hW, hDc.weaken (fun _ _ _ _ => trivial)⟩⟩ rfl rfl hl.1 rfl (lv_room (Nat.le_of_ble_eq_true rfl)) d_Ta_clear_20 ⟨Nat.zero_le _, Nat.zero_le _⟩) hS (fun q _ h => hFc q h) hFc (fun u t H1 locs ht hvm hw hB hz1 hk1 hS => ?_)
  replace hw := hw.symm
  subst hw
  obtain ⟨hP1, -, hD1⟩ := hB
  rw [ht] at hP1
  obtain ⟨hP, hD⟩ := va_join (wr := [(h_t, .inr (3, [.int nf0, .int nr0, .int nc0, .ref h_t_numbers, .int t_studied, .ref h_t_study]))]) (w1 := [(h_t_numbers, .inl (cI, t_numbers_n, .inl u_1))]) hP hD [1] [0] rfl rfl (by decide) (by decide) hk1 hFc hP1 hD1
  generalize H1 = H at hP hS ⊢
  have hP : va_P (dC, dI) cl_all [(h_t, .inr (3, [.int nf0, .int nr0, .int nc0, .ref h_t_numbers, .int t_studied, .ref h_t_study])), (h_t_numbers, .inl (cI, t_numbers_n, .inl u_1))] H := hP.sub [0, 1] rfl
  have hD : va_D A [(h_t, .inr (3, [.int nf0, .int nr0, .int nc0, .ref h_t_numbers, .int t_studied, .ref h_t_study])), (h_t_numbers, .inl (cI, t_numbers_n, .inl u_1))] := hD.sub [0, 1] (by decide) rfl
  refine lv_aload_n hx hb d_Ta_clear_23 rfl (lv_at hl 0 rfl) ?_
  refine lv_iconst (v := 0) hx hb d_Ta_clear_24 (by decide) ?_
  refine va_put (D := (dC, dI)) (ci := 3) (v := .int 0) (ty := .boolean) (C := "BasisWalk$Table") (T := T_Ta) (N := 6) hx hb hts iw1 ty_Ta tyok_Ta nm_Ta hown hK hP hD hS 0 rfl rfl 4 (by decide) fl5 (fun _ h9 => h9) rfl (by decide +kernel) rfl rfl (Nat.le_of_ble_eq_true rfl) d_Ta_clear_25 (fun H locs hP hD hS => ?_)
  have hP : va_P (dC, dI) cl_all [(h_t, .inr (3, [.int nf0, .int nr0, .int nc0, .ref h_t_numbers, .int 0, .ref h_t_study])), (h_t_numbers, .inl (cI, t_numbers_n, .inl u_1))] H := hP
  have hD : va_D A [(h_t, .inr (3, [.int nf0, .int nr0, .int nc0, .ref h_t_numbers, .int 0, .ref h_t_study])), (h_t_numbers, .inl (cI, t_numbers_n, .inl u_1))] := hD
  obtain rfl := Option.some.inj h
  subst hQ
  exact W.vret hx hb hr (fun t ht hW => ⟨⟨(nf0, nr0, nc0, 0, u_1), rfl, rfl, by rw [ht]; exact hP, va_K.moved hW.alike hK, hD⟩, hS.F ht⟩) hS.2.2 d_Ta_clear_28
theorem d_Ta_hasPlace_0 : decode prog_5_method_3_code 0 = .ok (.iload_n 1, 1) := by decide +kernel
theorem d_Ta_hasPlace_1 : decode prog_5_method_3_code 1 = .ok (.ifCond .lt 27, 3) := by decide +kernel
theorem d_Ta_hasPlace_4 : decode prog_5_method_3_code 4 = .ok (.iload_n 1, 1) := by decide +kernel
theorem d_Ta_hasPlace_5 : decode prog_5_method_3_code 5 = .ok (.aload_n 0, 1) := by decide +kernel
theorem d_Ta_hasPlace_6 : decode prog_5_method_3_code 6 = .ok (.getfield 26, 3) := by decide +kernel
theorem d_Ta_hasPlace_9 : decode prog_5_method_3_code 9 = .ok (.if_icmp .ge 19, 3) := by decide +kernel
theorem d_Ta_hasPlace_12 : decode prog_5_method_3_code 12 = .ok (.iload_n 2, 1) := by decide +kernel
theorem d_Ta_hasPlace_13 : decode prog_5_method_3_code 13 = .ok (.ifCond .lt 15, 3) := by decide +kernel
theorem d_Ta_hasPlace_16 : decode prog_5_method_3_code 16 = .ok (.iload_n 2, 1) := by decide +kernel
theorem d_Ta_hasPlace_17 : decode prog_5_method_3_code 17 = .ok (.aload_n 0, 1) := by decide +kernel
theorem d_Ta_hasPlace_18 : decode prog_5_method_3_code 18 = .ok (.getfield 29, 3) := by decide +kernel
theorem d_Ta_hasPlace_21 : decode prog_5_method_3_code 21 = .ok (.if_icmp .ge 7, 3) := by decide +kernel
theorem d_Ta_hasPlace_24 : decode prog_5_method_3_code 24 = .ok (.iconst 1, 1) := by decide +kernel
theorem d_Ta_hasPlace_25 : decode prog_5_method_3_code 25 = .ok (.goto 4, 3) := by decide +kernel
theorem d_Ta_hasPlace_28 : decode prog_5_method_3_code 28 = .ok (.iconst 0, 1) := by decide +kernel
theorem d_Ta_hasPlace_29 : decode prog_5_method_3_code 29 = .ok (.ireturn, 1) := by decide +kernel
def f_T_hasPlace (t_rowCount : Int32) (t_columnCount : Int32) (row0 : Int32) (col0 : Int32) : Option (Int32) :=
  ck_if (row0 < 0) (some 0) (ck_if (t_rowCount ≤ row0) (some 0) (ck_if (col0 < 0) (some 0) (ck_if (t_columnCount ≤ col0) (some 0) (some 1))))
set_option maxHeartbeats 4000000 in
set_option maxRecDepth 100000 in
theorem c_T_hasPlace (l : Launch) (dC : Nat → ClassId) (dI : Nat → Nat → Nat) (cI cJ cB cZ cT cN : ClassId) (sz : Nat) (h_t : Nat) (h_t_numbers : Nat) (h_t_study : Nat) (t_field : Int32) (t_rowCount : Int32) (t_columnCount : Int32) (t_studied : Int32) (row0 : Int32) (col0 : Int32) (r : Int32) (h : f_T_hasPlace t_rowCount t_columnCount row0 col0 = some r) : Met l y_Ta_hasPlace w_Ta_hasPlace ({ frames := 0, cells := 0, slots := 0, locals := 0 } : Room) (va_Pc [.ref h_t, .int row0, .int col0] (fun U => U.heap.size = sz ∧ va_P (dC, dI) cl_all [(h_t, .inr (3, [.int t_field, .int t_rowCount, .int t_columnCount, .ref h_t_numbers, .int t_studied, .ref h_t_study]))] U.heap ∧ va_K (dC, dI) cl_all [(cI, .int), (cJ, .long), (cB, .byte), (cZ, .boolean), (cT, .object "BasisWalk$Table"), (cN, .object "BasisWalkModel$Num")] U ∧ NW U ∧ va_D (fun _ => True) [(h_t, .inr (3, [.int t_field, .int t_rowCount, .int t_columnCount, .ref h_t_numbers, .int t_studied, .ref h_t_study]))])) (va_Qi (fun (v : Int32) (_ : Unit) => v = r) (fun (u : Unit) (t : State) => va_P (dC, dI) cl_all [(h_t, .inr (3, [.int t_field, .int t_rowCount, .int t_columnCount, .ref h_t_numbers, .int t_studied, .ref h_t_study]))] t.heap ∧ va_K (dC, dI) cl_all [(cI, .int), (cJ, .long), (cB, .byte), (cZ, .boolean), (cT, .object "BasisWalk$Table"), (cN, .object "BasisWalkModel$Num")] t ∧ va_D (va_A [(h_t, .inr (3, [.int t_field, .int t_rowCount, .int t_columnCount, .ref h_t_numbers, .int t_studied, .ref h_t_study]))] sz) [(h_t, .inr (3, [.int t_field, .int t_rowCount, .int t_columnCount, .ref h_t_numbers, .int t_studied, .ref h_t_study]))]) (va_A [(h_t, .inr (3, [.int t_field, .int t_rowCount, .int t_columnCount, .ref h_t_numbers, .int t_studied, .ref h_t_study]))] sz)) 0 0 (va_A [(h_t, .inr (3, [.int t_field, .int t_rowCount, .int t_columnCount, .ref h_t_numbers, .int t_studied, .ref h_t_study]))] sz) := by
  refine Met.ofW (cc := prog_5_method_3_code) (maxL := 3) (ret := (Option.some Jvm.ClassFile.FieldType.boolean)) (by decide) rfl ?_
  intro p e s m args below meth c s₁ B hml hv
  obtain ⟨hAR, hsz, hP, hK, hN, hD0⟩ := hv
  have hx := B.exec
  have hb := B.bytes
  have hr := B.returns
  have hts := atoms_spec (ws := w_Ta_hasPlace) B.pre
  have hown : s.vm.findClass "BasisWalk$Table" = some m.cls := findClass_of_methodNamed B.named
  have hlocks := B.notSynchronized
  clear B
  subst hsz
  have hD := hD0.self (sz := s.heap.size)
  generalize hAe : va_A [(h_t, .inr (3, [.int t_field, .int t_rowCount, .int t_columnCount, .ref h_t_numbers, .int t_studied, .ref h_t_study]))] s.heap.size = A at hD ⊢
  have hA : ∀ q : Nat, s.heap.size ≤ q → A q := fun q h => by rw [← hAe]; exact Or.inr h
  clear hAe hD0
  have hS : va_S A s.heap s.heap [] := va_S.rf
  have hl := lv_entry ([.ref h_t, .int row0, .int col0]) (n := 3) (Nat.le_of_ble_eq_true rfl)
  subst hAR
  rw [lg_entry_eq]
  generalize (lg_sl ([.ref h_t, .int row0, .int col0]) ++ List.replicate (3 - (lg_sl ([.ref h_t, .int row0, .int col0])).length) Slot.unset).toArray = ls at hl ⊢
  have hl : lv_has ls 3 [(0, .ref h_t), (1, .int row0), (2, .int col0)] := hl
  change W p l e ({ frames := 0, cells := 0, slots := 0, locals := 0 } : Room) s m _ below meth c s.heap [] 0 0 _ _
  generalize hARe : ([.ref h_t, .int row0, .int col0] : List Value).toArray = AR at hts ⊢
  clear hARe
  generalize hQ : MQ below _ AR s 0 0 A = QQ
  have fl0 := hts _ (List.mem_cons_of_mem _ tw_61)
  have iw1 := (fun w hw => List.mem_cons_of_mem _ (in_Ta w hw) : ∀ w ∈ u_ws "BasisWalk$Table" T_Ta 6, w ∈ w_Ta_hasPlace)
  have fl2 := hts _ (List.mem_cons_of_mem _ tw_64)
  obtain ⟨H, hHe⟩ : ∃ H : Heap, H = s.heap := ⟨_, rfl⟩
  rw [← hHe] at hP ⊢
  replace hS : va_S A s.heap H [] := by rw [hHe]; exact va_S.rf
  clear hHe
  unfold f_T_hasPlace at h
  refine lv_iload_n hx hb d_Ta_hasPlace_0 rfl (lv_at hl 1 rfl) ?_
  refine lv_if_lt (tgt := 28) hx hb d_Ta_hasPlace_1 (by decide) (fun c_1 => ?_) (fun c_1 => ?_)
  · replace h := ck_if_t h c_1
    refine lv_iconst (v := 0) hx hb d_Ta_hasPlace_28 (by decide) ?_
    obtain rfl := Option.some.inj h
    subst hQ
    exact W.zret (ty := .boolean) (v := 0) hx hb hr rfl (fun t ht hW => ⟨⟨0, (), rfl, rfl, by rw [ht]; exact hP, va_K.moved hW.alike hK, hD⟩, hS.F ht⟩) hS.2.2 d_Ta_hasPlace_29
  · replace h := ck_if_f h c_1
    refine lv_iload_n hx hb d_Ta_hasPlace_4 rfl (lv_at hl 1 rfl) ?_
    refine lv_aload_n hx hb d_Ta_hasPlace_5 rfl (lv_at hl 0 rfl) ?_
    refine va_get (D := (dC, dI)) (ci := 3) (v := .int t_rowCount) (C := "BasisWalk$Table") (T := T_Ta) (N := 6) hx hb hts iw1 hown hK hP 0 rfl rfl 1 (by decide) fl0 (fun _ h9 => h9) rfl d_Ta_hasPlace_6 ?_
    refine lv_icmp_ge (tgt := 28) hx hb d_Ta_hasPlace_9 (by decide) (fun c_2 => ?_) (fun c_2 => ?_)
    · replace h := ck_if_t h c_2
      refine lv_iconst (v := 0) hx hb d_Ta_hasPlace_28 (by decide) ?_
      obtain rfl := Option.some.inj h
      subst hQ
      exact W.zret (ty := .boolean) (v := 0) hx hb hr rfl (fun t ht hW => ⟨⟨0, (), rfl, rfl, by rw [ht]; exact hP, va_K.moved hW.alike hK, hD⟩, hS.F ht⟩) hS.2.2 d_Ta_hasPlace_29
    · replace h := ck_if_f h c_2
      refine lv_iload_n hx hb d_Ta_hasPlace_12 rfl (lv_at hl 2 rfl) ?_
      refine lv_if_lt (tgt := 28) hx hb d_Ta_hasPlace_13 (by decide) (fun c_3 => ?_) (fun c_3 => ?_)
      · replace h := ck_if_t h c_3
        refine lv_iconst (v := 0) hx hb d_Ta_hasPlace_28 (by decide) ?_
        obtain rfl := Option.some.inj h
        subst hQ
        exact W.zret (ty := .boolean) (v := 0) hx hb hr rfl (fun t ht hW => ⟨⟨0, (), rfl, rfl, by rw [ht]; exact hP, va_K.moved hW.alike hK, hD⟩, hS.F ht⟩) hS.2.2 d_Ta_hasPlace_29
      · replace h := ck_if_f h c_3
        refine lv_iload_n hx hb d_Ta_hasPlace_16 rfl (lv_at hl 2 rfl) ?_
        refine lv_aload_n hx hb d_Ta_hasPlace_17 rfl (lv_at hl 0 rfl) ?_
        refine va_get (D := (dC, dI)) (ci := 3) (v := .int t_columnCount) (C := "BasisWalk$Table") (T := T_Ta) (N := 6) hx hb hts iw1 hown hK hP 0 rfl rfl 2 (by decide) fl2 (fun _ h9 => h9) rfl d_Ta_hasPlace_18 ?_
        refine lv_icmp_ge (tgt := 28) hx hb d_Ta_hasPlace_21 (by decide) (fun c_4 => ?_) (fun c_4 => ?_)
        · replace h := ck_if_t h c_4
          refine lv_iconst (v := 0) hx hb d_Ta_hasPlace_28 (by decide) ?_
          obtain rfl := Option.some.inj h
          subst hQ
          exact W.zret (ty := .boolean) (v := 0) hx hb hr rfl (fun t ht hW => ⟨⟨0, (), rfl, rfl, by rw [ht]; exact hP, va_K.moved hW.alike hK, hD⟩, hS.F ht⟩) hS.2.2 d_Ta_hasPlace_29
        · replace h := ck_if_f h c_4
          refine lv_iconst (v := 1) hx hb d_Ta_hasPlace_24 (by decide) ?_
          refine lv_goto (tgt := 29) hx hb d_Ta_hasPlace_25 (by decide) ?_
          obtain rfl := Option.some.inj h
          subst hQ
          exact W.zret (ty := .boolean) (v := 1) hx hb hr rfl (fun t ht hW => ⟨⟨1, (), rfl, rfl, by rw [ht]; exact hP, va_K.moved hW.alike hK, hD⟩, hS.F ht⟩) hS.2.2 d_Ta_hasPlace_29
theorem d_Ta_hasSet_0 : decode prog_5_method_4_code 0 = .ok (.iload_n 1, 1) := by decide +kernel
theorem d_Ta_hasSet_1 : decode prog_5_method_4_code 1 = .ok (.ifCond .lt 17, 3) := by decide +kernel
theorem d_Ta_hasSet_4 : decode prog_5_method_4_code 4 = .ok (.iload_n 1, 1) := by decide +kernel
theorem d_Ta_hasSet_5 : decode prog_5_method_4_code 5 = .ok (.iconst 1, 1) := by decide +kernel
theorem d_Ta_hasSet_6 : decode prog_5_method_4_code 6 = .ok (.aload_n 0, 1) := by decide +kernel
theorem d_Ta_hasSet_7 : decode prog_5_method_4_code 7 = .ok (.getfield 29, 3) := by decide +kernel
theorem d_Ta_hasSet_10 : decode prog_5_method_4_code 10 = .ok (.ishl, 1) := by decide +kernel
theorem d_Ta_hasSet_11 : decode prog_5_method_4_code 11 = .ok (.if_icmp .ge 7, 3) := by decide +kernel
theorem d_Ta_hasSet_14 : decode prog_5_method_4_code 14 = .ok (.iconst 1, 1) := by decide +kernel
theorem d_Ta_hasSet_15 : decode prog_5_method_4_code 15 = .ok (.goto 4, 3) := by decide +kernel
theorem d_Ta_hasSet_18 : decode prog_5_method_4_code 18 = .ok (.iconst 0, 1) := by decide +kernel
theorem d_Ta_hasSet_19 : decode prog_5_method_4_code 19 = .ok (.ireturn, 1) := by decide +kernel
def f_T_hasSet (t_columnCount : Int32) (set0 : Int32) : Option (Int32) :=
  ck_if (set0 < 0) (some 0) (ck_if (((1 : Int32) <<< (t_columnCount &&& 31)) ≤ set0) (some 0) (some 1))
set_option maxHeartbeats 4000000 in
set_option maxRecDepth 100000 in
theorem c_T_hasSet (l : Launch) (dC : Nat → ClassId) (dI : Nat → Nat → Nat) (cI cJ cB cZ cT cN : ClassId) (sz : Nat) (h_t : Nat) (h_t_numbers : Nat) (h_t_study : Nat) (t_field : Int32) (t_rowCount : Int32) (t_columnCount : Int32) (t_studied : Int32) (set0 : Int32) (r : Int32) (h : f_T_hasSet t_columnCount set0 = some r) : Met l y_Ta_hasSet w_Ta_hasSet ({ frames := 0, cells := 0, slots := 0, locals := 0 } : Room) (va_Pc [.ref h_t, .int set0] (fun U => U.heap.size = sz ∧ va_P (dC, dI) cl_all [(h_t, .inr (3, [.int t_field, .int t_rowCount, .int t_columnCount, .ref h_t_numbers, .int t_studied, .ref h_t_study]))] U.heap ∧ va_K (dC, dI) cl_all [(cI, .int), (cJ, .long), (cB, .byte), (cZ, .boolean), (cT, .object "BasisWalk$Table"), (cN, .object "BasisWalkModel$Num")] U ∧ NW U ∧ va_D (fun _ => True) [(h_t, .inr (3, [.int t_field, .int t_rowCount, .int t_columnCount, .ref h_t_numbers, .int t_studied, .ref h_t_study]))])) (va_Qi (fun (v : Int32) (_ : Unit) => v = r) (fun (u : Unit) (t : State) => va_P (dC, dI) cl_all [(h_t, .inr (3, [.int t_field, .int t_rowCount, .int t_columnCount, .ref h_t_numbers, .int t_studied, .ref h_t_study]))] t.heap ∧ va_K (dC, dI) cl_all [(cI, .int), (cJ, .long), (cB, .byte), (cZ, .boolean), (cT, .object "BasisWalk$Table"), (cN, .object "BasisWalkModel$Num")] t ∧ va_D (va_A [(h_t, .inr (3, [.int t_field, .int t_rowCount, .int t_columnCount, .ref h_t_numbers, .int t_studied, .ref h_t_study]))] sz) [(h_t, .inr (3, [.int t_field, .int t_rowCount, .int t_columnCount, .ref h_t_numbers, .int t_studied, .ref h_t_study]))]) (va_A [(h_t, .inr (3, [.int t_field, .int t_rowCount, .int t_columnCount, .ref h_t_numbers, .int t_studied, .ref h_t_study]))] sz)) 0 0 (va_A [(h_t, .inr (3, [.int t_field, .int t_rowCount, .int t_columnCount, .ref h_t_numbers, .int t_studied, .ref h_t_study]))] sz) := by
  refine Met.ofW (cc := prog_5_method_4_code) (maxL := 2) (ret := (Option.some Jvm.ClassFile.FieldType.boolean)) (by decide) rfl ?_
  intro p e s m args below meth c s₁ B hml hv
  obtain ⟨hAR, hsz, hP, hK, hN, hD0⟩ := hv
  have hx := B.exec
  have hb := B.bytes
  have hr := B.returns
  have hts := atoms_spec (ws := w_Ta_hasSet) B.pre
  have hown : s.vm.findClass "BasisWalk$Table" = some m.cls := findClass_of_methodNamed B.named
  have hlocks := B.notSynchronized
  clear B
  subst hsz
  have hD := hD0.self (sz := s.heap.size)
  generalize hAe : va_A [(h_t, .inr (3, [.int t_field, .int t_rowCount, .int t_columnCount, .ref h_t_numbers, .int t_studied, .ref h_t_study]))] s.heap.size = A at hD ⊢
  have hA : ∀ q : Nat, s.heap.size ≤ q → A q := fun q h => by rw [← hAe]; exact Or.inr h
  clear hAe hD0
  have hS : va_S A s.heap s.heap [] := va_S.rf
  have hl := lv_entry ([.ref h_t, .int set0]) (n := 2) (Nat.le_of_ble_eq_true rfl)
  subst hAR
  rw [lg_entry_eq]
  generalize (lg_sl ([.ref h_t, .int set0]) ++ List.replicate (2 - (lg_sl ([.ref h_t, .int set0])).length) Slot.unset).toArray = ls at hl ⊢
  have hl : lv_has ls 2 [(0, .ref h_t), (1, .int set0)] := hl
  change W p l e ({ frames := 0, cells := 0, slots := 0, locals := 0 } : Room) s m _ below meth c s.heap [] 0 0 _ _
  generalize hARe : ([.ref h_t, .int set0] : List Value).toArray = AR at hts ⊢
  clear hARe
  generalize hQ : MQ below _ AR s 0 0 A = QQ
  have fl0 := hts _ (List.mem_cons_of_mem _ tw_64)
  have iw1 := (fun w hw => List.mem_cons_of_mem _ (in_Ta w hw) : ∀ w ∈ u_ws "BasisWalk$Table" T_Ta 6, w ∈ w_Ta_hasSet)
  obtain ⟨H, hHe⟩ : ∃ H : Heap, H = s.heap := ⟨_, rfl⟩
  rw [← hHe] at hP ⊢
  replace hS : va_S A s.heap H [] := by rw [hHe]; exact va_S.rf
  clear hHe
  unfold f_T_hasSet at h
  refine lv_iload_n hx hb d_Ta_hasSet_0 rfl (lv_at hl 1 rfl) ?_
  refine lv_if_lt (tgt := 18) hx hb d_Ta_hasSet_1 (by decide) (fun c_1 => ?_) (fun c_1 => ?_)
  · replace h := ck_if_t h c_1
    refine lv_iconst (v := 0) hx hb d_Ta_hasSet_18 (by decide) ?_
    obtain rfl := Option.some.inj h
    subst hQ
    exact W.zret (ty := .boolean) (v := 0) hx hb hr rfl (fun t ht hW => ⟨⟨0, (), rfl, rfl, by rw [ht]; exact hP, va_K.moved hW.alike hK, hD⟩, hS.F ht⟩) hS.2.2 d_Ta_hasSet_19
  · replace h := ck_if_f h c_1
    refine lv_iload_n hx hb d_Ta_hasSet_4 rfl (lv_at hl 1 rfl) ?_
    refine lv_iconst (v := 1) hx hb d_Ta_hasSet_5 (by decide) ?_
    refine lv_aload_n hx hb d_Ta_hasSet_6 rfl (lv_at hl 0 rfl) ?_
    refine va_get (D := (dC, dI)) (ci := 3) (v := .int t_columnCount) (C := "BasisWalk$Table") (T := T_Ta) (N := 6) hx hb hts iw1 hown hK hP 0 rfl rfl 2 (by decide) fl0 (fun _ h9 => h9) rfl d_Ta_hasSet_7 ?_
    refine lv_ishl hx hb d_Ta_hasSet_10 ?_
    refine lv_icmp_ge (tgt := 18) hx hb d_Ta_hasSet_11 (by decide) (fun c_2 => ?_) (fun c_2 => ?_)
    · replace h := ck_if_t h c_2
      refine lv_iconst (v := 0) hx hb d_Ta_hasSet_18 (by decide) ?_
      obtain rfl := Option.some.inj h
      subst hQ
      exact W.zret (ty := .boolean) (v := 0) hx hb hr rfl (fun t ht hW => ⟨⟨0, (), rfl, rfl, by rw [ht]; exact hP, va_K.moved hW.alike hK, hD⟩, hS.F ht⟩) hS.2.2 d_Ta_hasSet_19
    · replace h := ck_if_f h c_2
      refine lv_iconst (v := 1) hx hb d_Ta_hasSet_14 (by decide) ?_
      refine lv_goto (tgt := 19) hx hb d_Ta_hasSet_15 (by decide) ?_
      obtain rfl := Option.some.inj h
      subst hQ
      exact W.zret (ty := .boolean) (v := 1) hx hb hr rfl (fun t ht hW => ⟨⟨1, (), rfl, rfl, by rw [ht]; exact hP, va_K.moved hW.alike hK, hD⟩, hS.F ht⟩) hS.2.2 d_Ta_hasSet_19
theorem d_Ta_write_0 : decode prog_5_method_5_code 0 = .ok (.aload_n 0, 1) := by decide +kernel
theorem d_Ta_write_1 : decode prog_5_method_5_code 1 = .ok (.getfield 9, 3) := by decide +kernel
theorem d_Ta_write_4 : decode prog_5_method_5_code 4 = .ok (.iload_n 1, 1) := by decide +kernel
theorem d_Ta_write_5 : decode prog_5_method_5_code 5 = .ok (.bipush 12, 2) := by decide +kernel
theorem d_Ta_write_7 : decode prog_5_method_5_code 7 = .ok (.imul, 1) := by decide +kernel
theorem d_Ta_write_8 : decode prog_5_method_5_code 8 = .ok (.iload_n 2, 1) := by decide +kernel
theorem d_Ta_write_9 : decode prog_5_method_5_code 9 = .ok (.iadd, 1) := by decide +kernel
theorem d_Ta_write_10 : decode prog_5_method_5_code 10 = .ok (.aload_n 0, 1) := by decide +kernel
theorem d_Ta_write_11 : decode prog_5_method_5_code 11 = .ok (.getfield 22, 3) := by decide +kernel
theorem d_Ta_write_14 : decode prog_5_method_5_code 14 = .ok (.ifCond .ne 7, 3) := by decide +kernel
theorem d_Ta_write_17 : decode prog_5_method_5_code 17 = .ok (.iload_n 3, 1) := by decide +kernel
theorem d_Ta_write_18 : decode prog_5_method_5_code 18 = .ok (.goto 11, 3) := by decide +kernel
theorem d_Ta_write_21 : decode prog_5_method_5_code 21 = .ok (.iload_n 3, 1) := by decide +kernel
theorem d_Ta_write_22 : decode prog_5_method_5_code 22 = .ok (.aload_n 0, 1) := by decide +kernel
theorem d_Ta_write_23 : decode prog_5_method_5_code 23 = .ok (.getfield 22, 3) := by decide +kernel
theorem d_Ta_write_26 : decode prog_5_method_5_code 26 = .ok (.invokestatic 42, 3) := by decide +kernel
theorem d_Ta_write_29 : decode prog_5_method_5_code 29 = .ok (.iastore, 1) := by decide +kernel
theorem d_Ta_write_30 : decode prog_5_method_5_code 30 = .ok (.aload_n 0, 1) := by decide +kernel
theorem d_Ta_write_31 : decode prog_5_method_5_code 31 = .ok (.iconst 0, 1) := by decide +kernel
theorem d_Ta_write_32 : decode prog_5_method_5_code 32 = .ok (.putfield 38, 3) := by decide +kernel
theorem d_Ta_write_35 : decode prog_5_method_5_code 35 = .ok (.return_, 1) := by decide +kernel
def f_T_write (t_field : Int32) (t_numbers_n : Nat) (t_numbers : Nat → Int32) (row0 : Int32) (col0 : Int32) (v0 : Int32) : Option ((Nat → Int32) × Int32) :=
  ck_if (t_field = 0) (ck_in ((row0 * 12) + col0) t_numbers_n <| some ((upd t_numbers ((row0 * 12) + col0).toNatClampNeg v0), 0)) (ck_b1 (f_floorMod v0 t_field) <| fun r_2 => ck_in ((row0 * 12) + col0) t_numbers_n <| some ((upd t_numbers ((row0 * 12) + col0).toNatClampNeg r_2), 0))
set_option maxHeartbeats 4000000 in
set_option maxRecDepth 100000 in
theorem c_T_write (l : Launch) (dC : Nat → ClassId) (dI : Nat → Nat → Nat) (cI cJ cB cZ cT cN : ClassId) (sz : Nat) (h_t : Nat) (h_t_numbers : Nat) (h_t_study : Nat) (t_field : Int32) (t_rowCount : Int32) (t_columnCount : Int32) (t_studied : Int32) (t_numbers_n : Nat) (t_numbers : Nat → Int32) (row0 : Int32) (col0 : Int32) (v0 : Int32) (r : (Nat → Int32) × Int32) (h : f_T_write t_field t_numbers_n t_numbers row0 col0 v0 = some r) : Met l y_Ta_write w_Ta_write ({ frames := 1, cells := 0, slots := 0, locals := 22 } : Room) (va_Pc [.ref h_t, .int row0, .int col0, .int v0] (fun U => U.heap.size = sz ∧ va_P (dC, dI) cl_all [(h_t, .inr (3, [.int t_field, .int t_rowCount, .int t_columnCount, .ref h_t_numbers, .int t_studied, .ref h_t_study])), (h_t_numbers, .inl (cI, t_numbers_n, .inl t_numbers))] U.heap ∧ va_K (dC, dI) cl_all [(cI, .int), (cJ, .long), (cB, .byte), (cZ, .boolean), (cT, .object "BasisWalk$Table"), (cN, .object "BasisWalkModel$Num")] U ∧ NW U ∧ va_D (fun _ => True) [(h_t, .inr (3, [.int t_field, .int t_rowCount, .int t_columnCount, .ref h_t_numbers, .int t_studied, .ref h_t_study])), (h_t_numbers, .inl (cI, t_numbers_n, .inl t_numbers))])) (va_Qv (fun u : (Nat → Int32) × Int32 => u = r) (fun (u : (Nat → Int32) × Int32) (t : State) => va_P (dC, dI) cl_all [(h_t, .inr (3, [.int t_field, .int t_rowCount, .int t_columnCount, .ref h_t_numbers, .int u.2, .ref h_t_study])), (h_t_numbers, .inl (cI, t_numbers_n, .inl u.1))] t.heap ∧ va_K (dC, dI) cl_all [(cI, .int), (cJ, .long), (cB, .byte), (cZ, .boolean), (cT, .object "BasisWalk$Table"), (cN, .object "BasisWalkModel$Num")] t ∧ va_D (va_A [(h_t, .inr (3, [.int t_field, .int t_rowCount, .int t_columnCount, .ref h_t_numbers, .int t_studied, .ref h_t_study])), (h_t_numbers, .inl (cI, t_numbers_n, .inl t_numbers))] sz) [(h_t, .inr (3, [.int t_field, .int t_rowCount, .int t_columnCount, .ref h_t_numbers, .int u.2, .ref h_t_study])), (h_t_numbers, .inl (cI, t_numbers_n, .inl u.1))]) (va_A [(h_t, .inr (3, [.int t_field, .int t_rowCount, .int t_columnCount, .ref h_t_numbers, .int t_studied, .ref h_t_study])), (h_t_numbers, .inl (cI, t_numbers_n, .inl t_numbers))] sz)) 0 0 (va_A [(h_t, .inr (3, [.int t_field, .int t_rowCount, .int t_columnCount, .ref h_t_numbers, .int t_studied, .ref h_t_study])), (h_t_numbers, .inl (cI, t_numbers_n, .inl t_numbers))] sz) := by
  refine Met.ofW (cc := prog_5_method_5_code) (maxL := 4) (ret := (Option.none : Option Jvm.ClassFile.FieldType)) (by decide) rfl ?_
  intro p e s m args below meth c s₁ B hml hv
  obtain ⟨hAR, hsz, hP, hK, hN, hD0⟩ := hv
  have hx := B.exec
  have hb := B.bytes
  have hr := B.returns
  have hts := atoms_spec (ws := w_Ta_write) B.pre
  have hown : s.vm.findClass "BasisWalk$Table" = some m.cls := findClass_of_methodNamed B.named
  have hlocks := B.notSynchronized
  clear B
  subst hsz
  have hD := hD0.self (sz := s.heap.size)
  generalize hAe : va_A [(h_t, .inr (3, [.int t_field, .int t_rowCount, .int t_columnCount, .ref h_t_numbers, .int t_studied, .ref h_t_study])), (h_t_numbers, .inl (cI, t_numbers_n, .inl t_numbers))] s.heap.size = A at hD ⊢
  have hA : ∀ q : Nat, s.heap.size ≤ q → A q := fun q h => by rw [← hAe]; exact Or.inr h
  clear hAe hD0
  have hS : va_S A s.heap s.heap [] := va_S.rf
  have hl := lv_entry ([.ref h_t, .int row0, .int col0, .int v0]) (n := 4) (Nat.le_of_ble_eq_true rfl)
  subst hAR
  rw [lg_entry_eq]
  generalize (lg_sl ([.ref h_t, .int row0, .int col0, .int v0]) ++ List.replicate (4 - (lg_sl ([.ref h_t, .int row0, .int col0, .int v0])).length) Slot.unset).toArray = ls at hl ⊢
  have hl : lv_has ls 4 [(0, .ref h_t), (1, .int row0), (2, .int col0), (3, .int v0)] := hl
  change W p l e ({ frames := 1, cells := 0, slots := 0, locals := 22 } : Room) s m _ below meth c s.heap [] 0 0 _ _
  generalize hARe : ([.ref h_t, .int row0, .int col0, .int v0] : List Value).toArray = AR at hts ⊢
  clear hARe
  generalize hQ : MQ below _ AR s 0 0 A = QQ
  have fl0 := hts _ (List.mem_cons_of_mem _ tw_67)
  have iw1 := (fun w hw => List.mem_cons_of_mem _ (in_Ta w hw) : ∀ w ∈ u_ws "BasisWalk$Table" T_Ta 6, w ∈ w_Ta_write)
  have fl2 := hts _ (List.mem_cons_of_mem _ tw_58)
  have fl3 := hts _ (List.mem_cons_of_mem _ tw_69)
  obtain ⟨H, hHe⟩ : ∃ H : Heap, H = s.heap := ⟨_, rfl⟩
  rw [← hHe] at hP ⊢
  replace hS : va_S A s.heap H [] := by rw [hHe]; exact va_S.rf
  clear hHe
  unfold f_T_write at h
  refine lv_aload_n hx hb d_Ta_write_0 rfl (lv_at hl 0 rfl) ?_
  refine va_get (D := (dC, dI)) (ci := 3) (v := .ref h_t_numbers) (C := "BasisWalk$Table") (T := T_Ta) (N := 6) hx hb hts iw1 hown hK hP 0 rfl rfl 3 (by decide) fl0 (fun _ h9 => h9) rfl d_Ta_write_1 ?_
  refine lv_iload_n hx hb d_Ta_write_4 rfl (lv_at hl 1 rfl) ?_
  refine lv_bipush (v := 12) hx hb d_Ta_write_5 (by decide) ?_
  refine lv_imul hx hb d_Ta_write_7 ?_
  refine lv_iload_n hx hb d_Ta_write_8 rfl (lv_at hl 2 rfl) ?_
  refine lv_iadd hx hb d_Ta_write_9 ?_
  refine lv_aload_n hx hb d_Ta_write_10 rfl (lv_at hl 0 rfl) ?_
  refine va_get (D := (dC, dI)) (ci := 3) (v := .int t_field) (C := "BasisWalk$Table") (T := T_Ta) (N := 6) hx hb hts iw1 hown hK hP 0 rfl rfl 0 (by decide) fl2 (fun _ h9 => h9) rfl d_Ta_write_11 ?_
  refine lv_if_ne (tgt := 21) hx hb d_Ta_write_14 (by decide) (fun c_1 => ?_) (fun c_1 => ?_)
  · replace h := ck_if_f h c_1
    refine lv_iload_n hx hb d_Ta_write_21 rfl (lv_at hl 3 rfl) ?_
    refine lv_aload_n hx hb d_Ta_write_22 rfl (lv_at hl 0 rfl) ?_
    refine va_get (D := (dC, dI)) (ci := 3) (v := .int t_field) (C := "BasisWalk$Table") (T := T_Ta) (N := 6) hx hb hts iw1 hown hK hP 0 rfl rfl 0 (by decide) fl2 (fun _ h9 => h9) rfl d_Ta_write_23 ?_
    obtain ⟨r_2, hc_3, h⟩ := ck_b1_s h
    have hPc := hP.sub (ws' := []) [] rfl
    have hDc := hD.sub (ws' := []) [] (by decide) rfl
    have hFc := va_free (wc := []) hD hS hA [] rfl
    refine va_calli (va_runS (As := [.int v0, .int t_field]) (rest := [.int ((row0 * 12) + col0), .ref h_t_numbers]) ⟨hx, hb, hml, hown, hts⟩ (c_floorMod l dC dI cI cJ cB cZ cT cN H.size v0 t_field _ hc_3) (va_cwS 2 hts (tb_S tw_169 tw_170 tw_9 tw_171) rfl rfl rfl (by decide +kernel) ⟨Nat.le_of_ble_eq_true rfl, Nat.le_of_ble_eq_true rfl⟩) ⟨fun a U g mk q => by obtain ⟨q0, q1, qP, qK, qN, qD⟩ := q; exact ⟨q0, q1, qP, va_K.moved (u := U) (U := U.calling g mk a) (Vm.Alike.refl U.vm) qK, qN.same rfl, qD⟩, fun U hU hW => ⟨rfl, by rw [hU], by rw [hU]; exact hPc, va_K.moved hW.alike hK, hN.warm hW, hDc.weaken (fun _ _ _ _ => trivial)⟩⟩ rfl rfl hl.1 rfl (lv_room (Nat.le_of_ble_eq_true rfl)) d_Ta_write_26 ⟨Nat.zero_le _, Nat.zero_le _⟩) hS (fun q _ h => hFc q h) hFc (fun rr u t H1 locs ht hvm hw hB hz1 hk1 hS => ?_)
    replace hw := hw.symm
    subst hw
    obtain ⟨hP1, -, hD1⟩ := hB
    rw [ht] at hP1
    obtain ⟨hP, hD⟩ := va_join (wr := [(h_t, .inr (3, [.int t_field, .int t_rowCount, .int t_columnCount, .ref h_t_numbers, .int t_studied, .ref h_t_study])), (h_t_numbers, .inl (cI, t_numbers_n, .inl t_numbers))]) (w1 := []) hP hD [] [0, 1] rfl rfl (by decide) (by decide) hk1 hFc hP1 hD1
    generalize H1 = H at hP hS ⊢
    have hP : va_P (dC, dI) cl_all [(h_t, .inr (3, [.int t_field, .int t_rowCount, .int t_columnCount, .ref h_t_numbers, .int t_studied, .ref h_t_study])), (h_t_numbers, .inl (cI, t_numbers_n, .inl t_numbers))] H := hP.sub [0, 1] rfl
    have hD : va_D A [(h_t, .inr (3, [.int t_field, .int t_rowCount, .int t_columnCount, .ref h_t_numbers, .int t_studied, .ref h_t_study])), (h_t_numbers, .inl (cI, t_numbers_n, .inl t_numbers))] := hD.sub [0, 1] (by decide) rfl
    obtain ⟨g_4, h⟩ := ck_in_s h
    refine va_iast hx hb hK hP hD hS 1 0 rfl rfl g_4 d_Ta_write_29 (fun H locs hP hD hS => ?_)
    have hP : va_P (dC, dI) cl_all [(h_t, .inr (3, [.int t_field, .int t_rowCount, .int t_columnCount, .ref h_t_numbers, .int t_studied, .ref h_t_study])), (h_t_numbers, .inl (cI, t_numbers_n, .inl (upd t_numbers ((row0 * 12) + col0).toNatClampNeg r_2)))] H := hP
    have hD : va_D A [(h_t, .inr (3, [.int t_field, .int t_rowCount, .int t_columnCount, .ref h_t_numbers, .int t_studied, .ref h_t_study])), (h_t_numbers, .inl (cI, t_numbers_n, .inl (upd t_numbers ((row0 * 12) + col0).toNatClampNeg r_2)))] := hD
    refine lv_aload_n hx hb d_Ta_write_30 rfl (lv_at hl 0 rfl) ?_
    refine lv_iconst (v := 0) hx hb d_Ta_write_31 (by decide) ?_
    refine va_put (D := (dC, dI)) (ci := 3) (v := .int 0) (ty := .boolean) (C := "BasisWalk$Table") (T := T_Ta) (N := 6) hx hb hts iw1 ty_Ta tyok_Ta nm_Ta hown hK hP hD hS 0 rfl rfl 4 (by decide) fl3 (fun _ h9 => h9) rfl (by decide +kernel) rfl rfl (Nat.le_of_ble_eq_true rfl) d_Ta_write_32 (fun H locs hP hD hS => ?_)
    have hP : va_P (dC, dI) cl_all [(h_t, .inr (3, [.int t_field, .int t_rowCount, .int t_columnCount, .ref h_t_numbers, .int 0, .ref h_t_study])), (h_t_numbers, .inl (cI, t_numbers_n, .inl (upd t_numbers ((row0 * 12) + col0).toNatClampNeg r_2)))] H := hP
    have hD : va_D A [(h_t, .inr (3, [.int t_field, .int t_rowCount, .int t_columnCount, .ref h_t_numbers, .int 0, .ref h_t_study])), (h_t_numbers, .inl (cI, t_numbers_n, .inl (upd t_numbers ((row0 * 12) + col0).toNatClampNeg r_2)))] := hD
    obtain rfl := Option.some.inj h
    subst hQ
    exact W.vret hx hb hr (fun t ht hW => ⟨⟨((upd t_numbers ((row0 * 12) + col0).toNatClampNeg r_2), 0), rfl, rfl, by rw [ht]; exact hP, va_K.moved hW.alike hK, hD⟩, hS.F ht⟩) hS.2.2 d_Ta_write_35
  · replace h := ck_if_t h c_1
    refine lv_iload_n hx hb d_Ta_write_17 rfl (lv_at hl 3 rfl) ?_
    refine lv_goto (tgt := 29) hx hb d_Ta_write_18 (by decide) ?_
    obtain ⟨g_5, h⟩ := ck_in_s h
    refine va_iast hx hb hK hP hD hS 1 0 rfl rfl g_5 d_Ta_write_29 (fun H locs hP hD hS => ?_)
    have hP : va_P (dC, dI) cl_all [(h_t, .inr (3, [.int t_field, .int t_rowCount, .int t_columnCount, .ref h_t_numbers, .int t_studied, .ref h_t_study])), (h_t_numbers, .inl (cI, t_numbers_n, .inl (upd t_numbers ((row0 * 12) + col0).toNatClampNeg v0)))] H := hP
    have hD : va_D A [(h_t, .inr (3, [.int t_field, .int t_rowCount, .int t_columnCount, .ref h_t_numbers, .int t_studied, .ref h_t_study])), (h_t_numbers, .inl (cI, t_numbers_n, .inl (upd t_numbers ((row0 * 12) + col0).toNatClampNeg v0)))] := hD
    refine lv_aload_n hx hb d_Ta_write_30 rfl (lv_at hl 0 rfl) ?_
    refine lv_iconst (v := 0) hx hb d_Ta_write_31 (by decide) ?_
    refine va_put (D := (dC, dI)) (ci := 3) (v := .int 0) (ty := .boolean) (C := "BasisWalk$Table") (T := T_Ta) (N := 6) hx hb hts iw1 ty_Ta tyok_Ta nm_Ta hown hK hP hD hS 0 rfl rfl 4 (by decide) fl3 (fun _ h9 => h9) rfl (by decide +kernel) rfl rfl (Nat.le_of_ble_eq_true rfl) d_Ta_write_32 (fun H locs hP hD hS => ?_)
    have hP : va_P (dC, dI) cl_all [(h_t, .inr (3, [.int t_field, .int t_rowCount, .int t_columnCount, .ref h_t_numbers, .int 0, .ref h_t_study])), (h_t_numbers, .inl (cI, t_numbers_n, .inl (upd t_numbers ((row0 * 12) + col0).toNatClampNeg v0)))] H := hP
    have hD : va_D A [(h_t, .inr (3, [.int t_field, .int t_rowCount, .int t_columnCount, .ref h_t_numbers, .int 0, .ref h_t_study])), (h_t_numbers, .inl (cI, t_numbers_n, .inl (upd t_numbers ((row0 * 12) + col0).toNatClampNeg v0)))] := hD
    obtain rfl := Option.some.inj h
    subst hQ
    exact W.vret hx hb hr (fun t ht hW => ⟨⟨((upd t_numbers ((row0 * 12) + col0).toNatClampNeg v0), 0), rfl, rfl, by rw [ht]; exact hP, va_K.moved hW.alike hK, hD⟩, hS.F ht⟩) hS.2.2 d_Ta_write_35
theorem d_Or_oneLess_0 : decode prog_3_method_3_code 0 = .ok (.iload_n 1, 1) := by decide +kernel
theorem d_Or_oneLess_1 : decode prog_3_method_3_code 1 = .ok (.istore_n 2, 1) := by decide +kernel
theorem d_Or_oneLess_2 : decode prog_3_method_3_code 2 = .ok (.aload_n 0, 1) := by decide +kernel
theorem d_Or_oneLess_3 : decode prog_3_method_3_code 3 = .ok (.getfield 21, 3) := by decide +kernel
theorem d_Or_oneLess_6 : decode prog_3_method_3_code 6 = .ok (.iconst 1, 1) := by decide +kernel
theorem d_Or_oneLess_7 : decode prog_3_method_3_code 7 = .ok (.isub, 1) := by decide +kernel
theorem d_Or_oneLess_8 : decode prog_3_method_3_code 8 = .ok (.istore_n 3, 1) := by decide +kernel
theorem d_Or_oneLess_9 : decode prog_3_method_3_code 9 = .ok (.iload_n 3, 1) := by decide +kernel
theorem d_Or_oneLess_10 : decode prog_3_method_3_code 10 = .ok (.ifCond .lt 25, 3) := by decide +kernel
theorem d_Or_oneLess_13 : decode prog_3_method_3_code 13 = .ok (.iload_n 2, 1) := by decide +kernel
theorem d_Or_oneLess_14 : decode prog_3_method_3_code 14 = .ok (.iconst 1, 1) := by decide +kernel
theorem d_Or_oneLess_15 : decode prog_3_method_3_code 15 = .ok (.iload_n 3, 1) := by decide +kernel
theorem d_Or_oneLess_16 : decode prog_3_method_3_code 16 = .ok (.ishl, 1) := by decide +kernel
theorem d_Or_oneLess_17 : decode prog_3_method_3_code 17 = .ok (.ixor, 1) := by decide +kernel
theorem d_Or_oneLess_18 : decode prog_3_method_3_code 18 = .ok (.istore_n 2, 1) := by decide +kernel
theorem d_Or_oneLess_19 : decode prog_3_method_3_code 19 = .ok (.iload_n 1, 1) := by decide +kernel
theorem d_Or_oneLess_20 : decode prog_3_method_3_code 20 = .ok (.iconst 1, 1) := by decide +kernel
theorem d_Or_oneLess_21 : decode prog_3_method_3_code 21 = .ok (.iload_n 3, 1) := by decide +kernel
theorem d_Or_oneLess_22 : decode prog_3_method_3_code 22 = .ok (.ishl, 1) := by decide +kernel
theorem d_Or_oneLess_23 : decode prog_3_method_3_code 23 = .ok (.iand, 1) := by decide +kernel
theorem d_Or_oneLess_24 : decode prog_3_method_3_code 24 = .ok (.ifCond .eq 5, 3) := by decide +kernel
theorem d_Or_oneLess_27 : decode prog_3_method_3_code 27 = .ok (.iload_n 2, 1) := by decide +kernel
theorem d_Or_oneLess_28 : decode prog_3_method_3_code 28 = .ok (.ireturn, 1) := by decide +kernel
theorem d_Or_oneLess_29 : decode prog_3_method_3_code 29 = .ok (.iinc 3 (-1), 3) := by decide +kernel
theorem d_Or_oneLess_32 : decode prog_3_method_3_code 32 = .ok (.goto (-23), 3) := by decide +kernel
theorem d_Or_oneLess_35 : decode prog_3_method_3_code 35 = .ok (.iload_n 2, 1) := by decide +kernel
theorem d_Or_oneLess_36 : decode prog_3_method_3_code 36 = .ok (.ireturn, 1) := by decide +kernel
def f_O_oneLess (o_columnCount : Int32) (set0 : Int32) : Option (Int32) :=
  ck_nm (o_columnCount - 1) <| fun x_1 => lo2 (fun k_9 (v3_2 : Int32) (v2_3 : Int32) => ck_if (v3_2 < 0) (some v2_3) (ck_nm (v2_3 ^^^ ((1 : Int32) <<< (v3_2 &&& 31))) <| fun x_5 => ck_if ((set0 &&& ((1 : Int32) <<< (v3_2 &&& 31))) = 0) (ck_nm (v3_2 + (-1)) <| fun x_7 => k_9 x_7 x_5) (some x_5))) ck_F x_1 set0
set_option maxHeartbeats 4000000 in
set_option maxRecDepth 100000 in
theorem c_O_oneLess (l : Launch) (dC : Nat → ClassId) (dI : Nat → Nat → Nat) (cI cJ cB cZ cT cN : ClassId) (sz : Nat) (h_o : Nat) (h_o_sets : Nat) (h_o_starts : Nat) (h_o_nexts : Nat) (o_columnCount : Int32) (set0 : Int32) (r : Int32) (h : f_O_oneLess o_columnCount set0 = some r) : Met l y_Or_oneLess w_Or_oneLess ({ frames := 0, cells := 0, slots := 0, locals := 0 } : Room) (va_Pc [.ref h_o, .int set0] (fun U => U.heap.size = sz ∧ va_P (dC, dI) cl_all [(h_o, .inr (1, [.int o_columnCount, .ref h_o_sets, .ref h_o_starts, .ref h_o_nexts]))] U.heap ∧ va_K (dC, dI) cl_all [(cI, .int), (cJ, .long), (cB, .byte), (cZ, .boolean), (cT, .object "BasisWalk$Table"), (cN, .object "BasisWalkModel$Num")] U ∧ NW U ∧ va_D (fun _ => True) [(h_o, .inr (1, [.int o_columnCount, .ref h_o_sets, .ref h_o_starts, .ref h_o_nexts]))])) (va_Qi (fun (v : Int32) (_ : Unit) => v = r) (fun (u : Unit) (t : State) => va_P (dC, dI) cl_all [(h_o, .inr (1, [.int o_columnCount, .ref h_o_sets, .ref h_o_starts, .ref h_o_nexts]))] t.heap ∧ va_K (dC, dI) cl_all [(cI, .int), (cJ, .long), (cB, .byte), (cZ, .boolean), (cT, .object "BasisWalk$Table"), (cN, .object "BasisWalkModel$Num")] t ∧ va_D (va_A [(h_o, .inr (1, [.int o_columnCount, .ref h_o_sets, .ref h_o_starts, .ref h_o_nexts]))] sz) [(h_o, .inr (1, [.int o_columnCount, .ref h_o_sets, .ref h_o_starts, .ref h_o_nexts]))]) (va_A [(h_o, .inr (1, [.int o_columnCount, .ref h_o_sets, .ref h_o_starts, .ref h_o_nexts]))] sz)) 0 0 (va_A [(h_o, .inr (1, [.int o_columnCount, .ref h_o_sets, .ref h_o_starts, .ref h_o_nexts]))] sz) := by
  refine Met.ofW (cc := prog_3_method_3_code) (maxL := 4) (ret := (Option.some Jvm.ClassFile.FieldType.int)) (by decide) rfl ?_
  intro p e s m args below meth c s₁ B hml hv
  obtain ⟨hAR, hsz, hP, hK, hN, hD0⟩ := hv
  have hx := B.exec
  have hb := B.bytes
  have hr := B.returns
  have hts := atoms_spec (ws := w_Or_oneLess) B.pre
  have hown : s.vm.findClass "BasisWalk$Order" = some m.cls := findClass_of_methodNamed B.named
  have hlocks := B.notSynchronized
  clear B
  subst hsz
  have hD := hD0.self (sz := s.heap.size)
  generalize hAe : va_A [(h_o, .inr (1, [.int o_columnCount, .ref h_o_sets, .ref h_o_starts, .ref h_o_nexts]))] s.heap.size = A at hD ⊢
  have hA : ∀ q : Nat, s.heap.size ≤ q → A q := fun q h => by rw [← hAe]; exact Or.inr h
  clear hAe hD0
  have hS : va_S A s.heap s.heap [] := va_S.rf
  have hl := lv_entry ([.ref h_o, .int set0]) (n := 4) (Nat.le_of_ble_eq_true rfl)
  subst hAR
  rw [lg_entry_eq]
  generalize (lg_sl ([.ref h_o, .int set0]) ++ List.replicate (4 - (lg_sl ([.ref h_o, .int set0])).length) Slot.unset).toArray = ls at hl ⊢
  have hl : lv_has ls 4 [(0, .ref h_o), (1, .int set0)] := hl
  change W p l e ({ frames := 0, cells := 0, slots := 0, locals := 0 } : Room) s m _ below meth c s.heap [] 0 0 _ _
  generalize hARe : ([.ref h_o, .int set0] : List Value).toArray = AR at hts ⊢
  clear hARe
  generalize hQ : MQ below _ AR s 0 0 A = QQ
  have fl0 := hts _ (List.mem_cons_of_mem _ tw_92)
  have iw1 := (fun w hw => List.mem_cons_of_mem _ (in_Or w hw) : ∀ w ∈ u_ws "BasisWalk$Order" T_Or 4, w ∈ w_Or_oneLess)
  obtain ⟨H, hHe⟩ : ∃ H : Heap, H = s.heap := ⟨_, rfl⟩
  rw [← hHe] at hP ⊢
  replace hS : va_S A s.heap H [] := by rw [hHe]; exact va_S.rf
  clear hHe
  unfold f_O_oneLess at h
  refine lv_iload_n hx hb d_Or_oneLess_0 rfl (lv_at hl 1 rfl) ?_
  refine lv_istore_n (lv' := [(2, .int set0), (0, .ref h_o), (1, .int set0)]) hx hb d_Or_oneLess_1 rfl hl (by decide) rfl (fun ls hl => ?_)
  refine lv_aload_n hx hb d_Or_oneLess_2 rfl (lv_at hl 1 rfl) ?_
  refine va_get (D := (dC, dI)) (ci := 1) (v := .int o_columnCount) (C := "BasisWalk$Order") (T := T_Or) (N := 4) hx hb hts iw1 hown hK hP 0 rfl rfl 0 (by decide) fl0 (fun _ h9 => h9) rfl d_Or_oneLess_3 ?_
  refine lv_iconst (v := 1) hx hb d_Or_oneLess_6 (by decide) ?_
  refine lv_isub hx hb d_Or_oneLess_7 ?_
  refine lv_topi (fun x_1 ex_1 => ?_)
  replace h := ck_nm_s h ex_1
  refine lv_istore_n (lv' := [(3, .int x_1), (2, .int set0), (0, .ref h_o), (1, .int set0)]) hx hb d_Or_oneLess_8 rfl hl (by decide) rfl (fun ls hl => ?_)
  refine lo2_W (r := r) (fun (v3_2 : Int32) (v2_3 : Int32) => ∀ (H : Heap) (locs : List Loc), va_P (dC, dI) cl_all [(h_o, .inr (1, [.int o_columnCount, .ref h_o_sets, .ref h_o_starts, .ref h_o_nexts]))] H → va_D A [(h_o, .inr (1, [.int o_columnCount, .ref h_o_sets, .ref h_o_starts, .ref h_o_nexts]))] → va_S A s.heap H locs → ∀ ls : Array Slot, lv_has ls 4 [(1, .int set0), (2, .int v2_3), (3, .int v3_2)] → W p l e ({ frames := 0, cells := 0, slots := 0, locals := 0 } : Room) s m AR below meth c H locs 0 0 QQ (F0 m 9 ls [])) ?_ _ _ _ h _ _ hP hD hS _ (lv_sub hl [3, 1, 0] rfl)
  intro k_9 v3_2 v2_3 J_9 h H locs hP hD hS ls hl
  refine lv_iload_n hx hb d_Or_oneLess_9 rfl (lv_at hl 2 rfl) ?_
  refine lv_if_lt (tgt := 35) hx hb d_Or_oneLess_10 (by decide) (fun c_4 => ?_) (fun c_4 => ?_)
  · replace h := ck_if_t h c_4
    refine lv_iload_n hx hb d_Or_oneLess_35 rfl (lv_at hl 1 rfl) ?_
    obtain rfl := Option.some.inj h
    subst hQ
    exact W.iret (v := v2_3) hx hb hr (fun t ht hW => ⟨⟨v2_3, (), rfl, rfl, by rw [ht]; exact hP, va_K.moved hW.alike hK, hD⟩, hS.F ht⟩) hS.2.2 d_Or_oneLess_36
  · replace h := ck_if_f h c_4
    refine lv_iload_n hx hb d_Or_oneLess_13 rfl (lv_at hl 1 rfl) ?_
    refine lv_iconst (v := 1) hx hb d_Or_oneLess_14 (by decide) ?_
    refine lv_iload_n hx hb d_Or_oneLess_15 rfl (lv_at hl 2 rfl) ?_
    refine lv_ishl hx hb d_Or_oneLess_16 ?_
    refine lv_ixor hx hb d_Or_oneLess_17 ?_
    refine lv_topi (fun x_5 ex_5 => ?_)
    replace h := ck_nm_s h ex_5
    refine lv_istore_n (lv' := [(2, .int x_5), (1, .int set0), (3, .int v3_2)]) hx hb d_Or_oneLess_18 rfl hl (by decide) rfl (fun ls hl => ?_)
    refine lv_iload_n hx hb d_Or_oneLess_19 rfl (lv_at hl 1 rfl) ?_
    refine lv_iconst (v := 1) hx hb d_Or_oneLess_20 (by decide) ?_
    refine lv_iload_n hx hb d_Or_oneLess_21 rfl (lv_at hl 2 rfl) ?_
    refine lv_ishl hx hb d_Or_oneLess_22 ?_
    refine lv_iand hx hb d_Or_oneLess_23 ?_
    refine lv_if_eq (tgt := 29) hx hb d_Or_oneLess_24 (by decide) (fun c_6 => ?_) (fun c_6 => ?_)
    · replace h := ck_if_t h c_6
      obtain ⟨x_7, ex_7⟩ : ∃ y : Int32, y = v3_2 + (-1) := ⟨_, rfl⟩
      replace h := ck_nm_s h ex_7
      refine lv_iinc (v := x_7) (lv' := [(3, .int x_7), (2, .int x_5), (1, .int set0)]) hx hb d_Or_oneLess_29 hl (k := 2) rfl (by rw [ex_7]; rfl) (by decide) rfl (fun ls hl => ?_)
      refine lv_goto (tgt := 9) hx hb d_Or_oneLess_32 (by decide) ?_
      exact J_9 _ _ h _ _ hP hD hS _ (lv_sub hl [2, 1, 0] rfl)
    · replace h := ck_if_f h c_6
      refine lv_iload_n hx hb d_Or_oneLess_27 rfl (lv_at hl 0 rfl) ?_
      obtain rfl := Option.some.inj h
      subst hQ
      exact W.iret (v := x_5) hx hb hr (fun t ht hW => ⟨⟨x_5, (), rfl, rfl, by rw [ht]; exact hP, va_K.moved hW.alike hK, hD⟩, hS.F ht⟩) hS.2.2 d_Or_oneLess_28
theorem d_Mi_signOf_0 : decode prog_2_method_4_code 0 = .ok (.aload_n 0, 1) := by decide +kernel
theorem d_Mi_signOf_1 : decode prog_2_method_4_code 1 = .ok (.getfield 18, 3) := by decide +kernel
theorem d_Mi_signOf_4 : decode prog_2_method_4_code 4 = .ok (.iload_n 1, 1) := by decide +kernel
theorem d_Mi_signOf_5 : decode prog_2_method_4_code 5 = .ok (.laload, 1) := by decide +kernel
theorem d_Mi_signOf_6 : decode prog_2_method_4_code 6 = .ok (.lconst 0, 1) := by decide +kernel
theorem d_Mi_signOf_7 : decode prog_2_method_4_code 7 = .ok (.lcmp, 1) := by decide +kernel
theorem d_Mi_signOf_8 : decode prog_2_method_4_code 8 = .ok (.ifCond .ge 5, 3) := by decide +kernel
theorem d_Mi_signOf_11 : decode prog_2_method_4_code 11 = .ok (.iconst (-1), 1) := by decide +kernel
theorem d_Mi_signOf_12 : decode prog_2_method_4_code 12 = .ok (.ireturn, 1) := by decide +kernel
theorem d_Mi_signOf_13 : decode prog_2_method_4_code 13 = .ok (.aload_n 0, 1) := by decide +kernel
theorem d_Mi_signOf_14 : decode prog_2_method_4_code 14 = .ok (.getfield 11, 3) := by decide +kernel
theorem d_Mi_signOf_17 : decode prog_2_method_4_code 17 = .ok (.iload_n 1, 1) := by decide +kernel
theorem d_Mi_signOf_18 : decode prog_2_method_4_code 18 = .ok (.laload, 1) := by decide +kernel
theorem d_Mi_signOf_19 : decode prog_2_method_4_code 19 = .ok (.aload_n 0, 1) := by decide +kernel
theorem d_Mi_signOf_20 : decode prog_2_method_4_code 20 = .ok (.getfield 15, 3) := by decide +kernel
theorem d_Mi_signOf_23 : decode prog_2_method_4_code 23 = .ok (.iload_n 1, 1) := by decide +kernel
theorem d_Mi_signOf_24 : decode prog_2_method_4_code 24 = .ok (.laload, 1) := by decide +kernel
theorem d_Mi_signOf_25 : decode prog_2_method_4_code 25 = .ok (.lor, 1) := by decide +kernel
theorem d_Mi_signOf_26 : decode prog_2_method_4_code 26 = .ok (.aload_n 0, 1) := by decide +kernel
theorem d_Mi_signOf_27 : decode prog_2_method_4_code 27 = .ok (.getfield 18, 3) := by decide +kernel
theorem d_Mi_signOf_30 : decode prog_2_method_4_code 30 = .ok (.iload_n 1, 1) := by decide +kernel
theorem d_Mi_signOf_31 : decode prog_2_method_4_code 31 = .ok (.laload, 1) := by decide +kernel
theorem d_Mi_signOf_32 : decode prog_2_method_4_code 32 = .ok (.lor, 1) := by decide +kernel
theorem d_Mi_signOf_33 : decode prog_2_method_4_code 33 = .ok (.lconst 0, 1) := by decide +kernel
theorem d_Mi_signOf_34 : decode prog_2_method_4_code 34 = .ok (.lcmp, 1) := by decide +kernel
theorem d_Mi_signOf_35 : decode prog_2_method_4_code 35 = .ok (.ifCond .ne 7, 3) := by decide +kernel
theorem d_Mi_signOf_38 : decode prog_2_method_4_code 38 = .ok (.iconst 0, 1) := by decide +kernel
theorem d_Mi_signOf_39 : decode prog_2_method_4_code 39 = .ok (.goto 4, 3) := by decide +kernel
theorem d_Mi_signOf_42 : decode prog_2_method_4_code 42 = .ok (.iconst 1, 1) := by decide +kernel
theorem d_Mi_signOf_43 : decode prog_2_method_4_code 43 = .ok (.ireturn, 1) := by decide +kernel
def f_M_signOf (m_low_n : Nat) (m_low : Nat → Int64) (m_middle_n : Nat) (m_middle : Nat → Int64) (m_high_n : Nat) (m_high : Nat → Int64) (set0 : Int32) : Option (Int32) :=
  ck_in set0 m_high_n <| ck_if (0 ≤ (lg_cmp (m_high set0.toNatClampNeg) 0)) (ck_in set0 m_low_n <| ck_in set0 m_middle_n <| ck_in set0 m_high_n <| ck_if ((lg_cmp (((m_low set0.toNatClampNeg) ||| (m_middle set0.toNatClampNeg)) ||| (m_high set0.toNatClampNeg)) 0) = 0) (some 0) (some 1)) (some (-1))
set_option maxHeartbeats 4000000 in
set_option maxRecDepth 100000 in
theorem c_M_signOf (l : Launch) (dC : Nat → ClassId) (dI : Nat → Nat → Nat) (cI cJ cB cZ cT cN : ClassId) (sz : Nat) (h_m : Nat) (h_m_low : Nat) (h_m_middle : Nat) (h_m_high : Nat) (m_low_n : Nat) (m_low : Nat → Int64) (m_middle_n : Nat) (m_middle : Nat → Int64) (m_high_n : Nat) (m_high : Nat → Int64) (set0 : Int32) (r : Int32) (h : f_M_signOf m_low_n m_low m_middle_n m_middle m_high_n m_high set0 = some r) : Met l y_Mi_signOf w_Mi_signOf ({ frames := 0, cells := 0, slots := 0, locals := 0 } : Room) (va_Pc [.ref h_m, .int set0] (fun U => U.heap.size = sz ∧ va_P (dC, dI) cl_all [(h_m, .inr (0, [.ref h_m_low, .ref h_m_middle, .ref h_m_high])), (h_m_low, .inl (cJ, m_low_n, .inr (.inl m_low))), (h_m_middle, .inl (cJ, m_middle_n, .inr (.inl m_middle))), (h_m_high, .inl (cJ, m_high_n, .inr (.inl m_high)))] U.heap ∧ va_K (dC, dI) cl_all [(cI, .int), (cJ, .long), (cB, .byte), (cZ, .boolean), (cT, .object "BasisWalk$Table"), (cN, .object "BasisWalkModel$Num")] U ∧ NW U ∧ va_D (fun _ => True) [(h_m, .inr (0, [.ref h_m_low, .ref h_m_middle, .ref h_m_high])), (h_m_low, .inl (cJ, m_low_n, .inr (.inl m_low))), (h_m_middle, .inl (cJ, m_middle_n, .inr (.inl m_middle))), (h_m_high, .inl (cJ, m_high_n, .inr (.inl m_high)))])) (va_Qi (fun (v : Int32) (_ : Unit) => v = r) (fun (u : Unit) (t : State) => va_P (dC, dI) cl_all [(h_m, .inr (0, [.ref h_m_low, .ref h_m_middle, .ref h_m_high])), (h_m_low, .inl (cJ, m_low_n, .inr (.inl m_low))), (h_m_middle, .inl (cJ, m_middle_n, .inr (.inl m_middle))), (h_m_high, .inl (cJ, m_high_n, .inr (.inl m_high)))] t.heap ∧ va_K (dC, dI) cl_all [(cI, .int), (cJ, .long), (cB, .byte), (cZ, .boolean), (cT, .object "BasisWalk$Table"), (cN, .object "BasisWalkModel$Num")] t ∧ va_D (va_A [(h_m, .inr (0, [.ref h_m_low, .ref h_m_middle, .ref h_m_high])), (h_m_low, .inl (cJ, m_low_n, .inr (.inl m_low))), (h_m_middle, .inl (cJ, m_middle_n, .inr (.inl m_middle))), (h_m_high, .inl (cJ, m_high_n, .inr (.inl m_high)))] sz) [(h_m, .inr (0, [.ref h_m_low, .ref h_m_middle, .ref h_m_high])), (h_m_low, .inl (cJ, m_low_n, .inr (.inl m_low))), (h_m_middle, .inl (cJ, m_middle_n, .inr (.inl m_middle))), (h_m_high, .inl (cJ, m_high_n, .inr (.inl m_high)))]) (va_A [(h_m, .inr (0, [.ref h_m_low, .ref h_m_middle, .ref h_m_high])), (h_m_low, .inl (cJ, m_low_n, .inr (.inl m_low))), (h_m_middle, .inl (cJ, m_middle_n, .inr (.inl m_middle))), (h_m_high, .inl (cJ, m_high_n, .inr (.inl m_high)))] sz)) 0 0 (va_A [(h_m, .inr (0, [.ref h_m_low, .ref h_m_middle, .ref h_m_high])), (h_m_low, .inl (cJ, m_low_n, .inr (.inl m_low))), (h_m_middle, .inl (cJ, m_middle_n, .inr (.inl m_middle))), (h_m_high, .inl (cJ, m_high_n, .inr (.inl m_high)))] sz) := by
  refine Met.ofW (cc := prog_2_method_4_code) (maxL := 2) (ret := (Option.some Jvm.ClassFile.FieldType.int)) (by decide) rfl ?_
  intro p e s m args below meth c s₁ B hml hv
  obtain ⟨hAR, hsz, hP, hK, hN, hD0⟩ := hv
  have hx := B.exec
  have hb := B.bytes
  have hr := B.returns
  have hts := atoms_spec (ws := w_Mi_signOf) B.pre
  have hown : s.vm.findClass "BasisWalk$Minors" = some m.cls := findClass_of_methodNamed B.named
  have hlocks := B.notSynchronized
  clear B
  subst hsz
  have hD := hD0.self (sz := s.heap.size)
  generalize hAe : va_A [(h_m, .inr (0, [.ref h_m_low, .ref h_m_middle, .ref h_m_high])), (h_m_low, .inl (cJ, m_low_n, .inr (.inl m_low))), (h_m_middle, .inl (cJ, m_middle_n, .inr (.inl m_middle))), (h_m_high, .inl (cJ, m_high_n, .inr (.inl m_high)))] s.heap.size = A at hD ⊢
  have hA : ∀ q : Nat, s.heap.size ≤ q → A q := fun q h => by rw [← hAe]; exact Or.inr h
  clear hAe hD0
  have hS : va_S A s.heap s.heap [] := va_S.rf
  have hl := lv_entry ([.ref h_m, .int set0]) (n := 2) (Nat.le_of_ble_eq_true rfl)
  subst hAR
  rw [lg_entry_eq]
  generalize (lg_sl ([.ref h_m, .int set0]) ++ List.replicate (2 - (lg_sl ([.ref h_m, .int set0])).length) Slot.unset).toArray = ls at hl ⊢
  have hl : lv_has ls 2 [(0, .ref h_m), (1, .int set0)] := hl
  change W p l e ({ frames := 0, cells := 0, slots := 0, locals := 0 } : Room) s m _ below meth c s.heap [] 0 0 _ _
  generalize hARe : ([.ref h_m, .int set0] : List Value).toArray = AR at hts ⊢
  clear hARe
  generalize hQ : MQ below _ AR s 0 0 A = QQ
  have fl0 := hts _ (List.mem_cons_of_mem _ tw_117)
  have iw1 := (fun w hw => List.mem_cons_of_mem _ (in_Mi w hw) : ∀ w ∈ u_ws "BasisWalk$Minors" T_Mi 3, w ∈ w_Mi_signOf)
  have fl2 := hts _ (List.mem_cons_of_mem _ tw_115)
  have fl3 := hts _ (List.mem_cons_of_mem _ tw_116)
  obtain ⟨H, hHe⟩ : ∃ H : Heap, H = s.heap := ⟨_, rfl⟩
  rw [← hHe] at hP ⊢
  replace hS : va_S A s.heap H [] := by rw [hHe]; exact va_S.rf
  clear hHe
  unfold f_M_signOf at h
  refine lv_aload_n hx hb d_Mi_signOf_0 rfl (lv_at hl 0 rfl) ?_
  refine va_get (D := (dC, dI)) (ci := 0) (v := .ref h_m_high) (C := "BasisWalk$Minors") (T := T_Mi) (N := 3) hx hb hts iw1 hown hK hP 0 rfl rfl 2 (by decide) fl0 (fun _ h9 => h9) rfl d_Mi_signOf_1 ?_
  refine lv_iload_n hx hb d_Mi_signOf_4 rfl (lv_at hl 1 rfl) ?_
  obtain ⟨g_1, h⟩ := ck_in_s h
  refine va_lald hx hb hK hP 3 1 rfl rfl g_1 d_Mi_signOf_5 ?_
  refine lv_lconst (v := 0) hx hb d_Mi_signOf_6 (by decide) ?_
  refine W.lcmp hx hb d_Mi_signOf_7 ?_
  refine lv_if_ge (tgt := 13) hx hb d_Mi_signOf_8 (by decide) (fun c_2 => ?_) (fun c_2 => ?_)
  · replace h := ck_if_t h c_2
    refine lv_aload_n hx hb d_Mi_signOf_13 rfl (lv_at hl 0 rfl) ?_
    refine va_get (D := (dC, dI)) (ci := 0) (v := .ref h_m_low) (C := "BasisWalk$Minors") (T := T_Mi) (N := 3) hx hb hts iw1 hown hK hP 0 rfl rfl 0 (by decide) fl2 (fun _ h9 => h9) rfl d_Mi_signOf_14 ?_
    refine lv_iload_n hx hb d_Mi_signOf_17 rfl (lv_at hl 1 rfl) ?_
    obtain ⟨g_3, h⟩ := ck_in_s h
    refine va_lald hx hb hK hP 1 1 rfl rfl g_3 d_Mi_signOf_18 ?_
    refine lv_aload_n hx hb d_Mi_signOf_19 rfl (lv_at hl 0 rfl) ?_
    refine va_get (D := (dC, dI)) (ci := 0) (v := .ref h_m_middle) (C := "BasisWalk$Minors") (T := T_Mi) (N := 3) hx hb hts iw1 hown hK hP 0 rfl rfl 1 (by decide) fl3 (fun _ h9 => h9) rfl d_Mi_signOf_20 ?_
    refine lv_iload_n hx hb d_Mi_signOf_23 rfl (lv_at hl 1 rfl) ?_
    obtain ⟨g_4, h⟩ := ck_in_s h
    refine va_lald hx hb hK hP 2 1 rfl rfl g_4 d_Mi_signOf_24 ?_
    refine lv_lor hx hb d_Mi_signOf_25 ?_
    refine lv_aload_n hx hb d_Mi_signOf_26 rfl (lv_at hl 0 rfl) ?_
    refine va_get (D := (dC, dI)) (ci := 0) (v := .ref h_m_high) (C := "BasisWalk$Minors") (T := T_Mi) (N := 3) hx hb hts iw1 hown hK hP 0 rfl rfl 2 (by decide) fl0 (fun _ h9 => h9) rfl d_Mi_signOf_27 ?_
    refine lv_iload_n hx hb d_Mi_signOf_30 rfl (lv_at hl 1 rfl) ?_
    obtain ⟨g_5, h⟩ := ck_in_s h
    refine va_lald hx hb hK hP 3 1 rfl rfl g_5 d_Mi_signOf_31 ?_
    refine lv_lor hx hb d_Mi_signOf_32 ?_
    refine lv_lconst (v := 0) hx hb d_Mi_signOf_33 (by decide) ?_
    refine W.lcmp hx hb d_Mi_signOf_34 ?_
    refine lv_if_ne (tgt := 42) hx hb d_Mi_signOf_35 (by decide) (fun c_6 => ?_) (fun c_6 => ?_)
    · replace h := ck_if_f h c_6
      refine lv_iconst (v := 1) hx hb d_Mi_signOf_42 (by decide) ?_
      obtain rfl := Option.some.inj h
      subst hQ
      exact W.iret (v := 1) hx hb hr (fun t ht hW => ⟨⟨1, (), rfl, rfl, by rw [ht]; exact hP, va_K.moved hW.alike hK, hD⟩, hS.F ht⟩) hS.2.2 d_Mi_signOf_43
    · replace h := ck_if_t h c_6
      refine lv_iconst (v := 0) hx hb d_Mi_signOf_38 (by decide) ?_
      refine lv_goto (tgt := 43) hx hb d_Mi_signOf_39 (by decide) ?_
      obtain rfl := Option.some.inj h
      subst hQ
      exact W.iret (v := 0) hx hb hr (fun t ht hW => ⟨⟨0, (), rfl, rfl, by rw [ht]; exact hP, va_K.moved hW.alike hK, hD⟩, hS.F ht⟩) hS.2.2 d_Mi_signOf_43
  · replace h := ck_if_f h c_2
    refine lv_iconst (v := (-1)) hx hb d_Mi_signOf_11 (by decide) ?_
    obtain rfl := Option.some.inj h
    subst hQ
    exact W.iret (v := (-1)) hx hb hr (fun t ht hW => ⟨⟨(-1), (), rfl, rfl, by rw [ht]; exact hP, va_K.moved hW.alike hK, hD⟩, hS.F ht⟩) hS.2.2 d_Mi_signOf_12
