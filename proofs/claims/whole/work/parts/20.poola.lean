theorem d_Mo_at_0 : decode prog_7_method_2_code 0 = .ok (.aload_n 0, 1) := by decide +kernel
theorem d_Mo_at_1 : decode prog_7_method_2_code 1 = .ok (.getfield 34, 3) := by decide +kernel
theorem d_Mo_at_4 : decode prog_7_method_2_code 4 = .ok (.bipush 12, 2) := by decide +kernel
theorem d_Mo_at_6 : decode prog_7_method_2_code 6 = .ok (.iload_n 1, 1) := by decide +kernel
theorem d_Mo_at_7 : decode prog_7_method_2_code 7 = .ok (.imul, 1) := by decide +kernel
theorem d_Mo_at_8 : decode prog_7_method_2_code 8 = .ok (.iload_n 2, 1) := by decide +kernel
theorem d_Mo_at_9 : decode prog_7_method_2_code 9 = .ok (.iadd, 1) := by decide +kernel
theorem d_Mo_at_10 : decode prog_7_method_2_code 10 = .ok (.aaload, 1) := by decide +kernel
theorem d_Mo_at_11 : decode prog_7_method_2_code 11 = .ok (.areturn, 1) := by decide +kernel
def f_R_at (i0 : Int32) (j0 : Int32) : Option (Nat) :=
  ck_in ((12 * i0) + j0) 156 <| ck_nm (((12 * i0) + j0).toNatClampNeg) <| fun kp_2 => some kp_2
set_option maxHeartbeats 4000000 in
set_option maxRecDepth 100000 in
theorem c_R_at (l : Launch) (dC : Nat → ClassId) (dI : Nat → Nat → Nat) (cI cJ cB cZ cT cN : ClassId) (sz : Nat) (ha NA ND : Nat → Nat) (m_rows : Int32) (m_columns : Int32) (m_prime : Int32) (m_small : Nat → Int32) (m_pivots : Nat → Int32) (m_freeRows : Nat → Int32) (m_freeColumns : Nat → Int32) (m_smallMinor : Nat → Int32) (m_fields : Nat → Int32) (m_rowCounts : Nat → Int32) (m_elements : Nat → Int32) (m_numbers : Nat → Int32) (m_known : Nat → Int32) (m_ranks : Nat → Int32) (m_rankOf : Nat → Int32) (m_signOf : Nat → Int32) (m_order : Nat → Int32) (m_sizes : Nat → Int32) (m_coefficients : Nat → Int64) (m_choices : Nat → Int64) (m_sorted : Nat → Int32) (pn : Nat → Int32) (pm : Nat → Int32) (pd : Nat → Nat → Int32) (i0 : Int32) (j0 : Int32) (r : Nat) (h : f_R_at i0 j0 = some r) : Met l y_Mo_at w_Mo_at ({ frames := 0, cells := 0, slots := 0, locals := 0 } : Room) (va_Pc [.ref (ha 0), .int i0, .int j0] (fun U => U.heap.size = sz ∧ va_P (dC, dI) cl_all (xw cI cJ cB cZ cN ha NA m_rows m_columns m_prime m_small m_pivots m_freeRows m_freeColumns m_smallMinor m_fields m_rowCounts m_elements m_numbers m_known m_ranks m_rankOf m_signOf m_order m_sizes m_coefficients m_choices m_sorted ++ po cI NA ND pn pm pd) U.heap ∧ va_K (dC, dI) cl_all [(cI, .int), (cJ, .long), (cB, .byte), (cZ, .boolean), (cT, .object "BasisWalk$Table"), (cN, .object "BasisWalkModel$Num")] U ∧ NW U ∧ va_D (fun _ => True) (xw cI cJ cB cZ cN ha NA m_rows m_columns m_prime m_small m_pivots m_freeRows m_freeColumns m_smallMinor m_fields m_rowCounts m_elements m_numbers m_known m_ranks m_rankOf m_signOf m_order m_sizes m_coefficients m_choices m_sorted ++ po cI NA ND pn pm pd))) (va_Qr (fun u : Nat => u = r) (fun (u : Nat) (a : Nat) (t : State) => a = NA u ∧ u < 200 ∧ va_P (dC, dI) cl_all (xw cI cJ cB cZ cN ha NA m_rows m_columns m_prime m_small m_pivots m_freeRows m_freeColumns m_smallMinor m_fields m_rowCounts m_elements m_numbers m_known m_ranks m_rankOf m_signOf m_order m_sizes m_coefficients m_choices m_sorted ++ po cI NA ND pn pm pd) t.heap ∧ va_K (dC, dI) cl_all [(cI, .int), (cJ, .long), (cB, .byte), (cZ, .boolean), (cT, .object "BasisWalk$Table"), (cN, .object "BasisWalkModel$Num")] t ∧ va_D (va_A (xw cI cJ cB cZ cN ha NA m_rows m_columns m_prime m_small m_pivots m_freeRows m_freeColumns m_smallMinor m_fields m_rowCounts m_elements m_numbers m_known m_ranks m_rankOf m_signOf m_order m_sizes m_coefficients m_choices m_sorted ++ po cI NA ND pn pm pd) sz) (xw cI cJ cB cZ cN ha NA m_rows m_columns m_prime m_small m_pivots m_freeRows m_freeColumns m_smallMinor m_fields m_rowCounts m_elements m_numbers m_known m_ranks m_rankOf m_signOf m_order m_sizes m_coefficients m_choices m_sorted ++ po cI NA ND pn pm pd)) (va_A (xw cI cJ cB cZ cN ha NA m_rows m_columns m_prime m_small m_pivots m_freeRows m_freeColumns m_smallMinor m_fields m_rowCounts m_elements m_numbers m_known m_ranks m_rankOf m_signOf m_order m_sizes m_coefficients m_choices m_sorted ++ po cI NA ND pn pm pd) sz)) 0 0 (va_A (xw cI cJ cB cZ cN ha NA m_rows m_columns m_prime m_small m_pivots m_freeRows m_freeColumns m_smallMinor m_fields m_rowCounts m_elements m_numbers m_known m_ranks m_rankOf m_signOf m_order m_sizes m_coefficients m_choices m_sorted ++ po cI NA ND pn pm pd) sz) := by
  refine Met.ofW (cc := prog_7_method_2_code) (maxL := 3) (ret := (Option.some (Jvm.ClassFile.FieldType.object "BasisWalkModel$Num"))) (by decide) rfl ?_
  intro p e s m args below meth c s₁ B hml hv
  obtain ⟨hAR, hsz, hP, hK, hN, hD0⟩ := hv
  have hx := B.exec
  have hb := B.bytes
  have hr := B.returns
  have hts := atoms_spec (ws := w_Mo_at) B.pre
  have hown : s.vm.findClass "BasisWalkModel" = some m.cls := findClass_of_methodNamed B.named
  have hlocks := B.notSynchronized
  clear B
  subst hsz
  have hD := hD0.self (sz := s.heap.size)
  generalize hAe : va_A (xw cI cJ cB cZ cN ha NA m_rows m_columns m_prime m_small m_pivots m_freeRows m_freeColumns m_smallMinor m_fields m_rowCounts m_elements m_numbers m_known m_ranks m_rankOf m_signOf m_order m_sizes m_coefficients m_choices m_sorted ++ po cI NA ND pn pm pd) s.heap.size = A at hD ⊢
  have hA : ∀ q : Nat, s.heap.size ≤ q → A q := fun q h => by rw [← hAe]; exact Or.inr h
  clear hAe hD0
  have hS : va_S A s.heap s.heap [] := va_S.rf
  have hl := lv_entry ([.ref (ha 0), .int i0, .int j0]) (n := 3) (Nat.le_of_ble_eq_true rfl)
  subst hAR
  rw [lg_entry_eq]
  generalize (lg_sl ([.ref (ha 0), .int i0, .int j0]) ++ List.replicate (3 - (lg_sl ([.ref (ha 0), .int i0, .int j0])).length) Slot.unset).toArray = ls at hl ⊢
  have hl : lv_has ls 3 [(0, .ref (ha 0)), (1, .int i0), (2, .int j0)] := hl
  change W p l e ({ frames := 0, cells := 0, slots := 0, locals := 0 } : Room) s m _ below meth c s.heap [] 0 0 _ _
  generalize hARe : ([.ref (ha 0), .int i0, .int j0] : List Value).toArray = AR at hts ⊢
  clear hARe
  generalize hQ : MQ below _ AR s 0 0 A = QQ
  have fl0 := hts _ (List.mem_cons_of_mem _ tw_363)
  have iw1 := (fun w hw => List.mem_cons_of_mem _ (in_Mo w hw) : ∀ w ∈ u_ws "BasisWalkModel" T_Mo 31, w ∈ w_Mo_at)
  obtain ⟨H, hHe⟩ : ∃ H : Heap, H = s.heap := ⟨_, rfl⟩
  rw [← hHe] at hP ⊢
  replace hS : va_S A s.heap H [] := by rw [hHe]; exact va_S.rf
  clear hHe
  unfold f_R_at at h
  refine lv_aload_n hx hb d_Mo_at_0 rfl (lv_at hl 0 rfl) ?_
  refine va_get (D := (dC, dI)) (ci := 6) (v := .ref (ha 1)) (C := "BasisWalkModel") (T := T_Mo) (N := 31) hx hb hts iw1 hown hK hP 0 rfl rfl 8 (by decide) fl0 (fun _ h9 => h9) rfl d_Mo_at_1 ?_
  refine lv_bipush (v := 12) hx hb d_Mo_at_4 (by decide) ?_
  refine lv_iload_n hx hb d_Mo_at_6 rfl (lv_at hl 1 rfl) ?_
  refine lv_imul hx hb d_Mo_at_7 ?_
  refine lv_iload_n hx hb d_Mo_at_8 rfl (lv_at hl 2 rfl) ?_
  refine lv_iadd hx hb d_Mo_at_9 ?_
  obtain ⟨g_1, h⟩ := ck_in_s h
  refine va_aldq hx hb hK hP 1 5 rfl rfl g_1 d_Mo_at_10 ?_
  obtain ⟨kp_2, ekp_2⟩ : ∃ y : Nat, y = ((12 * i0) + j0).toNatClampNeg := ⟨_, rfl⟩
  replace h := ck_nm_s h ekp_2
  have hkp_2 : kp_2 < 200 := by have q9 := vp_lt g_1; omega
  refine W.eq (g2 := F0 m 11 ls [.ref (NA kp_2)]) (by rw [ekp_2]; rfl) ?_
  obtain rfl := Option.some.inj h
  subst hQ
  exact W.aret hx hb hr (Or.inl ⟨_, rfl⟩) (Or.inr ⟨_, rfl⟩) (fun t ht hW => ⟨⟨kp_2, NA kp_2, rfl, rfl, rfl, hkp_2, by rw [ht]; exact hP, va_K.moved hW.alike hK, hD⟩, hS.F ht⟩) hS.2.2 d_Mo_at_11
theorem d_Mo_lay_0 : decode prog_7_method_4_code 0 = .ok (.aload_n 0, 1) := by decide +kernel
theorem d_Mo_lay_1 : decode prog_7_method_4_code 1 = .ok (.getfield 38, 3) := by decide +kernel
theorem d_Mo_lay_4 : decode prog_7_method_4_code 4 = .ok (.ifCond .ne 16, 3) := by decide +kernel
theorem d_Mo_lay_7 : decode prog_7_method_4_code 7 = .ok (.aload_n 0, 1) := by decide +kernel
theorem d_Mo_lay_8 : decode prog_7_method_4_code 8 = .ok (.iload_n 1, 1) := by decide +kernel
theorem d_Mo_lay_9 : decode prog_7_method_4_code 9 = .ok (.iload_n 2, 1) := by decide +kernel
theorem d_Mo_lay_10 : decode prog_7_method_4_code 10 = .ok (.invokevirtual 47, 3) := by decide +kernel
theorem d_Mo_lay_13 : decode prog_7_method_4_code 13 = .ok (.lload_n 3, 1) := by decide +kernel
theorem d_Mo_lay_14 : decode prog_7_method_4_code 14 = .ok (.invokevirtual 51, 3) := by decide +kernel
theorem d_Mo_lay_17 : decode prog_7_method_4_code 17 = .ok (.goto 34, 3) := by decide +kernel
theorem d_Mo_lay_20 : decode prog_7_method_4_code 20 = .ok (.aload_n 0, 1) := by decide +kernel
theorem d_Mo_lay_21 : decode prog_7_method_4_code 21 = .ok (.getfield 55, 3) := by decide +kernel
theorem d_Mo_lay_24 : decode prog_7_method_4_code 24 = .ok (.bipush 12, 2) := by decide +kernel
theorem d_Mo_lay_26 : decode prog_7_method_4_code 26 = .ok (.iload_n 1, 1) := by decide +kernel
theorem d_Mo_lay_27 : decode prog_7_method_4_code 27 = .ok (.imul, 1) := by decide +kernel
theorem d_Mo_lay_28 : decode prog_7_method_4_code 28 = .ok (.iload_n 2, 1) := by decide +kernel
theorem d_Mo_lay_29 : decode prog_7_method_4_code 29 = .ok (.iadd, 1) := by decide +kernel
theorem d_Mo_lay_30 : decode prog_7_method_4_code 30 = .ok (.lload_n 3, 1) := by decide +kernel
theorem d_Mo_lay_31 : decode prog_7_method_4_code 31 = .ok (.aload_n 0, 1) := by decide +kernel
theorem d_Mo_lay_32 : decode prog_7_method_4_code 32 = .ok (.getfield 38, 3) := by decide +kernel
theorem d_Mo_lay_35 : decode prog_7_method_4_code 35 = .ok (.i2l, 1) := by decide +kernel
theorem d_Mo_lay_36 : decode prog_7_method_4_code 36 = .ok (.lrem, 1) := by decide +kernel
theorem d_Mo_lay_37 : decode prog_7_method_4_code 37 = .ok (.aload_n 0, 1) := by decide +kernel
theorem d_Mo_lay_38 : decode prog_7_method_4_code 38 = .ok (.getfield 38, 3) := by decide +kernel
theorem d_Mo_lay_41 : decode prog_7_method_4_code 41 = .ok (.i2l, 1) := by decide +kernel
theorem d_Mo_lay_42 : decode prog_7_method_4_code 42 = .ok (.ladd, 1) := by decide +kernel
theorem d_Mo_lay_43 : decode prog_7_method_4_code 43 = .ok (.aload_n 0, 1) := by decide +kernel
theorem d_Mo_lay_44 : decode prog_7_method_4_code 44 = .ok (.getfield 38, 3) := by decide +kernel
theorem d_Mo_lay_47 : decode prog_7_method_4_code 47 = .ok (.i2l, 1) := by decide +kernel
theorem d_Mo_lay_48 : decode prog_7_method_4_code 48 = .ok (.lrem, 1) := by decide +kernel
theorem d_Mo_lay_49 : decode prog_7_method_4_code 49 = .ok (.l2i, 1) := by decide +kernel
theorem d_Mo_lay_50 : decode prog_7_method_4_code 50 = .ok (.iastore, 1) := by decide +kernel
theorem d_Mo_lay_51 : decode prog_7_method_4_code 51 = .ok (.return_, 1) := by decide +kernel
def f_R_lay (m_prime : Int32) (m_small : Nat → Int32) (pn : Nat → Int32) (pm : Nat → Int32) (pd : Nat → Nat → Int32) (i0 : Int32) (j0 : Int32) (v0 : Int64) : Option ((Nat → Int32) × (Nat → Int32) × (Nat → Int32) × (Nat → Nat → Int32)) :=
  ck_if (m_prime = 0) (ck_b1 (f_R_at i0 j0) <| fun r_5 => ck_b3 (f_N_small 160 (pd r_5) v0) <| fun u_7 u_8 u_9 => ck_nm (upd pn r_5 u_7) <| fun pn_10 => ck_nm (upd pm r_5 u_8) <| fun pm_11 => ck_nm (va_up pd r_5 u_9) <| fun pd_12 => some (m_small, pn_10, pm_11, pd_12)) (ck_nzL m_prime.toInt64 <| ck_nzL m_prime.toInt64 <| ck_in ((12 * i0) + j0) 156 <| some ((upd m_small ((12 * i0) + j0).toNatClampNeg ((((v0 - v0 / m_prime.toInt64 * m_prime.toInt64) + m_prime.toInt64) - ((v0 - v0 / m_prime.toInt64 * m_prime.toInt64) + m_prime.toInt64) / m_prime.toInt64 * m_prime.toInt64).toInt32)), pn, pm, pd))
set_option maxHeartbeats 4000000 in
set_option maxRecDepth 100000 in
theorem c_R_lay (l : Launch) (dC : Nat → ClassId) (dI : Nat → Nat → Nat) (cI cJ cB cZ cT cN : ClassId) (sz : Nat) (ha NA ND : Nat → Nat) (m_rows : Int32) (m_columns : Int32) (m_prime : Int32) (m_small : Nat → Int32) (m_pivots : Nat → Int32) (m_freeRows : Nat → Int32) (m_freeColumns : Nat → Int32) (m_smallMinor : Nat → Int32) (m_fields : Nat → Int32) (m_rowCounts : Nat → Int32) (m_elements : Nat → Int32) (m_numbers : Nat → Int32) (m_known : Nat → Int32) (m_ranks : Nat → Int32) (m_rankOf : Nat → Int32) (m_signOf : Nat → Int32) (m_order : Nat → Int32) (m_sizes : Nat → Int32) (m_coefficients : Nat → Int64) (m_choices : Nat → Int64) (m_sorted : Nat → Int32) (pn : Nat → Int32) (pm : Nat → Int32) (pd : Nat → Nat → Int32) (i0 : Int32) (j0 : Int32) (v0 : Int64) (r : (Nat → Int32) × (Nat → Int32) × (Nat → Int32) × (Nat → Nat → Int32)) (h : f_R_lay m_prime m_small pn pm pd i0 j0 v0 = some r) : Met l y_Mo_lay w_Mo_lay ({ frames := 2, cells := 0, slots := 0, locals := 44 } : Room) (va_Pc [.ref (ha 0), .int i0, .int j0, .long v0] (fun U => U.heap.size = sz ∧ va_P (dC, dI) cl_all (xw cI cJ cB cZ cN ha NA m_rows m_columns m_prime m_small m_pivots m_freeRows m_freeColumns m_smallMinor m_fields m_rowCounts m_elements m_numbers m_known m_ranks m_rankOf m_signOf m_order m_sizes m_coefficients m_choices m_sorted ++ po cI NA ND pn pm pd) U.heap ∧ va_K (dC, dI) cl_all [(cI, .int), (cJ, .long), (cB, .byte), (cZ, .boolean), (cT, .object "BasisWalk$Table"), (cN, .object "BasisWalkModel$Num")] U ∧ NW U ∧ va_D (fun _ => True) (xw cI cJ cB cZ cN ha NA m_rows m_columns m_prime m_small m_pivots m_freeRows m_freeColumns m_smallMinor m_fields m_rowCounts m_elements m_numbers m_known m_ranks m_rankOf m_signOf m_order m_sizes m_coefficients m_choices m_sorted ++ po cI NA ND pn pm pd))) (va_Qv (fun u : (Nat → Int32) × (Nat → Int32) × (Nat → Int32) × (Nat → Nat → Int32) => u = r) (fun (u : (Nat → Int32) × (Nat → Int32) × (Nat → Int32) × (Nat → Nat → Int32)) (t : State) => va_P (dC, dI) cl_all (xw cI cJ cB cZ cN ha NA m_rows m_columns m_prime u.1 m_pivots m_freeRows m_freeColumns m_smallMinor m_fields m_rowCounts m_elements m_numbers m_known m_ranks m_rankOf m_signOf m_order m_sizes m_coefficients m_choices m_sorted ++ po cI NA ND u.2.1 u.2.2.1 u.2.2.2) t.heap ∧ va_K (dC, dI) cl_all [(cI, .int), (cJ, .long), (cB, .byte), (cZ, .boolean), (cT, .object "BasisWalk$Table"), (cN, .object "BasisWalkModel$Num")] t ∧ va_D (va_A (xw cI cJ cB cZ cN ha NA m_rows m_columns m_prime m_small m_pivots m_freeRows m_freeColumns m_smallMinor m_fields m_rowCounts m_elements m_numbers m_known m_ranks m_rankOf m_signOf m_order m_sizes m_coefficients m_choices m_sorted ++ po cI NA ND pn pm pd) sz) (xw cI cJ cB cZ cN ha NA m_rows m_columns m_prime u.1 m_pivots m_freeRows m_freeColumns m_smallMinor m_fields m_rowCounts m_elements m_numbers m_known m_ranks m_rankOf m_signOf m_order m_sizes m_coefficients m_choices m_sorted ++ po cI NA ND u.2.1 u.2.2.1 u.2.2.2)) (va_A (xw cI cJ cB cZ cN ha NA m_rows m_columns m_prime m_small m_pivots m_freeRows m_freeColumns m_smallMinor m_fields m_rowCounts m_elements m_numbers m_known m_ranks m_rankOf m_signOf m_order m_sizes m_coefficients m_choices m_sorted ++ po cI NA ND pn pm pd) sz)) 0 0 (va_A (xw cI cJ cB cZ cN ha NA m_rows m_columns m_prime m_small m_pivots m_freeRows m_freeColumns m_smallMinor m_fields m_rowCounts m_elements m_numbers m_known m_ranks m_rankOf m_signOf m_order m_sizes m_coefficients m_choices m_sorted ++ po cI NA ND pn pm pd) sz) := by
  refine Met.ofW (cc := prog_7_method_4_code) (maxL := 5) (ret := (Option.none : Option Jvm.ClassFile.FieldType)) (by decide) rfl ?_
  intro p e s m args below meth c s₁ B hml hv
  obtain ⟨hAR, hsz, hP, hK, hN, hD0⟩ := hv
  have hx := B.exec
  have hb := B.bytes
  have hr := B.returns
  have hts := atoms_spec (ws := w_Mo_lay) B.pre
  have hown : s.vm.findClass "BasisWalkModel" = some m.cls := findClass_of_methodNamed B.named
  have hlocks := B.notSynchronized
  clear B
  subst hsz
  have hD := hD0.self (sz := s.heap.size)
  generalize hAe : va_A (xw cI cJ cB cZ cN ha NA m_rows m_columns m_prime m_small m_pivots m_freeRows m_freeColumns m_smallMinor m_fields m_rowCounts m_elements m_numbers m_known m_ranks m_rankOf m_signOf m_order m_sizes m_coefficients m_choices m_sorted ++ po cI NA ND pn pm pd) s.heap.size = A at hD ⊢
  have hA : ∀ q : Nat, s.heap.size ≤ q → A q := fun q h => by rw [← hAe]; exact Or.inr h
  clear hAe hD0
  have hS : va_S A s.heap s.heap [] := va_S.rf
  have hl := lv_entry ([.ref (ha 0), .int i0, .int j0, .long v0]) (n := 5) (Nat.le_of_ble_eq_true rfl)
  subst hAR
  rw [lg_entry_eq]
  generalize (lg_sl ([.ref (ha 0), .int i0, .int j0, .long v0]) ++ List.replicate (5 - (lg_sl ([.ref (ha 0), .int i0, .int j0, .long v0])).length) Slot.unset).toArray = ls at hl ⊢
  have hl : lv_has ls 5 [(0, .ref (ha 0)), (1, .int i0), (2, .int j0), (3, .long v0)] := hl
  change W p l e ({ frames := 2, cells := 0, slots := 0, locals := 44 } : Room) s m _ below meth c s.heap [] 0 0 _ _
  generalize hARe : ([.ref (ha 0), .int i0, .int j0, .long v0] : List Value).toArray = AR at hts ⊢
  clear hARe
  generalize hQ : MQ below _ AR s 0 0 A = QQ
  have fl0 := hts _ (List.mem_cons_of_mem _ tw_367)
  have iw1 := (fun w hw => List.mem_cons_of_mem _ (in_Mo w hw) : ∀ w ∈ u_ws "BasisWalkModel" T_Mo 31, w ∈ w_Mo_lay)
  have fl2 := hts _ (List.mem_cons_of_mem _ tw_364)
  obtain ⟨H, hHe⟩ : ∃ H : Heap, H = s.heap := ⟨_, rfl⟩
  rw [← hHe] at hP ⊢
  replace hS : va_S A s.heap H [] := by rw [hHe]; exact va_S.rf
  clear hHe
  unfold f_R_lay at h
  refine lv_aload_n hx hb d_Mo_lay_0 rfl (lv_at hl 0 rfl) ?_
  refine va_get (D := (dC, dI)) (ci := 6) (v := .int m_prime) (C := "BasisWalkModel") (T := T_Mo) (N := 31) hx hb hts iw1 hown hK hP 0 rfl rfl 12 (by decide) fl0 (fun _ h9 => h9) rfl d_Mo_lay_1 ?_
  refine lv_if_ne (tgt := 20) hx hb d_Mo_lay_4 (by decide) (fun c_1 => ?_) (fun c_1 => ?_)
  · replace h := ck_if_f h c_1
    refine lv_aload_n hx hb d_Mo_lay_20 rfl (lv_at hl 0 rfl) ?_
    refine va_get (D := (dC, dI)) (ci := 6) (v := .ref (ha 2)) (C := "BasisWalkModel") (T := T_Mo) (N := 31) hx hb hts iw1 hown hK hP 0 rfl rfl 9 (by decide) fl2 (fun _ h9 => h9) rfl d_Mo_lay_21 ?_
    refine lv_bipush (v := 12) hx hb d_Mo_lay_24 (by decide) ?_
    refine lv_iload_n hx hb d_Mo_lay_26 rfl (lv_at hl 1 rfl) ?_
    refine lv_imul hx hb d_Mo_lay_27 ?_
    refine lv_iload_n hx hb d_Mo_lay_28 rfl (lv_at hl 2 rfl) ?_
    refine lv_iadd hx hb d_Mo_lay_29 ?_
    refine lv_lload_n hx hb d_Mo_lay_30 rfl (lv_at hl 3 rfl) ?_
    refine lv_aload_n hx hb d_Mo_lay_31 rfl (lv_at hl 0 rfl) ?_
    refine va_get (D := (dC, dI)) (ci := 6) (v := .int m_prime) (C := "BasisWalkModel") (T := T_Mo) (N := 31) hx hb hts iw1 hown hK hP 0 rfl rfl 12 (by decide) fl0 (fun _ h9 => h9) rfl d_Mo_lay_32 ?_
    refine lv_i2l hx hb d_Mo_lay_35 rfl ?_
    obtain ⟨g_2, h⟩ := ck_nzL_s h
    refine lv_lrem hx hb d_Mo_lay_36 g_2 ?_
    refine lv_aload_n hx hb d_Mo_lay_37 rfl (lv_at hl 0 rfl) ?_
    refine va_get (D := (dC, dI)) (ci := 6) (v := .int m_prime) (C := "BasisWalkModel") (T := T_Mo) (N := 31) hx hb hts iw1 hown hK hP 0 rfl rfl 12 (by decide) fl0 (fun _ h9 => h9) rfl d_Mo_lay_38 ?_
    refine lv_i2l hx hb d_Mo_lay_41 rfl ?_
    refine lv_ladd hx hb d_Mo_lay_42 ?_
    refine lv_aload_n hx hb d_Mo_lay_43 rfl (lv_at hl 0 rfl) ?_
    refine va_get (D := (dC, dI)) (ci := 6) (v := .int m_prime) (C := "BasisWalkModel") (T := T_Mo) (N := 31) hx hb hts iw1 hown hK hP 0 rfl rfl 12 (by decide) fl0 (fun _ h9 => h9) rfl d_Mo_lay_44 ?_
    refine lv_i2l hx hb d_Mo_lay_47 rfl ?_
    obtain ⟨g_3, h⟩ := ck_nzL_s h
    refine lv_lrem hx hb d_Mo_lay_48 g_3 ?_
    refine lv_l2i hx hb d_Mo_lay_49 rfl ?_
    obtain ⟨g_4, h⟩ := ck_in_s h
    refine va_iast hx hb hK hP hD hS 2 0 rfl rfl g_4 d_Mo_lay_50 (fun H locs hP hD hS => ?_)
    have hP : va_P (dC, dI) cl_all (xw cI cJ cB cZ cN ha NA m_rows m_columns m_prime (upd m_small ((12 * i0) + j0).toNatClampNeg ((((v0 - v0 / m_prime.toInt64 * m_prime.toInt64) + m_prime.toInt64) - ((v0 - v0 / m_prime.toInt64 * m_prime.toInt64) + m_prime.toInt64) / m_prime.toInt64 * m_prime.toInt64).toInt32)) m_pivots m_freeRows m_freeColumns m_smallMinor m_fields m_rowCounts m_elements m_numbers m_known m_ranks m_rankOf m_signOf m_order m_sizes m_coefficients m_choices m_sorted ++ po cI NA ND pn pm pd) H := hP
    have hD : va_D A (xw cI cJ cB cZ cN ha NA m_rows m_columns m_prime (upd m_small ((12 * i0) + j0).toNatClampNeg ((((v0 - v0 / m_prime.toInt64 * m_prime.toInt64) + m_prime.toInt64) - ((v0 - v0 / m_prime.toInt64 * m_prime.toInt64) + m_prime.toInt64) / m_prime.toInt64 * m_prime.toInt64).toInt32)) m_pivots m_freeRows m_freeColumns m_smallMinor m_fields m_rowCounts m_elements m_numbers m_known m_ranks m_rankOf m_signOf m_order m_sizes m_coefficients m_choices m_sorted ++ po cI NA ND pn pm pd) := hD
    obtain rfl := Option.some.inj h
    subst hQ
    exact W.vret hx hb hr (fun t ht hW => ⟨⟨((upd m_small ((12 * i0) + j0).toNatClampNeg ((((v0 - v0 / m_prime.toInt64 * m_prime.toInt64) + m_prime.toInt64) - ((v0 - v0 / m_prime.toInt64 * m_prime.toInt64) + m_prime.toInt64) / m_prime.toInt64 * m_prime.toInt64).toInt32)), pn, pm, pd), rfl, rfl, by rw [ht]; exact hP, va_K.moved hW.alike hK, hD⟩, hS.F ht⟩) hS.2.2 d_Mo_lay_51
  · replace h := ck_if_t h c_1
    refine lv_aload_n hx hb d_Mo_lay_7 rfl (lv_at hl 0 rfl) ?_
    refine lv_iload_n hx hb d_Mo_lay_8 rfl (lv_at hl 1 rfl) ?_
    refine lv_iload_n hx hb d_Mo_lay_9 rfl (lv_at hl 2 rfl) ?_
    obtain ⟨r_5, hc_6, h⟩ := ck_b1_s h
    have hPc := hP
    have hDc := hD
    have hFc := pw_free hDc hS hA
    refine va_callr (va_runV (As := [.int i0, .int j0]) (rest := []) ⟨hx, hb, hml, hown, hts⟩ (c_R_at l dC dI cI cJ cB cZ cT cN H.size ha NA ND m_rows m_columns m_prime m_small m_pivots m_freeRows m_freeColumns m_smallMinor m_fields m_rowCounts m_elements m_numbers m_known m_ranks m_rankOf m_signOf m_order m_sizes m_coefficients m_choices m_sorted pn pm pd i0 j0 _ hc_6) (cwV 2 hts (tb_V tw_485 tw_487 tp_21 tw_6 tw_488) rfl rfl rfl (by decide +kernel) ⟨Nat.le_of_ble_eq_true rfl, Nat.le_of_ble_eq_true rfl⟩) ⟨fun a U g mk q => by obtain ⟨q0, q1, qP, qK, qN, qD⟩ := q; exact ⟨q0, q1, qP, va_K.moved (u := U) (U := U.calling g mk a) (Vm.Alike.refl U.vm) qK, qN.same rfl, qD⟩, va_recv hK hPc (ci := 6) (q0 := 0) rfl rfl, fun U hU hW => ⟨rfl, by rw [hU], by rw [hU]; exact hPc, va_K.moved hW.alike hK, hN.warm hW, hDc.weaken (fun _ _ _ _ => trivial)⟩⟩ rfl rfl hl.1 rfl (lv_room (Nat.le_of_ble_eq_true rfl)) d_Mo_lay_10 ⟨Nat.zero_le _, Nat.zero_le _⟩) hS (fun q _ h => hFc q h) hFc (fun u ra t H1 locs ht hvm hw hB hz1 hk1 hS => ?_)
    replace hw := hw.symm
    subst hw
    obtain ⟨hra, hlr_5, hP1, -, hD1⟩ := hB
    subst hra
    rw [ht] at hP1
    have hP : va_P (dC, dI) cl_all (xw cI cJ cB cZ cN ha NA m_rows m_columns m_prime m_small m_pivots m_freeRows m_freeColumns m_smallMinor m_fields m_rowCounts m_elements m_numbers m_known m_ranks m_rankOf m_signOf m_order m_sizes m_coefficients m_choices m_sorted ++ po cI NA ND pn pm pd) H1 := hP1
    have hD : va_D A (xw cI cJ cB cZ cN ha NA m_rows m_columns m_prime m_small m_pivots m_freeRows m_freeColumns m_smallMinor m_fields m_rowCounts m_elements m_numbers m_known m_ranks m_rankOf m_signOf m_order m_sizes m_coefficients m_choices m_sorted ++ po cI NA ND pn pm pd) := hD1.weaken (fun _ _ _ h => hFc _ h)
    generalize H1 = H at hP hS ⊢
    have hP : va_P (dC, dI) cl_all (xw cI cJ cB cZ cN ha NA m_rows m_columns m_prime m_small m_pivots m_freeRows m_freeColumns m_smallMinor m_fields m_rowCounts m_elements m_numbers m_known m_ranks m_rankOf m_signOf m_order m_sizes m_coefficients m_choices m_sorted ++ po cI NA ND pn pm pd) H := hP
    have hD : va_D A (xw cI cJ cB cZ cN ha NA m_rows m_columns m_prime m_small m_pivots m_freeRows m_freeColumns m_smallMinor m_fields m_rowCounts m_elements m_numbers m_known m_ranks m_rankOf m_signOf m_order m_sizes m_coefficients m_choices m_sorted ++ po cI NA ND pn pm pd) := hD
    refine lv_lload_n hx hb d_Mo_lay_13 rfl (lv_at hl 3 rfl) ?_
    obtain ⟨u_7, u_8, u_9, hc_13, h⟩ := ck_b3_s h
    obtain ⟨hPc, hDc⟩ := po_cut (ks := [r_5]) (ks1 hlr_5) (nd1) hP hD
    have hPc : va_P (dC, dI) cl_all [(NA r_5, .inr (5, [.ref (ND r_5), .int (pn r_5), .int (pm r_5)])), (ND r_5, .inl (cI, 160, .inl (pd r_5)))] H := hPc
    have hDc : va_D A [(NA r_5, .inr (5, [.ref (ND r_5), .int (pn r_5), .int (pm r_5)])), (ND r_5, .inl (cI, 160, .inl (pd r_5)))] := hDc
    have hFc := pw_free hDc hS hA
    refine va_callv (va_runV (As := [.long v0]) (rest := []) ⟨hx, hb, hml, hown, hts⟩ (c_N_small l dC dI cI cJ cB cZ cT cN H.size (NA r_5) (ND r_5) (pn r_5) (pm r_5) 160 (pd r_5) v0 _ hc_13) (cwV 1 hts (tb_V tw_489 tw_490 tw_491 tw_7 tw_492) rfl rfl rfl (by decide +kernel) ⟨Nat.le_of_ble_eq_true rfl, Nat.le_of_ble_eq_true rfl⟩) ⟨fun a U g mk q => by obtain ⟨q0, q1, qP, qK, qN, qD⟩ := q; exact ⟨q0, q1, qP, va_K.moved (u := U) (U := U.calling g mk a) (Vm.Alike.refl U.vm) qK, qN.same rfl, qD⟩, va_recv hK hPc (ci := 5) (q0 := 0) rfl rfl, fun U hU hW => ⟨rfl, by rw [hU], by rw [hU]; exact hPc, va_K.moved hW.alike hK, hN.warm hW, hDc.weaken (fun _ _ _ _ => trivial)⟩⟩ rfl rfl hl.1 rfl (lv_room (Nat.le_of_ble_eq_true rfl)) d_Mo_lay_14 ⟨Nat.zero_le _, Nat.zero_le _⟩) hS (fun q _ h => hFc q h) hFc (fun u t H1 locs ht hvm hw hB hz1 hk1 hS => ?_)
    replace hw := hw.symm
    subst hw
    obtain ⟨hP1, -, hD1⟩ := hB
    rw [ht] at hP1
    obtain ⟨pn_10, epn_10⟩ : ∃ y : Nat → Int32, y = (upd pn r_5 u_7) := ⟨_, rfl⟩
    replace h := ck_nm_s h epn_10
    obtain ⟨pm_11, epm_11⟩ : ∃ y : Nat → Int32, y = (upd pm r_5 u_8) := ⟨_, rfl⟩
    replace h := ck_nm_s h epm_11
    obtain ⟨pd_12, epd_12⟩ : ∃ y : Nat → Nat → Int32, y = (va_up pd r_5 u_9) := ⟨_, rfl⟩
    replace h := ck_nm_s h epd_12
    have fq_14 : pn_10 r_5 = u_7 := by simp [epn_10, upd, va_up]
    have fq_15 : pm_11 r_5 = u_8 := by simp [epm_11, upd, va_up]
    have fq_16 : pd_12 r_5 = u_9 := by simp [epd_12, upd, va_up]
    obtain ⟨hP, hD⟩ := po_back (ks := [r_5]) (pn' := pn_10) (pm' := pm_11) (pd' := pd_12) (ks1 hlr_5) hP hD hk1 (by show va_P (dC, dI) cl_all [(NA r_5, .inr (5, [.ref (ND r_5), .int (pn_10 r_5), .int (pm_11 r_5)])), (ND r_5, .inl (cI, 160, .inl (pd_12 r_5)))] H1; rw [fq_14, fq_15, fq_16]; exact hP1) (fun j hj => by simp only [List.mem_cons, List.not_mem_nil, or_false, not_or] at hj; exact ⟨by simp [epn_10, upd, va_up, hj], by simp [epm_11, upd, va_up, hj], by simp [epd_12, upd, va_up, hj]⟩)
    generalize H1 = H at hP hS ⊢
    have hP : va_P (dC, dI) cl_all (xw cI cJ cB cZ cN ha NA m_rows m_columns m_prime m_small m_pivots m_freeRows m_freeColumns m_smallMinor m_fields m_rowCounts m_elements m_numbers m_known m_ranks m_rankOf m_signOf m_order m_sizes m_coefficients m_choices m_sorted ++ po cI NA ND pn_10 pm_11 pd_12) H := hP
    have hD : va_D A (xw cI cJ cB cZ cN ha NA m_rows m_columns m_prime m_small m_pivots m_freeRows m_freeColumns m_smallMinor m_fields m_rowCounts m_elements m_numbers m_known m_ranks m_rankOf m_signOf m_order m_sizes m_coefficients m_choices m_sorted ++ po cI NA ND pn_10 pm_11 pd_12) := hD
    refine lv_goto (tgt := 51) hx hb d_Mo_lay_17 (by decide) ?_
    obtain rfl := Option.some.inj h
    subst hQ
    exact W.vret hx hb hr (fun t ht hW => ⟨⟨(m_small, pn_10, pm_11, pd_12), rfl, rfl, by rw [ht]; exact hP, va_K.moved hW.alike hK, hD⟩, hS.F ht⟩) hS.2.2 d_Mo_lay_51
theorem d_Mo_isZero_0 : decode prog_7_method_5_code 0 = .ok (.aload_n 0, 1) := by decide +kernel
theorem d_Mo_isZero_1 : decode prog_7_method_5_code 1 = .ok (.getfield 38, 3) := by decide +kernel
theorem d_Mo_isZero_4 : decode prog_7_method_5_code 4 = .ok (.ifCond .ne 23, 3) := by decide +kernel
theorem d_Mo_isZero_7 : decode prog_7_method_5_code 7 = .ok (.aload_n 0, 1) := by decide +kernel
theorem d_Mo_isZero_8 : decode prog_7_method_5_code 8 = .ok (.iload_n 1, 1) := by decide +kernel
theorem d_Mo_isZero_9 : decode prog_7_method_5_code 9 = .ok (.iload_n 2, 1) := by decide +kernel
theorem d_Mo_isZero_10 : decode prog_7_method_5_code 10 = .ok (.invokevirtual 47, 3) := by decide +kernel
theorem d_Mo_isZero_13 : decode prog_7_method_5_code 13 = .ok (.getfield 20, 3) := by decide +kernel
theorem d_Mo_isZero_16 : decode prog_7_method_5_code 16 = .ok (.ifCond .ne 7, 3) := by decide +kernel
theorem d_Mo_isZero_19 : decode prog_7_method_5_code 19 = .ok (.iconst 1, 1) := by decide +kernel
theorem d_Mo_isZero_20 : decode prog_7_method_5_code 20 = .ok (.goto 26, 3) := by decide +kernel
theorem d_Mo_isZero_23 : decode prog_7_method_5_code 23 = .ok (.iconst 0, 1) := by decide +kernel
theorem d_Mo_isZero_24 : decode prog_7_method_5_code 24 = .ok (.goto 22, 3) := by decide +kernel
theorem d_Mo_isZero_27 : decode prog_7_method_5_code 27 = .ok (.aload_n 0, 1) := by decide +kernel
theorem d_Mo_isZero_28 : decode prog_7_method_5_code 28 = .ok (.getfield 55, 3) := by decide +kernel
theorem d_Mo_isZero_31 : decode prog_7_method_5_code 31 = .ok (.bipush 12, 2) := by decide +kernel
theorem d_Mo_isZero_33 : decode prog_7_method_5_code 33 = .ok (.iload_n 1, 1) := by decide +kernel
theorem d_Mo_isZero_34 : decode prog_7_method_5_code 34 = .ok (.imul, 1) := by decide +kernel
theorem d_Mo_isZero_35 : decode prog_7_method_5_code 35 = .ok (.iload_n 2, 1) := by decide +kernel
theorem d_Mo_isZero_36 : decode prog_7_method_5_code 36 = .ok (.iadd, 1) := by decide +kernel
theorem d_Mo_isZero_37 : decode prog_7_method_5_code 37 = .ok (.iaload, 1) := by decide +kernel
theorem d_Mo_isZero_38 : decode prog_7_method_5_code 38 = .ok (.ifCond .ne 7, 3) := by decide +kernel
theorem d_Mo_isZero_41 : decode prog_7_method_5_code 41 = .ok (.iconst 1, 1) := by decide +kernel
theorem d_Mo_isZero_42 : decode prog_7_method_5_code 42 = .ok (.goto 4, 3) := by decide +kernel
theorem d_Mo_isZero_45 : decode prog_7_method_5_code 45 = .ok (.iconst 0, 1) := by decide +kernel
theorem d_Mo_isZero_46 : decode prog_7_method_5_code 46 = .ok (.ireturn, 1) := by decide +kernel
def f_R_isZero (m_prime : Int32) (m_small : Nat → Int32) (pn : Nat → Int32) (i0 : Int32) (j0 : Int32) : Option (Int32) :=
  ck_if (m_prime = 0) (ck_b1 (f_R_at i0 j0) <| fun r_4 => ck_if ((pn r_4) = 0) (some 1) (some 0)) (ck_in ((12 * i0) + j0) 156 <| ck_if ((m_small ((12 * i0) + j0).toNatClampNeg) = 0) (some 1) (some 0))
set_option maxHeartbeats 4000000 in
set_option maxRecDepth 100000 in
theorem c_R_isZero (l : Launch) (dC : Nat → ClassId) (dI : Nat → Nat → Nat) (cI cJ cB cZ cT cN : ClassId) (sz : Nat) (ha NA ND : Nat → Nat) (m_rows : Int32) (m_columns : Int32) (m_prime : Int32) (m_small : Nat → Int32) (m_pivots : Nat → Int32) (m_freeRows : Nat → Int32) (m_freeColumns : Nat → Int32) (m_smallMinor : Nat → Int32) (m_fields : Nat → Int32) (m_rowCounts : Nat → Int32) (m_elements : Nat → Int32) (m_numbers : Nat → Int32) (m_known : Nat → Int32) (m_ranks : Nat → Int32) (m_rankOf : Nat → Int32) (m_signOf : Nat → Int32) (m_order : Nat → Int32) (m_sizes : Nat → Int32) (m_coefficients : Nat → Int64) (m_choices : Nat → Int64) (m_sorted : Nat → Int32) (pn : Nat → Int32) (pm : Nat → Int32) (pd : Nat → Nat → Int32) (i0 : Int32) (j0 : Int32) (r : Int32) (h : f_R_isZero m_prime m_small pn i0 j0 = some r) : Met l y_Mo_isZero w_Mo_isZero ({ frames := 1, cells := 0, slots := 0, locals := 22 } : Room) (va_Pc [.ref (ha 0), .int i0, .int j0] (fun U => U.heap.size = sz ∧ va_P (dC, dI) cl_all (xw cI cJ cB cZ cN ha NA m_rows m_columns m_prime m_small m_pivots m_freeRows m_freeColumns m_smallMinor m_fields m_rowCounts m_elements m_numbers m_known m_ranks m_rankOf m_signOf m_order m_sizes m_coefficients m_choices m_sorted ++ po cI NA ND pn pm pd) U.heap ∧ va_K (dC, dI) cl_all [(cI, .int), (cJ, .long), (cB, .byte), (cZ, .boolean), (cT, .object "BasisWalk$Table"), (cN, .object "BasisWalkModel$Num")] U ∧ NW U ∧ va_D (fun _ => True) (xw cI cJ cB cZ cN ha NA m_rows m_columns m_prime m_small m_pivots m_freeRows m_freeColumns m_smallMinor m_fields m_rowCounts m_elements m_numbers m_known m_ranks m_rankOf m_signOf m_order m_sizes m_coefficients m_choices m_sorted ++ po cI NA ND pn pm pd))) (va_Qi (fun (v : Int32) (_ : Unit) => v = r) (fun (u : Unit) (t : State) => va_P (dC, dI) cl_all (xw cI cJ cB cZ cN ha NA m_rows m_columns m_prime m_small m_pivots m_freeRows m_freeColumns m_smallMinor m_fields m_rowCounts m_elements m_numbers m_known m_ranks m_rankOf m_signOf m_order m_sizes m_coefficients m_choices m_sorted ++ po cI NA ND pn pm pd) t.heap ∧ va_K (dC, dI) cl_all [(cI, .int), (cJ, .long), (cB, .byte), (cZ, .boolean), (cT, .object "BasisWalk$Table"), (cN, .object "BasisWalkModel$Num")] t ∧ va_D (va_A (xw cI cJ cB cZ cN ha NA m_rows m_columns m_prime m_small m_pivots m_freeRows m_freeColumns m_smallMinor m_fields m_rowCounts m_elements m_numbers m_known m_ranks m_rankOf m_signOf m_order m_sizes m_coefficients m_choices m_sorted ++ po cI NA ND pn pm pd) sz) (xw cI cJ cB cZ cN ha NA m_rows m_columns m_prime m_small m_pivots m_freeRows m_freeColumns m_smallMinor m_fields m_rowCounts m_elements m_numbers m_known m_ranks m_rankOf m_signOf m_order m_sizes m_coefficients m_choices m_sorted ++ po cI NA ND pn pm pd)) (va_A (xw cI cJ cB cZ cN ha NA m_rows m_columns m_prime m_small m_pivots m_freeRows m_freeColumns m_smallMinor m_fields m_rowCounts m_elements m_numbers m_known m_ranks m_rankOf m_signOf m_order m_sizes m_coefficients m_choices m_sorted ++ po cI NA ND pn pm pd) sz)) 0 0 (va_A (xw cI cJ cB cZ cN ha NA m_rows m_columns m_prime m_small m_pivots m_freeRows m_freeColumns m_smallMinor m_fields m_rowCounts m_elements m_numbers m_known m_ranks m_rankOf m_signOf m_order m_sizes m_coefficients m_choices m_sorted ++ po cI NA ND pn pm pd) sz) := by
  refine Met.ofW (cc := prog_7_method_5_code) (maxL := 3) (ret := (Option.some Jvm.ClassFile.FieldType.boolean)) (by decide) rfl ?_
  intro p e s m args below meth c s₁ B hml hv
  obtain ⟨hAR, hsz, hP, hK, hN, hD0⟩ := hv
  have hx := B.exec
  have hb := B.bytes
  have hr := B.returns
  have hts := atoms_spec (ws := w_Mo_isZero) B.pre
  have hown : s.vm.findClass "BasisWalkModel" = some m.cls := findClass_of_methodNamed B.named
  have hlocks := B.notSynchronized
  clear B
  subst hsz
  have hD := hD0.self (sz := s.heap.size)
  generalize hAe : va_A (xw cI cJ cB cZ cN ha NA m_rows m_columns m_prime m_small m_pivots m_freeRows m_freeColumns m_smallMinor m_fields m_rowCounts m_elements m_numbers m_known m_ranks m_rankOf m_signOf m_order m_sizes m_coefficients m_choices m_sorted ++ po cI NA ND pn pm pd) s.heap.size = A at hD ⊢
  have hA : ∀ q : Nat, s.heap.size ≤ q → A q := fun q h => by rw [← hAe]; exact Or.inr h
  clear hAe hD0
  have hS : va_S A s.heap s.heap [] := va_S.rf
  have hl := lv_entry ([.ref (ha 0), .int i0, .int j0]) (n := 3) (Nat.le_of_ble_eq_true rfl)
  subst hAR
  rw [lg_entry_eq]
  generalize (lg_sl ([.ref (ha 0), .int i0, .int j0]) ++ List.replicate (3 - (lg_sl ([.ref (ha 0), .int i0, .int j0])).length) Slot.unset).toArray = ls at hl ⊢
  have hl : lv_has ls 3 [(0, .ref (ha 0)), (1, .int i0), (2, .int j0)] := hl
  change W p l e ({ frames := 1, cells := 0, slots := 0, locals := 22 } : Room) s m _ below meth c s.heap [] 0 0 _ _
  generalize hARe : ([.ref (ha 0), .int i0, .int j0] : List Value).toArray = AR at hts ⊢
  clear hARe
  generalize hQ : MQ below _ AR s 0 0 A = QQ
  have fl0 := hts _ (List.mem_cons_of_mem _ tw_367)
  have iw1 := (fun w hw => List.mem_cons_of_mem _ (in_Mo w hw) : ∀ w ∈ u_ws "BasisWalkModel" T_Mo 31, w ∈ w_Mo_isZero)
  have fl2 := hts _ (List.mem_cons_of_mem _ tw_364)
  have fl3 := hts _ (List.mem_cons_of_mem _ tw_339)
  have iw4 := (fun w hw => List.mem_cons_of_mem _ (in_Nu w hw) : ∀ w ∈ u_ws "BasisWalkModel$Num" T_Nu 3, w ∈ w_Mo_isZero)
  obtain ⟨H, hHe⟩ : ∃ H : Heap, H = s.heap := ⟨_, rfl⟩
  rw [← hHe] at hP ⊢
  replace hS : va_S A s.heap H [] := by rw [hHe]; exact va_S.rf
  clear hHe
  unfold f_R_isZero at h
  refine lv_aload_n hx hb d_Mo_isZero_0 rfl (lv_at hl 0 rfl) ?_
  refine va_get (D := (dC, dI)) (ci := 6) (v := .int m_prime) (C := "BasisWalkModel") (T := T_Mo) (N := 31) hx hb hts iw1 hown hK hP 0 rfl rfl 12 (by decide) fl0 (fun _ h9 => h9) rfl d_Mo_isZero_1 ?_
  refine lv_if_ne (tgt := 27) hx hb d_Mo_isZero_4 (by decide) (fun c_1 => ?_) (fun c_1 => ?_)
  · replace h := ck_if_f h c_1
    refine lv_aload_n hx hb d_Mo_isZero_27 rfl (lv_at hl 0 rfl) ?_
    refine va_get (D := (dC, dI)) (ci := 6) (v := .ref (ha 2)) (C := "BasisWalkModel") (T := T_Mo) (N := 31) hx hb hts iw1 hown hK hP 0 rfl rfl 9 (by decide) fl2 (fun _ h9 => h9) rfl d_Mo_isZero_28 ?_
    refine lv_bipush (v := 12) hx hb d_Mo_isZero_31 (by decide) ?_
    refine lv_iload_n hx hb d_Mo_isZero_33 rfl (lv_at hl 1 rfl) ?_
    refine lv_imul hx hb d_Mo_isZero_34 ?_
    refine lv_iload_n hx hb d_Mo_isZero_35 rfl (lv_at hl 2 rfl) ?_
    refine lv_iadd hx hb d_Mo_isZero_36 ?_
    obtain ⟨g_2, h⟩ := ck_in_s h
    refine va_iald hx hb hK hP 2 0 rfl rfl g_2 d_Mo_isZero_37 ?_
    refine lv_if_ne (tgt := 45) hx hb d_Mo_isZero_38 (by decide) (fun c_3 => ?_) (fun c_3 => ?_)
    · replace h := ck_if_f h c_3
      refine lv_iconst (v := 0) hx hb d_Mo_isZero_45 (by decide) ?_
      obtain rfl := Option.some.inj h
      subst hQ
      exact W.zret (ty := .boolean) (v := 0) hx hb hr rfl (fun t ht hW => ⟨⟨0, (), rfl, rfl, by rw [ht]; exact hP, va_K.moved hW.alike hK, hD⟩, hS.F ht⟩) hS.2.2 d_Mo_isZero_46
    · replace h := ck_if_t h c_3
      refine lv_iconst (v := 1) hx hb d_Mo_isZero_41 (by decide) ?_
      refine lv_goto (tgt := 46) hx hb d_Mo_isZero_42 (by decide) ?_
      obtain rfl := Option.some.inj h
      subst hQ
      exact W.zret (ty := .boolean) (v := 1) hx hb hr rfl (fun t ht hW => ⟨⟨1, (), rfl, rfl, by rw [ht]; exact hP, va_K.moved hW.alike hK, hD⟩, hS.F ht⟩) hS.2.2 d_Mo_isZero_46
  · replace h := ck_if_t h c_1
    refine lv_aload_n hx hb d_Mo_isZero_7 rfl (lv_at hl 0 rfl) ?_
    refine lv_iload_n hx hb d_Mo_isZero_8 rfl (lv_at hl 1 rfl) ?_
    refine lv_iload_n hx hb d_Mo_isZero_9 rfl (lv_at hl 2 rfl) ?_
    obtain ⟨r_4, hc_5, h⟩ := ck_b1_s h
    have hPc := hP
    have hDc := hD
    have hFc := pw_free hDc hS hA
    refine va_callr (va_runV (As := [.int i0, .int j0]) (rest := []) ⟨hx, hb, hml, hown, hts⟩ (c_R_at l dC dI cI cJ cB cZ cT cN H.size ha NA ND m_rows m_columns m_prime m_small m_pivots m_freeRows m_freeColumns m_smallMinor m_fields m_rowCounts m_elements m_numbers m_known m_ranks m_rankOf m_signOf m_order m_sizes m_coefficients m_choices m_sorted pn pm pd i0 j0 _ hc_5) (cwV 2 hts (tb_V tw_485 tw_487 tp_21 tw_6 tw_488) rfl rfl rfl (by decide +kernel) ⟨Nat.le_of_ble_eq_true rfl, Nat.le_of_ble_eq_true rfl⟩) ⟨fun a U g mk q => by obtain ⟨q0, q1, qP, qK, qN, qD⟩ := q; exact ⟨q0, q1, qP, va_K.moved (u := U) (U := U.calling g mk a) (Vm.Alike.refl U.vm) qK, qN.same rfl, qD⟩, va_recv hK hPc (ci := 6) (q0 := 0) rfl rfl, fun U hU hW => ⟨rfl, by rw [hU], by rw [hU]; exact hPc, va_K.moved hW.alike hK, hN.warm hW, hDc.weaken (fun _ _ _ _ => trivial)⟩⟩ rfl rfl hl.1 rfl (lv_room (Nat.le_of_ble_eq_true rfl)) d_Mo_isZero_10 ⟨Nat.zero_le _, Nat.zero_le _⟩) hS (fun q _ h => hFc q h) hFc (fun u ra t H1 locs ht hvm hw hB hz1 hk1 hS => ?_)
    replace hw := hw.symm
    subst hw
    obtain ⟨hra, hlr_4, hP1, -, hD1⟩ := hB
    subst hra
    rw [ht] at hP1
    have hP : va_P (dC, dI) cl_all (xw cI cJ cB cZ cN ha NA m_rows m_columns m_prime m_small m_pivots m_freeRows m_freeColumns m_smallMinor m_fields m_rowCounts m_elements m_numbers m_known m_ranks m_rankOf m_signOf m_order m_sizes m_coefficients m_choices m_sorted ++ po cI NA ND pn pm pd) H1 := hP1
    have hD : va_D A (xw cI cJ cB cZ cN ha NA m_rows m_columns m_prime m_small m_pivots m_freeRows m_freeColumns m_smallMinor m_fields m_rowCounts m_elements m_numbers m_known m_ranks m_rankOf m_signOf m_order m_sizes m_coefficients m_choices m_sorted ++ po cI NA ND pn pm pd) := hD1.weaken (fun _ _ _ h => hFc _ h)
    generalize H1 = H at hP hS ⊢
    have hP : va_P (dC, dI) cl_all (xw cI cJ cB cZ cN ha NA m_rows m_columns m_prime m_small m_pivots m_freeRows m_freeColumns m_smallMinor m_fields m_rowCounts m_elements m_numbers m_known m_ranks m_rankOf m_signOf m_order m_sizes m_coefficients m_choices m_sorted ++ po cI NA ND pn pm pd) H := hP
    have hD : va_D A (xw cI cJ cB cZ cN ha NA m_rows m_columns m_prime m_small m_pivots m_freeRows m_freeColumns m_smallMinor m_fields m_rowCounts m_elements m_numbers m_known m_ranks m_rankOf m_signOf m_order m_sizes m_coefficients m_choices m_sorted ++ po cI NA ND pn pm pd) := hD
    refine va_get (D := (dC, dI)) (ci := 5) (v := .int (pn r_4)) (C := "BasisWalkModel$Num") (T := T_Nu) (N := 3) hx hb hts iw4 hown hK hP _ (po_obj hlr_4) rfl 1 (by decide) fl3 (fun _ h9 => h9) rfl d_Mo_isZero_13 ?_
    refine lv_if_ne (tgt := 23) hx hb d_Mo_isZero_16 (by decide) (fun c_6 => ?_) (fun c_6 => ?_)
    · replace h := ck_if_f h c_6
      refine lv_iconst (v := 0) hx hb d_Mo_isZero_23 (by decide) ?_
      refine lv_goto (tgt := 46) hx hb d_Mo_isZero_24 (by decide) ?_
      obtain rfl := Option.some.inj h
      subst hQ
      exact W.zret (ty := .boolean) (v := 0) hx hb hr rfl (fun t ht hW => ⟨⟨0, (), rfl, rfl, by rw [ht]; exact hP, va_K.moved hW.alike hK, hD⟩, hS.F ht⟩) hS.2.2 d_Mo_isZero_46
    · replace h := ck_if_t h c_6
      refine lv_iconst (v := 1) hx hb d_Mo_isZero_19 (by decide) ?_
      refine lv_goto (tgt := 46) hx hb d_Mo_isZero_20 (by decide) ?_
      obtain rfl := Option.some.inj h
      subst hQ
      exact W.zret (ty := .boolean) (v := 1) hx hb hr rfl (fun t ht hW => ⟨⟨1, (), rfl, rfl, by rw [ht]; exact hP, va_K.moved hW.alike hK, hD⟩, hS.F ht⟩) hS.2.2 d_Mo_isZero_46
theorem d_Mo_swap_0 : decode prog_7_method_6_code 0 = .ok (.iconst 0, 1) := by decide +kernel
theorem d_Mo_swap_1 : decode prog_7_method_6_code 1 = .ok (.istore_n 3, 1) := by decide +kernel
theorem d_Mo_swap_2 : decode prog_7_method_6_code 2 = .ok (.iload_n 3, 1) := by decide +kernel
theorem d_Mo_swap_3 : decode prog_7_method_6_code 3 = .ok (.aload_n 0, 1) := by decide +kernel
theorem d_Mo_swap_4 : decode prog_7_method_6_code 4 = .ok (.getfield 41, 3) := by decide +kernel
theorem d_Mo_swap_7 : decode prog_7_method_6_code 7 = .ok (.if_icmp .ge 103, 3) := by decide +kernel
theorem d_Mo_swap_10 : decode prog_7_method_6_code 10 = .ok (.iload_n 1, 1) := by decide +kernel
theorem d_Mo_swap_11 : decode prog_7_method_6_code 11 = .ok (.iload_n 2, 1) := by decide +kernel
theorem d_Mo_swap_12 : decode prog_7_method_6_code 12 = .ok (.if_icmp .eq 98, 3) := by decide +kernel
theorem d_Mo_swap_15 : decode prog_7_method_6_code 15 = .ok (.aload_n 0, 1) := by decide +kernel
theorem d_Mo_swap_16 : decode prog_7_method_6_code 16 = .ok (.getfield 58, 3) := by decide +kernel
theorem d_Mo_swap_19 : decode prog_7_method_6_code 19 = .ok (.aload_n 0, 1) := by decide +kernel
theorem d_Mo_swap_20 : decode prog_7_method_6_code 20 = .ok (.iload_n 1, 1) := by decide +kernel
theorem d_Mo_swap_21 : decode prog_7_method_6_code 21 = .ok (.iload_n 3, 1) := by decide +kernel
theorem d_Mo_swap_22 : decode prog_7_method_6_code 22 = .ok (.invokevirtual 47, 3) := by decide +kernel
theorem d_Mo_swap_25 : decode prog_7_method_6_code 25 = .ok (.invokevirtual 7, 3) := by decide +kernel
theorem d_Mo_swap_28 : decode prog_7_method_6_code 28 = .ok (.aload_n 0, 1) := by decide +kernel
theorem d_Mo_swap_29 : decode prog_7_method_6_code 29 = .ok (.iload_n 1, 1) := by decide +kernel
theorem d_Mo_swap_30 : decode prog_7_method_6_code 30 = .ok (.iload_n 3, 1) := by decide +kernel
theorem d_Mo_swap_31 : decode prog_7_method_6_code 31 = .ok (.invokevirtual 47, 3) := by decide +kernel
theorem d_Mo_swap_34 : decode prog_7_method_6_code 34 = .ok (.aload_n 0, 1) := by decide +kernel
theorem d_Mo_swap_35 : decode prog_7_method_6_code 35 = .ok (.iload_n 2, 1) := by decide +kernel
theorem d_Mo_swap_36 : decode prog_7_method_6_code 36 = .ok (.iload_n 3, 1) := by decide +kernel
theorem d_Mo_swap_37 : decode prog_7_method_6_code 37 = .ok (.invokevirtual 47, 3) := by decide +kernel
theorem d_Mo_swap_40 : decode prog_7_method_6_code 40 = .ok (.invokevirtual 7, 3) := by decide +kernel
theorem d_Mo_swap_43 : decode prog_7_method_6_code 43 = .ok (.aload_n 0, 1) := by decide +kernel
theorem d_Mo_swap_44 : decode prog_7_method_6_code 44 = .ok (.iload_n 2, 1) := by decide +kernel
theorem d_Mo_swap_45 : decode prog_7_method_6_code 45 = .ok (.iload_n 3, 1) := by decide +kernel
theorem d_Mo_swap_46 : decode prog_7_method_6_code 46 = .ok (.invokevirtual 47, 3) := by decide +kernel
theorem d_Mo_swap_49 : decode prog_7_method_6_code 49 = .ok (.aload_n 0, 1) := by decide +kernel
theorem d_Mo_swap_50 : decode prog_7_method_6_code 50 = .ok (.getfield 58, 3) := by decide +kernel
theorem d_Mo_swap_53 : decode prog_7_method_6_code 53 = .ok (.invokevirtual 7, 3) := by decide +kernel
theorem d_Mo_swap_56 : decode prog_7_method_6_code 56 = .ok (.aload_n 0, 1) := by decide +kernel
theorem d_Mo_swap_57 : decode prog_7_method_6_code 57 = .ok (.getfield 55, 3) := by decide +kernel
theorem d_Mo_swap_60 : decode prog_7_method_6_code 60 = .ok (.bipush 12, 2) := by decide +kernel
theorem d_Mo_swap_62 : decode prog_7_method_6_code 62 = .ok (.iload_n 1, 1) := by decide +kernel
theorem d_Mo_swap_63 : decode prog_7_method_6_code 63 = .ok (.imul, 1) := by decide +kernel
theorem d_Mo_swap_64 : decode prog_7_method_6_code 64 = .ok (.iload_n 3, 1) := by decide +kernel
theorem d_Mo_swap_65 : decode prog_7_method_6_code 65 = .ok (.iadd, 1) := by decide +kernel
theorem d_Mo_swap_66 : decode prog_7_method_6_code 66 = .ok (.iaload, 1) := by decide +kernel
theorem d_Mo_swap_67 : decode prog_7_method_6_code 67 = .ok (.istore 4, 2) := by decide +kernel
theorem d_Mo_swap_69 : decode prog_7_method_6_code 69 = .ok (.aload_n 0, 1) := by decide +kernel
theorem d_Mo_swap_70 : decode prog_7_method_6_code 70 = .ok (.getfield 55, 3) := by decide +kernel
theorem d_Mo_swap_73 : decode prog_7_method_6_code 73 = .ok (.bipush 12, 2) := by decide +kernel
theorem d_Mo_swap_75 : decode prog_7_method_6_code 75 = .ok (.iload_n 1, 1) := by decide +kernel
theorem d_Mo_swap_76 : decode prog_7_method_6_code 76 = .ok (.imul, 1) := by decide +kernel
theorem d_Mo_swap_77 : decode prog_7_method_6_code 77 = .ok (.iload_n 3, 1) := by decide +kernel
theorem d_Mo_swap_78 : decode prog_7_method_6_code 78 = .ok (.iadd, 1) := by decide +kernel
theorem d_Mo_swap_79 : decode prog_7_method_6_code 79 = .ok (.aload_n 0, 1) := by decide +kernel
theorem d_Mo_swap_80 : decode prog_7_method_6_code 80 = .ok (.getfield 55, 3) := by decide +kernel
theorem d_Mo_swap_83 : decode prog_7_method_6_code 83 = .ok (.bipush 12, 2) := by decide +kernel
theorem d_Mo_swap_85 : decode prog_7_method_6_code 85 = .ok (.iload_n 2, 1) := by decide +kernel
theorem d_Mo_swap_86 : decode prog_7_method_6_code 86 = .ok (.imul, 1) := by decide +kernel
theorem d_Mo_swap_87 : decode prog_7_method_6_code 87 = .ok (.iload_n 3, 1) := by decide +kernel
theorem d_Mo_swap_88 : decode prog_7_method_6_code 88 = .ok (.iadd, 1) := by decide +kernel
theorem d_Mo_swap_89 : decode prog_7_method_6_code 89 = .ok (.iaload, 1) := by decide +kernel
theorem d_Mo_swap_90 : decode prog_7_method_6_code 90 = .ok (.iastore, 1) := by decide +kernel
theorem d_Mo_swap_91 : decode prog_7_method_6_code 91 = .ok (.aload_n 0, 1) := by decide +kernel
theorem d_Mo_swap_92 : decode prog_7_method_6_code 92 = .ok (.getfield 55, 3) := by decide +kernel
theorem d_Mo_swap_95 : decode prog_7_method_6_code 95 = .ok (.bipush 12, 2) := by decide +kernel
theorem d_Mo_swap_97 : decode prog_7_method_6_code 97 = .ok (.iload_n 2, 1) := by decide +kernel
theorem d_Mo_swap_98 : decode prog_7_method_6_code 98 = .ok (.imul, 1) := by decide +kernel
theorem d_Mo_swap_99 : decode prog_7_method_6_code 99 = .ok (.iload_n 3, 1) := by decide +kernel
theorem d_Mo_swap_100 : decode prog_7_method_6_code 100 = .ok (.iadd, 1) := by decide +kernel
theorem d_Mo_swap_101 : decode prog_7_method_6_code 101 = .ok (.iload 4, 2) := by decide +kernel
theorem d_Mo_swap_103 : decode prog_7_method_6_code 103 = .ok (.iastore, 1) := by decide +kernel
theorem d_Mo_swap_104 : decode prog_7_method_6_code 104 = .ok (.iinc 3 1, 3) := by decide +kernel
theorem d_Mo_swap_107 : decode prog_7_method_6_code 107 = .ok (.goto (-105), 3) := by decide +kernel
theorem d_Mo_swap_110 : decode prog_7_method_6_code 110 = .ok (.return_, 1) := by decide +kernel
def f_R_swap (m_columns : Int32) (m_small : Nat → Int32) (pn : Nat → Int32) (pm : Nat → Int32) (pd : Nat → Nat → Int32) (i0 : Int32) (k0 : Int32) : Option ((Nat → Int32) × (Nat → Int32) × (Nat → Int32) × (Nat → Nat → Int32)) :=
  lo5 (fun k_2 (v3_1 : Int32) (w_2 : Nat → Int32) (pn_3 : Nat → Int32) (pm_4 : Nat → Int32) (pd_5 : Nat → Nat → Int32) => ck_if (m_columns ≤ v3_1) (some (w_2, pn_3, pm_4, pd_5)) (ck_if (i0 = k0) (some (w_2, pn_3, pm_4, pd_5)) (ck_b1 (f_R_at i0 v3_1) <| fun r_8 => ck_p (192 ≠ r_8) <| ck_b3 (f_N_copy 160 (pd_5 192) (pn_3 r_8) (pm_4 r_8) 160 (pd_5 r_8)) <| fun u_10 u_11 u_12 => ck_nm (upd pn_3 192 u_10) <| fun pn_14 => ck_nm (upd pm_4 192 u_11) <| fun pm_15 => ck_nm (va_up pd_5 192 u_12) <| fun pd_16 => ck_b1 (f_R_at i0 v3_1) <| fun r_24 => ck_b1 (f_R_at k0 v3_1) <| fun r_26 => ck_p (r_24 ≠ r_26) <| ck_b3 (f_N_copy 160 (pd_16 r_24) (pn_14 r_26) (pm_15 r_26) 160 (pd_16 r_26)) <| fun u_28 u_29 u_30 => ck_nm (upd pn_14 r_24 u_28) <| fun pn_32 => ck_nm (upd pm_15 r_24 u_29) <| fun pm_33 => ck_nm (va_up pd_16 r_24 u_30) <| fun pd_34 => ck_b1 (f_R_at k0 v3_1) <| fun r_42 => ck_p (r_42 ≠ 192) <| ck_b3 (f_N_copy 160 (pd_34 r_42) (pn_32 192) (pm_33 192) 160 (pd_34 192)) <| fun u_44 u_45 u_46 => ck_nm (upd pn_32 r_42 u_44) <| fun pn_48 => ck_nm (upd pm_33 r_42 u_45) <| fun pm_49 => ck_nm (va_up pd_34 r_42 u_46) <| fun pd_50 => ck_in ((12 * i0) + v3_1) 156 <| ck_nm (w_2 ((12 * i0) + v3_1).toNatClampNeg) <| fun x_59 => ck_in ((12 * k0) + v3_1) 156 <| ck_in ((12 * i0) + v3_1) 156 <| ck_in ((12 * k0) + v3_1) 156 <| ck_nm (v3_1 + 1) <| fun x_63 => k_2 x_63 (upd (upd w_2 ((12 * i0) + v3_1).toNatClampNeg (w_2 ((12 * k0) + v3_1).toNatClampNeg)) ((12 * k0) + v3_1).toNatClampNeg x_59) pn_48 pm_49 pd_50))) ck_F 0 m_small pn pm pd
set_option maxHeartbeats 4000000 in
set_option maxRecDepth 100000 in
theorem c_R_swap (l : Launch) (dC : Nat → ClassId) (dI : Nat → Nat → Nat) (cI cJ cB cZ cT cN : ClassId) (sz : Nat) (ha NA ND : Nat → Nat) (m_rows : Int32) (m_columns : Int32) (m_prime : Int32) (m_small : Nat → Int32) (m_pivots : Nat → Int32) (m_freeRows : Nat → Int32) (m_freeColumns : Nat → Int32) (m_smallMinor : Nat → Int32) (m_fields : Nat → Int32) (m_rowCounts : Nat → Int32) (m_elements : Nat → Int32) (m_numbers : Nat → Int32) (m_known : Nat → Int32) (m_ranks : Nat → Int32) (m_rankOf : Nat → Int32) (m_signOf : Nat → Int32) (m_order : Nat → Int32) (m_sizes : Nat → Int32) (m_coefficients : Nat → Int64) (m_choices : Nat → Int64) (m_sorted : Nat → Int32) (pn : Nat → Int32) (pm : Nat → Int32) (pd : Nat → Nat → Int32) (i0 : Int32) (k0 : Int32) (r : (Nat → Int32) × (Nat → Int32) × (Nat → Int32) × (Nat → Nat → Int32)) (h : f_R_swap m_columns m_small pn pm pd i0 k0 = some r) : Met l y_Mo_swap w_Mo_swap ({ frames := 1, cells := 0, slots := 0, locals := 22 } : Room) (va_Pc [.ref (ha 0), .int i0, .int k0] (fun U => U.heap.size = sz ∧ va_P (dC, dI) cl_all (xw cI cJ cB cZ cN ha NA m_rows m_columns m_prime m_small m_pivots m_freeRows m_freeColumns m_smallMinor m_fields m_rowCounts m_elements m_numbers m_known m_ranks m_rankOf m_signOf m_order m_sizes m_coefficients m_choices m_sorted ++ po cI NA ND pn pm pd) U.heap ∧ va_K (dC, dI) cl_all [(cI, .int), (cJ, .long), (cB, .byte), (cZ, .boolean), (cT, .object "BasisWalk$Table"), (cN, .object "BasisWalkModel$Num")] U ∧ NW U ∧ va_D (fun _ => True) (xw cI cJ cB cZ cN ha NA m_rows m_columns m_prime m_small m_pivots m_freeRows m_freeColumns m_smallMinor m_fields m_rowCounts m_elements m_numbers m_known m_ranks m_rankOf m_signOf m_order m_sizes m_coefficients m_choices m_sorted ++ po cI NA ND pn pm pd))) (va_Qv (fun u : (Nat → Int32) × (Nat → Int32) × (Nat → Int32) × (Nat → Nat → Int32) => u = r) (fun (u : (Nat → Int32) × (Nat → Int32) × (Nat → Int32) × (Nat → Nat → Int32)) (t : State) => va_P (dC, dI) cl_all (xw cI cJ cB cZ cN ha NA m_rows m_columns m_prime u.1 m_pivots m_freeRows m_freeColumns m_smallMinor m_fields m_rowCounts m_elements m_numbers m_known m_ranks m_rankOf m_signOf m_order m_sizes m_coefficients m_choices m_sorted ++ po cI NA ND u.2.1 u.2.2.1 u.2.2.2) t.heap ∧ va_K (dC, dI) cl_all [(cI, .int), (cJ, .long), (cB, .byte), (cZ, .boolean), (cT, .object "BasisWalk$Table"), (cN, .object "BasisWalkModel$Num")] t ∧ va_D (va_A (xw cI cJ cB cZ cN ha NA m_rows m_columns m_prime m_small m_pivots m_freeRows m_freeColumns m_smallMinor m_fields m_rowCounts m_elements m_numbers m_known m_ranks m_rankOf m_signOf m_order m_sizes m_coefficients m_choices m_sorted ++ po cI NA ND pn pm pd) sz) (xw cI cJ cB cZ cN ha NA m_rows m_columns m_prime u.1 m_pivots m_freeRows m_freeColumns m_smallMinor m_fields m_rowCounts m_elements m_numbers m_known m_ranks m_rankOf m_signOf m_order m_sizes m_coefficients m_choices m_sorted ++ po cI NA ND u.2.1 u.2.2.1 u.2.2.2)) (va_A (xw cI cJ cB cZ cN ha NA m_rows m_columns m_prime m_small m_pivots m_freeRows m_freeColumns m_smallMinor m_fields m_rowCounts m_elements m_numbers m_known m_ranks m_rankOf m_signOf m_order m_sizes m_coefficients m_choices m_sorted ++ po cI NA ND pn pm pd) sz)) 0 0 (va_A (xw cI cJ cB cZ cN ha NA m_rows m_columns m_prime m_small m_pivots m_freeRows m_freeColumns m_smallMinor m_fields m_rowCounts m_elements m_numbers m_known m_ranks m_rankOf m_signOf m_order m_sizes m_coefficients m_choices m_sorted ++ po cI NA ND pn pm pd) sz) := by
  refine Met.ofW (cc := prog_7_method_6_code) (maxL := 5) (ret := (Option.none : Option Jvm.ClassFile.FieldType)) (by decide) rfl ?_
  intro p e s m args below meth c s₁ B hml hv
  obtain ⟨hAR, hsz, hP, hK, hN, hD0⟩ := hv
  have hx := B.exec
  have hb := B.bytes
  have hr := B.returns
  have hts := atoms_spec (ws := w_Mo_swap) B.pre
  have hown : s.vm.findClass "BasisWalkModel" = some m.cls := findClass_of_methodNamed B.named
  have hlocks := B.notSynchronized
  clear B
  subst hsz
  have hD := hD0.self (sz := s.heap.size)
  generalize hAe : va_A (xw cI cJ cB cZ cN ha NA m_rows m_columns m_prime m_small m_pivots m_freeRows m_freeColumns m_smallMinor m_fields m_rowCounts m_elements m_numbers m_known m_ranks m_rankOf m_signOf m_order m_sizes m_coefficients m_choices m_sorted ++ po cI NA ND pn pm pd) s.heap.size = A at hD ⊢
  have hA : ∀ q : Nat, s.heap.size ≤ q → A q := fun q h => by rw [← hAe]; exact Or.inr h
  clear hAe hD0
  have hS : va_S A s.heap s.heap [] := va_S.rf
  have hl := lv_entry ([.ref (ha 0), .int i0, .int k0]) (n := 5) (Nat.le_of_ble_eq_true rfl)
  subst hAR
  rw [lg_entry_eq]
  generalize (lg_sl ([.ref (ha 0), .int i0, .int k0]) ++ List.replicate (5 - (lg_sl ([.ref (ha 0), .int i0, .int k0])).length) Slot.unset).toArray = ls at hl ⊢
  have hl : lv_has ls 5 [(0, .ref (ha 0)), (1, .int i0), (2, .int k0)] := hl
  change W p l e ({ frames := 1, cells := 0, slots := 0, locals := 22 } : Room) s m _ below meth c s.heap [] 0 0 _ _
  generalize hARe : ([.ref (ha 0), .int i0, .int k0] : List Value).toArray = AR at hts ⊢
  clear hARe
  generalize hQ : MQ below _ AR s 0 0 A = QQ
  have fl0 := hts _ (List.mem_cons_of_mem _ tw_366)
  have iw1 := (fun w hw => List.mem_cons_of_mem _ (in_Mo w hw) : ∀ w ∈ u_ws "BasisWalkModel" T_Mo 31, w ∈ w_Mo_swap)
  have fl2 := hts _ (List.mem_cons_of_mem _ tw_355)
  have fl3 := hts _ (List.mem_cons_of_mem _ tw_364)
  obtain ⟨H, hHe⟩ : ∃ H : Heap, H = s.heap := ⟨_, rfl⟩
  rw [← hHe] at hP ⊢
  replace hS : va_S A s.heap H [] := by rw [hHe]; exact va_S.rf
  clear hHe
  unfold f_R_swap at h
  refine lv_iconst (v := 0) hx hb d_Mo_swap_0 (by decide) ?_
  refine lv_istore_n (lv' := [(3, .int 0), (0, .ref (ha 0)), (1, .int i0), (2, .int k0)]) hx hb d_Mo_swap_1 rfl hl (by decide) rfl (fun ls hl => ?_)
  refine lo5_W (r := r) (fun (v3_1 : Int32) (w_2 : Nat → Int32) (pn_3 : Nat → Int32) (pm_4 : Nat → Int32) (pd_5 : Nat → Nat → Int32) => ∀ (H : Heap) (locs : List Loc), va_P (dC, dI) cl_all (xw cI cJ cB cZ cN ha NA m_rows m_columns m_prime w_2 m_pivots m_freeRows m_freeColumns m_smallMinor m_fields m_rowCounts m_elements m_numbers m_known m_ranks m_rankOf m_signOf m_order m_sizes m_coefficients m_choices m_sorted ++ po cI NA ND pn_3 pm_4 pd_5) H → va_D A (xw cI cJ cB cZ cN ha NA m_rows m_columns m_prime w_2 m_pivots m_freeRows m_freeColumns m_smallMinor m_fields m_rowCounts m_elements m_numbers m_known m_ranks m_rankOf m_signOf m_order m_sizes m_coefficients m_choices m_sorted ++ po cI NA ND pn_3 pm_4 pd_5) → va_S A s.heap H locs → ∀ ls : Array Slot, lv_has ls 5 [(0, .ref (ha 0)), (1, .int i0), (2, .int k0), (3, .int v3_1)] → W p l e ({ frames := 1, cells := 0, slots := 0, locals := 22 } : Room) s m AR below meth c H locs 0 0 QQ (F0 m 2 ls [])) ?_ _ _ _ _ _ _ h _ _ hP hD hS _ (lv_sub hl [1, 2, 3, 0] rfl)
  intro k_2 v3_1 w_2 pn_3 pm_4 pd_5 J_2 h H locs hP hD hS ls hl
  refine lv_iload_n hx hb d_Mo_swap_2 rfl (lv_at hl 3 rfl) ?_
  refine lv_aload_n hx hb d_Mo_swap_3 rfl (lv_at hl 0 rfl) ?_
  refine va_get (D := (dC, dI)) (ci := 6) (v := .int m_columns) (C := "BasisWalkModel") (T := T_Mo) (N := 31) hx hb hts iw1 hown hK hP 0 rfl rfl 11 (by decide) fl0 (fun _ h9 => h9) rfl d_Mo_swap_4 ?_
  refine lv_icmp_ge (tgt := 110) hx hb d_Mo_swap_7 (by decide) (fun c_6 => ?_) (fun c_6 => ?_)
  · replace h := ck_if_t h c_6
    obtain rfl := Option.some.inj h
    subst hQ
    exact W.vret hx hb hr (fun t ht hW => ⟨⟨(w_2, pn_3, pm_4, pd_5), rfl, rfl, by rw [ht]; exact hP, va_K.moved hW.alike hK, hD⟩, hS.F ht⟩) hS.2.2 d_Mo_swap_110
  · replace h := ck_if_f h c_6
    refine lv_iload_n hx hb d_Mo_swap_10 rfl (lv_at hl 1 rfl) ?_
    refine lv_iload_n hx hb d_Mo_swap_11 rfl (lv_at hl 2 rfl) ?_
    refine lv_icmp_eq (tgt := 110) hx hb d_Mo_swap_12 (by decide) (fun c_7 => ?_) (fun c_7 => ?_)
    · replace h := ck_if_t h c_7
      obtain rfl := Option.some.inj h
      subst hQ
      exact W.vret hx hb hr (fun t ht hW => ⟨⟨(w_2, pn_3, pm_4, pd_5), rfl, rfl, by rw [ht]; exact hP, va_K.moved hW.alike hK, hD⟩, hS.F ht⟩) hS.2.2 d_Mo_swap_110
    · replace h := ck_if_f h c_7
      refine lv_aload_n hx hb d_Mo_swap_15 rfl (lv_at hl 0 rfl) ?_
      refine va_get (D := (dC, dI)) (ci := 6) (v := .ref (NA 192)) (C := "BasisWalkModel") (T := T_Mo) (N := 31) hx hb hts iw1 hown hK hP 0 rfl rfl 0 (by decide) fl2 (fun _ h9 => h9) rfl d_Mo_swap_16 ?_
      refine lv_aload_n hx hb d_Mo_swap_19 rfl (lv_at hl 0 rfl) ?_
      refine lv_iload_n hx hb d_Mo_swap_20 rfl (lv_at hl 1 rfl) ?_
      refine lv_iload_n hx hb d_Mo_swap_21 rfl (lv_at hl 3 rfl) ?_
      obtain ⟨r_8, hc_9, h⟩ := ck_b1_s h
      have hPc := hP
      have hDc := hD
      have hFc := pw_free hDc hS hA
      refine va_callr (va_runV (As := [.int i0, .int v3_1]) (rest := [.ref (NA 192)]) ⟨hx, hb, hml, hown, hts⟩ (c_R_at l dC dI cI cJ cB cZ cT cN H.size ha NA ND m_rows m_columns m_prime w_2 m_pivots m_freeRows m_freeColumns m_smallMinor m_fields m_rowCounts m_elements m_numbers m_known m_ranks m_rankOf m_signOf m_order m_sizes m_coefficients m_choices m_sorted pn_3 pm_4 pd_5 i0 v3_1 _ hc_9) (cwV 2 hts (tb_V tw_485 tw_487 tp_21 tw_6 tw_488) rfl rfl rfl (by decide +kernel) ⟨Nat.le_of_ble_eq_true rfl, Nat.le_of_ble_eq_true rfl⟩) ⟨fun a U g mk q => by obtain ⟨q0, q1, qP, qK, qN, qD⟩ := q; exact ⟨q0, q1, qP, va_K.moved (u := U) (U := U.calling g mk a) (Vm.Alike.refl U.vm) qK, qN.same rfl, qD⟩, va_recv hK hPc (ci := 6) (q0 := 0) rfl rfl, fun U hU hW => ⟨rfl, by rw [hU], by rw [hU]; exact hPc, va_K.moved hW.alike hK, hN.warm hW, hDc.weaken (fun _ _ _ _ => trivial)⟩⟩ rfl rfl hl.1 rfl (lv_room (Nat.le_of_ble_eq_true rfl)) d_Mo_swap_22 ⟨Nat.zero_le _, Nat.zero_le _⟩) hS (fun q _ h => hFc q h) hFc (fun u ra t H1 locs ht hvm hw hB hz1 hk1 hS => ?_)
      replace hw := hw.symm
      subst hw
      obtain ⟨hra, hlr_8, hP1, -, hD1⟩ := hB
      subst hra
      rw [ht] at hP1
      have hP : va_P (dC, dI) cl_all (xw cI cJ cB cZ cN ha NA m_rows m_columns m_prime w_2 m_pivots m_freeRows m_freeColumns m_smallMinor m_fields m_rowCounts m_elements m_numbers m_known m_ranks m_rankOf m_signOf m_order m_sizes m_coefficients m_choices m_sorted ++ po cI NA ND pn_3 pm_4 pd_5) H1 := hP1
      have hD : va_D A (xw cI cJ cB cZ cN ha NA m_rows m_columns m_prime w_2 m_pivots m_freeRows m_freeColumns m_smallMinor m_fields m_rowCounts m_elements m_numbers m_known m_ranks m_rankOf m_signOf m_order m_sizes m_coefficients m_choices m_sorted ++ po cI NA ND pn_3 pm_4 pd_5) := hD1.weaken (fun _ _ _ h => hFc _ h)
      generalize H1 = H at hP hS ⊢
      have hP : va_P (dC, dI) cl_all (xw cI cJ cB cZ cN ha NA m_rows m_columns m_prime w_2 m_pivots m_freeRows m_freeColumns m_smallMinor m_fields m_rowCounts m_elements m_numbers m_known m_ranks m_rankOf m_signOf m_order m_sizes m_coefficients m_choices m_sorted ++ po cI NA ND pn_3 pm_4 pd_5) H := hP
      have hD : va_D A (xw cI cJ cB cZ cN ha NA m_rows m_columns m_prime w_2 m_pivots m_freeRows m_freeColumns m_smallMinor m_fields m_rowCounts m_elements m_numbers m_known m_ranks m_rankOf m_signOf m_order m_sizes m_coefficients m_choices m_sorted ++ po cI NA ND pn_3 pm_4 pd_5) := hD
      obtain ⟨n_13, h⟩ := ck_p_s h
      obtain ⟨u_10, u_11, u_12, hc_17, h⟩ := ck_b3_s h
      obtain ⟨hPc, hDc⟩ := po_cut (ks := [192, r_8]) (ks2 (by decide) hlr_8) (nd2 n_13) hP hD
      have hPc : va_P (dC, dI) cl_all [(NA 192, .inr (5, [.ref (ND 192), .int (pn_3 192), .int (pm_4 192)])), (ND 192, .inl (cI, 160, .inl (pd_5 192))), (NA r_8, .inr (5, [.ref (ND r_8), .int (pn_3 r_8), .int (pm_4 r_8)])), (ND r_8, .inl (cI, 160, .inl (pd_5 r_8)))] H := hPc
      have hDc : va_D A [(NA 192, .inr (5, [.ref (ND 192), .int (pn_3 192), .int (pm_4 192)])), (ND 192, .inl (cI, 160, .inl (pd_5 192))), (NA r_8, .inr (5, [.ref (ND r_8), .int (pn_3 r_8), .int (pm_4 r_8)])), (ND r_8, .inl (cI, 160, .inl (pd_5 r_8)))] := hDc
      have hFc := pw_free hDc hS hA
      refine va_callv (va_runV (As := [.ref (NA r_8)]) (rest := []) ⟨hx, hb, hml, hown, hts⟩ (c_N_copy l dC dI cI cJ cB cZ cT cN H.size (NA 192) (NA r_8) (ND 192) (ND r_8) (pn_3 192) (pm_4 192) 160 (pd_5 192) (pn_3 r_8) (pm_4 r_8) 160 (pd_5 r_8) _ hc_17) (cwV 1 hts (tb_V tw_510 tw_511 tw_512 tw_7 tw_513) rfl rfl rfl (by decide +kernel) ⟨Nat.le_of_ble_eq_true rfl, Nat.le_of_ble_eq_true rfl⟩) ⟨fun a U g mk q => by obtain ⟨q0, q1, qP, qK, qN, qD⟩ := q; exact ⟨q0, q1, qP, va_K.moved (u := U) (U := U.calling g mk a) (Vm.Alike.refl U.vm) qK, qN.same rfl, qD⟩, va_recv hK hPc (ci := 5) (q0 := 0) rfl rfl, fun U hU hW => ⟨rfl, by rw [hU], by rw [hU]; exact hPc, va_K.moved hW.alike hK, hN.warm hW, hDc.weaken (fun _ _ _ _ => trivial)⟩⟩ rfl rfl hl.1 rfl (lv_room (Nat.le_of_ble_eq_true rfl)) d_Mo_swap_25 ⟨Nat.zero_le _, Nat.zero_le _⟩) hS (fun q _ h => hFc q h) hFc (fun u t H1 locs ht hvm hw hB hz1 hk1 hS => ?_)
      replace hw := hw.symm
      subst hw
      obtain ⟨hP1, -, hD1⟩ := hB
      rw [ht] at hP1
      obtain ⟨pn_14, epn_14⟩ : ∃ y : Nat → Int32, y = (upd pn_3 192 u_10) := ⟨_, rfl⟩
      replace h := ck_nm_s h epn_14
      obtain ⟨pm_15, epm_15⟩ : ∃ y : Nat → Int32, y = (upd pm_4 192 u_11) := ⟨_, rfl⟩
      replace h := ck_nm_s h epm_15
      obtain ⟨pd_16, epd_16⟩ : ∃ y : Nat → Nat → Int32, y = (va_up pd_5 192 u_12) := ⟨_, rfl⟩
      replace h := ck_nm_s h epd_16
      have fq_18 : pn_14 192 = u_10 := by simp [epn_14, upd, va_up, n_13, Ne.symm n_13]
      have fq_19 : pm_15 192 = u_11 := by simp [epm_15, upd, va_up, n_13, Ne.symm n_13]
      have fq_20 : pd_16 192 = u_12 := by simp [epd_16, upd, va_up, n_13, Ne.symm n_13]
      have fq_21 : pn_14 r_8 = pn_3 r_8 := by simp [epn_14, upd, va_up, n_13, Ne.symm n_13]
      have fq_22 : pm_15 r_8 = pm_4 r_8 := by simp [epm_15, upd, va_up, n_13, Ne.symm n_13]
      have fq_23 : pd_16 r_8 = pd_5 r_8 := by simp [epd_16, upd, va_up, n_13, Ne.symm n_13]
      obtain ⟨hP, hD⟩ := po_back (ks := [192, r_8]) (pn' := pn_14) (pm' := pm_15) (pd' := pd_16) (ks2 (by decide) hlr_8) hP hD hk1 (by show va_P (dC, dI) cl_all [(NA 192, .inr (5, [.ref (ND 192), .int (pn_14 192), .int (pm_15 192)])), (ND 192, .inl (cI, 160, .inl (pd_16 192))), (NA r_8, .inr (5, [.ref (ND r_8), .int (pn_14 r_8), .int (pm_15 r_8)])), (ND r_8, .inl (cI, 160, .inl (pd_16 r_8)))] H1; rw [fq_18, fq_19, fq_20, fq_21, fq_22, fq_23]; exact hP1) (fun j hj => by simp only [List.mem_cons, List.not_mem_nil, or_false, not_or] at hj; exact ⟨by simp [epn_14, upd, va_up, hj], by simp [epm_15, upd, va_up, hj], by simp [epd_16, upd, va_up, hj]⟩)
      generalize H1 = H at hP hS ⊢
      have hP : va_P (dC, dI) cl_all (xw cI cJ cB cZ cN ha NA m_rows m_columns m_prime w_2 m_pivots m_freeRows m_freeColumns m_smallMinor m_fields m_rowCounts m_elements m_numbers m_known m_ranks m_rankOf m_signOf m_order m_sizes m_coefficients m_choices m_sorted ++ po cI NA ND pn_14 pm_15 pd_16) H := hP
      have hD : va_D A (xw cI cJ cB cZ cN ha NA m_rows m_columns m_prime w_2 m_pivots m_freeRows m_freeColumns m_smallMinor m_fields m_rowCounts m_elements m_numbers m_known m_ranks m_rankOf m_signOf m_order m_sizes m_coefficients m_choices m_sorted ++ po cI NA ND pn_14 pm_15 pd_16) := hD
      refine lv_aload_n hx hb d_Mo_swap_28 rfl (lv_at hl 0 rfl) ?_
      refine lv_iload_n hx hb d_Mo_swap_29 rfl (lv_at hl 1 rfl) ?_
      refine lv_iload_n hx hb d_Mo_swap_30 rfl (lv_at hl 3 rfl) ?_
      obtain ⟨r_24, hc_25, h⟩ := ck_b1_s h
      have hPc := hP
      have hDc := hD
      have hFc := pw_free hDc hS hA
      refine va_callr (va_runV (As := [.int i0, .int v3_1]) (rest := []) ⟨hx, hb, hml, hown, hts⟩ (c_R_at l dC dI cI cJ cB cZ cT cN H.size ha NA ND m_rows m_columns m_prime w_2 m_pivots m_freeRows m_freeColumns m_smallMinor m_fields m_rowCounts m_elements m_numbers m_known m_ranks m_rankOf m_signOf m_order m_sizes m_coefficients m_choices m_sorted pn_14 pm_15 pd_16 i0 v3_1 _ hc_25) (cwV 2 hts (tb_V tw_485 tw_487 tp_21 tw_6 tw_488) rfl rfl rfl (by decide +kernel) ⟨Nat.le_of_ble_eq_true rfl, Nat.le_of_ble_eq_true rfl⟩) ⟨fun a U g mk q => by obtain ⟨q0, q1, qP, qK, qN, qD⟩ := q; exact ⟨q0, q1, qP, va_K.moved (u := U) (U := U.calling g mk a) (Vm.Alike.refl U.vm) qK, qN.same rfl, qD⟩, va_recv hK hPc (ci := 6) (q0 := 0) rfl rfl, fun U hU hW => ⟨rfl, by rw [hU], by rw [hU]; exact hPc, va_K.moved hW.alike hK, hN.warm hW, hDc.weaken (fun _ _ _ _ => trivial)⟩⟩ rfl rfl hl.1 rfl (lv_room (Nat.le_of_ble_eq_true rfl)) d_Mo_swap_31 ⟨Nat.zero_le _, Nat.zero_le _⟩) hS (fun q _ h => hFc q h) hFc (fun u ra t H1 locs ht hvm hw hB hz1 hk1 hS => ?_)
      replace hw := hw.symm
      subst hw
      obtain ⟨hra, hlr_24, hP1, -, hD1⟩ := hB
      subst hra
      rw [ht] at hP1
      have hP : va_P (dC, dI) cl_all (xw cI cJ cB cZ cN ha NA m_rows m_columns m_prime w_2 m_pivots m_freeRows m_freeColumns m_smallMinor m_fields m_rowCounts m_elements m_numbers m_known m_ranks m_rankOf m_signOf m_order m_sizes m_coefficients m_choices m_sorted ++ po cI NA ND pn_14 pm_15 pd_16) H1 := hP1
      have hD : va_D A (xw cI cJ cB cZ cN ha NA m_rows m_columns m_prime w_2 m_pivots m_freeRows m_freeColumns m_smallMinor m_fields m_rowCounts m_elements m_numbers m_known m_ranks m_rankOf m_signOf m_order m_sizes m_coefficients m_choices m_sorted ++ po cI NA ND pn_14 pm_15 pd_16) := hD1.weaken (fun _ _ _ h => hFc _ h)
      generalize H1 = H at hP hS ⊢
      have hP : va_P (dC, dI) cl_all (xw cI cJ cB cZ cN ha NA m_rows m_columns m_prime w_2 m_pivots m_freeRows m_freeColumns m_smallMinor m_fields m_rowCounts m_elements m_numbers m_known m_ranks m_rankOf m_signOf m_order m_sizes m_coefficients m_choices m_sorted ++ po cI NA ND pn_14 pm_15 pd_16) H := hP
      have hD : va_D A (xw cI cJ cB cZ cN ha NA m_rows m_columns m_prime w_2 m_pivots m_freeRows m_freeColumns m_smallMinor m_fields m_rowCounts m_elements m_numbers m_known m_ranks m_rankOf m_signOf m_order m_sizes m_coefficients m_choices m_sorted ++ po cI NA ND pn_14 pm_15 pd_16) := hD
      refine lv_aload_n hx hb d_Mo_swap_34 rfl (lv_at hl 0 rfl) ?_
      refine lv_iload_n hx hb d_Mo_swap_35 rfl (lv_at hl 2 rfl) ?_
      refine lv_iload_n hx hb d_Mo_swap_36 rfl (lv_at hl 3 rfl) ?_
      obtain ⟨r_26, hc_27, h⟩ := ck_b1_s h
      have hPc := hP
      have hDc := hD
      have hFc := pw_free hDc hS hA
      refine va_callr (va_runV (As := [.int k0, .int v3_1]) (rest := [.ref (NA r_24)]) ⟨hx, hb, hml, hown, hts⟩ (c_R_at l dC dI cI cJ cB cZ cT cN H.size ha NA ND m_rows m_columns m_prime w_2 m_pivots m_freeRows m_freeColumns m_smallMinor m_fields m_rowCounts m_elements m_numbers m_known m_ranks m_rankOf m_signOf m_order m_sizes m_coefficients m_choices m_sorted pn_14 pm_15 pd_16 k0 v3_1 _ hc_27) (cwV 2 hts (tb_V tw_485 tw_487 tp_21 tw_6 tw_488) rfl rfl rfl (by decide +kernel) ⟨Nat.le_of_ble_eq_true rfl, Nat.le_of_ble_eq_true rfl⟩) ⟨fun a U g mk q => by obtain ⟨q0, q1, qP, qK, qN, qD⟩ := q; exact ⟨q0, q1, qP, va_K.moved (u := U) (U := U.calling g mk a) (Vm.Alike.refl U.vm) qK, qN.same rfl, qD⟩, va_recv hK hPc (ci := 6) (q0 := 0) rfl rfl, fun U hU hW => ⟨rfl, by rw [hU], by rw [hU]; exact hPc, va_K.moved hW.alike hK, hN.warm hW, hDc.weaken (fun _ _ _ _ => trivial)⟩⟩ rfl rfl hl.1 rfl (lv_room (Nat.le_of_ble_eq_true rfl)) d_Mo_swap_37 ⟨Nat.zero_le _, Nat.zero_le _⟩) hS (fun q _ h => hFc q h) hFc (fun u ra t H1 locs ht hvm hw hB hz1 hk1 hS => ?_)
      replace hw := hw.symm
      subst hw
      obtain ⟨hra, hlr_26, hP1, -, hD1⟩ := hB
      subst hra
      rw [ht] at hP1
      have hP : va_P (dC, dI) cl_all (xw cI cJ cB cZ cN ha NA m_rows m_columns m_prime w_2 m_pivots m_freeRows m_freeColumns m_smallMinor m_fields m_rowCounts m_elements m_numbers m_known m_ranks m_rankOf m_signOf m_order m_sizes m_coefficients m_choices m_sorted ++ po cI NA ND pn_14 pm_15 pd_16) H1 := hP1
      have hD : va_D A (xw cI cJ cB cZ cN ha NA m_rows m_columns m_prime w_2 m_pivots m_freeRows m_freeColumns m_smallMinor m_fields m_rowCounts m_elements m_numbers m_known m_ranks m_rankOf m_signOf m_order m_sizes m_coefficients m_choices m_sorted ++ po cI NA ND pn_14 pm_15 pd_16) := hD1.weaken (fun _ _ _ h => hFc _ h)
      generalize H1 = H at hP hS ⊢
      have hP : va_P (dC, dI) cl_all (xw cI cJ cB cZ cN ha NA m_rows m_columns m_prime w_2 m_pivots m_freeRows m_freeColumns m_smallMinor m_fields m_rowCounts m_elements m_numbers m_known m_ranks m_rankOf m_signOf m_order m_sizes m_coefficients m_choices m_sorted ++ po cI NA ND pn_14 pm_15 pd_16) H := hP
      have hD : va_D A (xw cI cJ cB cZ cN ha NA m_rows m_columns m_prime w_2 m_pivots m_freeRows m_freeColumns m_smallMinor m_fields m_rowCounts m_elements m_numbers m_known m_ranks m_rankOf m_signOf m_order m_sizes m_coefficients m_choices m_sorted ++ po cI NA ND pn_14 pm_15 pd_16) := hD
      obtain ⟨n_31, h⟩ := ck_p_s h
      obtain ⟨u_28, u_29, u_30, hc_35, h⟩ := ck_b3_s h
      obtain ⟨hPc, hDc⟩ := po_cut (ks := [r_24, r_26]) (ks2 hlr_24 hlr_26) (nd2 n_31) hP hD
      have hPc : va_P (dC, dI) cl_all [(NA r_24, .inr (5, [.ref (ND r_24), .int (pn_14 r_24), .int (pm_15 r_24)])), (ND r_24, .inl (cI, 160, .inl (pd_16 r_24))), (NA r_26, .inr (5, [.ref (ND r_26), .int (pn_14 r_26), .int (pm_15 r_26)])), (ND r_26, .inl (cI, 160, .inl (pd_16 r_26)))] H := hPc
      have hDc : va_D A [(NA r_24, .inr (5, [.ref (ND r_24), .int (pn_14 r_24), .int (pm_15 r_24)])), (ND r_24, .inl (cI, 160, .inl (pd_16 r_24))), (NA r_26, .inr (5, [.ref (ND r_26), .int (pn_14 r_26), .int (pm_15 r_26)])), (ND r_26, .inl (cI, 160, .inl (pd_16 r_26)))] := hDc
      have hFc := pw_free hDc hS hA
      refine va_callv (va_runV (As := [.ref (NA r_26)]) (rest := []) ⟨hx, hb, hml, hown, hts⟩ (c_N_copy l dC dI cI cJ cB cZ cT cN H.size (NA r_24) (NA r_26) (ND r_24) (ND r_26) (pn_14 r_24) (pm_15 r_24) 160 (pd_16 r_24) (pn_14 r_26) (pm_15 r_26) 160 (pd_16 r_26) _ hc_35) (cwV 1 hts (tb_V tw_510 tw_511 tw_512 tw_7 tw_513) rfl rfl rfl (by decide +kernel) ⟨Nat.le_of_ble_eq_true rfl, Nat.le_of_ble_eq_true rfl⟩) ⟨fun a U g mk q => by obtain ⟨q0, q1, qP, qK, qN, qD⟩ := q; exact ⟨q0, q1, qP, va_K.moved (u := U) (U := U.calling g mk a) (Vm.Alike.refl U.vm) qK, qN.same rfl, qD⟩, va_recv hK hPc (ci := 5) (q0 := 0) rfl rfl, fun U hU hW => ⟨rfl, by rw [hU], by rw [hU]; exact hPc, va_K.moved hW.alike hK, hN.warm hW, hDc.weaken (fun _ _ _ _ => trivial)⟩⟩ rfl rfl hl.1 rfl (lv_room (Nat.le_of_ble_eq_true rfl)) d_Mo_swap_40 ⟨Nat.zero_le _, Nat.zero_le _⟩) hS (fun q _ h => hFc q h) hFc (fun u t H1 locs ht hvm hw hB hz1 hk1 hS => ?_)
      replace hw := hw.symm
      subst hw
      obtain ⟨hP1, -, hD1⟩ := hB
      rw [ht] at hP1
      obtain ⟨pn_32, epn_32⟩ : ∃ y : Nat → Int32, y = (upd pn_14 r_24 u_28) := ⟨_, rfl⟩
      replace h := ck_nm_s h epn_32
      obtain ⟨pm_33, epm_33⟩ : ∃ y : Nat → Int32, y = (upd pm_15 r_24 u_29) := ⟨_, rfl⟩
      replace h := ck_nm_s h epm_33
      obtain ⟨pd_34, epd_34⟩ : ∃ y : Nat → Nat → Int32, y = (va_up pd_16 r_24 u_30) := ⟨_, rfl⟩
      replace h := ck_nm_s h epd_34
      have fq_36 : pn_32 r_24 = u_28 := by simp [epn_32, upd, va_up, n_31, Ne.symm n_31]
      have fq_37 : pm_33 r_24 = u_29 := by simp [epm_33, upd, va_up, n_31, Ne.symm n_31]
      have fq_38 : pd_34 r_24 = u_30 := by simp [epd_34, upd, va_up, n_31, Ne.symm n_31]
      have fq_39 : pn_32 r_26 = pn_14 r_26 := by simp [epn_32, upd, va_up, n_31, Ne.symm n_31]
      have fq_40 : pm_33 r_26 = pm_15 r_26 := by simp [epm_33, upd, va_up, n_31, Ne.symm n_31]
      have fq_41 : pd_34 r_26 = pd_16 r_26 := by simp [epd_34, upd, va_up, n_31, Ne.symm n_31]
      obtain ⟨hP, hD⟩ := po_back (ks := [r_24, r_26]) (pn' := pn_32) (pm' := pm_33) (pd' := pd_34) (ks2 hlr_24 hlr_26) hP hD hk1 (by show va_P (dC, dI) cl_all [(NA r_24, .inr (5, [.ref (ND r_24), .int (pn_32 r_24), .int (pm_33 r_24)])), (ND r_24, .inl (cI, 160, .inl (pd_34 r_24))), (NA r_26, .inr (5, [.ref (ND r_26), .int (pn_32 r_26), .int (pm_33 r_26)])), (ND r_26, .inl (cI, 160, .inl (pd_34 r_26)))] H1; rw [fq_36, fq_37, fq_38, fq_39, fq_40, fq_41]; exact hP1) (fun j hj => by simp only [List.mem_cons, List.not_mem_nil, or_false, not_or] at hj; exact ⟨by simp [epn_32, upd, va_up, hj], by simp [epm_33, upd, va_up, hj], by simp [epd_34, upd, va_up, hj]⟩)
      generalize H1 = H at hP hS ⊢
      have hP : va_P (dC, dI) cl_all (xw cI cJ cB cZ cN ha NA m_rows m_columns m_prime w_2 m_pivots m_freeRows m_freeColumns m_smallMinor m_fields m_rowCounts m_elements m_numbers m_known m_ranks m_rankOf m_signOf m_order m_sizes m_coefficients m_choices m_sorted ++ po cI NA ND pn_32 pm_33 pd_34) H := hP
      have hD : va_D A (xw cI cJ cB cZ cN ha NA m_rows m_columns m_prime w_2 m_pivots m_freeRows m_freeColumns m_smallMinor m_fields m_rowCounts m_elements m_numbers m_known m_ranks m_rankOf m_signOf m_order m_sizes m_coefficients m_choices m_sorted ++ po cI NA ND pn_32 pm_33 pd_34) := hD
      refine lv_aload_n hx hb d_Mo_swap_43 rfl (lv_at hl 0 rfl) ?_
      refine lv_iload_n hx hb d_Mo_swap_44 rfl (lv_at hl 2 rfl) ?_
      refine lv_iload_n hx hb d_Mo_swap_45 rfl (lv_at hl 3 rfl) ?_
      obtain ⟨r_42, hc_43, h⟩ := ck_b1_s h
      have hPc := hP
      have hDc := hD
      have hFc := pw_free hDc hS hA
      refine va_callr (va_runV (As := [.int k0, .int v3_1]) (rest := []) ⟨hx, hb, hml, hown, hts⟩ (c_R_at l dC dI cI cJ cB cZ cT cN H.size ha NA ND m_rows m_columns m_prime w_2 m_pivots m_freeRows m_freeColumns m_smallMinor m_fields m_rowCounts m_elements m_numbers m_known m_ranks m_rankOf m_signOf m_order m_sizes m_coefficients m_choices m_sorted pn_32 pm_33 pd_34 k0 v3_1 _ hc_43) (cwV 2 hts (tb_V tw_485 tw_487 tp_21 tw_6 tw_488) rfl rfl rfl (by decide +kernel) ⟨Nat.le_of_ble_eq_true rfl, Nat.le_of_ble_eq_true rfl⟩) ⟨fun a U g mk q => by obtain ⟨q0, q1, qP, qK, qN, qD⟩ := q; exact ⟨q0, q1, qP, va_K.moved (u := U) (U := U.calling g mk a) (Vm.Alike.refl U.vm) qK, qN.same rfl, qD⟩, va_recv hK hPc (ci := 6) (q0 := 0) rfl rfl, fun U hU hW => ⟨rfl, by rw [hU], by rw [hU]; exact hPc, va_K.moved hW.alike hK, hN.warm hW, hDc.weaken (fun _ _ _ _ => trivial)⟩⟩ rfl rfl hl.1 rfl (lv_room (Nat.le_of_ble_eq_true rfl)) d_Mo_swap_46 ⟨Nat.zero_le _, Nat.zero_le _⟩) hS (fun q _ h => hFc q h) hFc (fun u ra t H1 locs ht hvm hw hB hz1 hk1 hS => ?_)
      replace hw := hw.symm
      subst hw
      obtain ⟨hra, hlr_42, hP1, -, hD1⟩ := hB
      subst hra
      rw [ht] at hP1
      have hP : va_P (dC, dI) cl_all (xw cI cJ cB cZ cN ha NA m_rows m_columns m_prime w_2 m_pivots m_freeRows m_freeColumns m_smallMinor m_fields m_rowCounts m_elements m_numbers m_known m_ranks m_rankOf m_signOf m_order m_sizes m_coefficients m_choices m_sorted ++ po cI NA ND pn_32 pm_33 pd_34) H1 := hP1
      have hD : va_D A (xw cI cJ cB cZ cN ha NA m_rows m_columns m_prime w_2 m_pivots m_freeRows m_freeColumns m_smallMinor m_fields m_rowCounts m_elements m_numbers m_known m_ranks m_rankOf m_signOf m_order m_sizes m_coefficients m_choices m_sorted ++ po cI NA ND pn_32 pm_33 pd_34) := hD1.weaken (fun _ _ _ h => hFc _ h)
      generalize H1 = H at hP hS ⊢
      have hP : va_P (dC, dI) cl_all (xw cI cJ cB cZ cN ha NA m_rows m_columns m_prime w_2 m_pivots m_freeRows m_freeColumns m_smallMinor m_fields m_rowCounts m_elements m_numbers m_known m_ranks m_rankOf m_signOf m_order m_sizes m_coefficients m_choices m_sorted ++ po cI NA ND pn_32 pm_33 pd_34) H := hP
      have hD : va_D A (xw cI cJ cB cZ cN ha NA m_rows m_columns m_prime w_2 m_pivots m_freeRows m_freeColumns m_smallMinor m_fields m_rowCounts m_elements m_numbers m_known m_ranks m_rankOf m_signOf m_order m_sizes m_coefficients m_choices m_sorted ++ po cI NA ND pn_32 pm_33 pd_34) := hD
      refine lv_aload_n hx hb d_Mo_swap_49 rfl (lv_at hl 0 rfl) ?_
      refine va_get (D := (dC, dI)) (ci := 6) (v := .ref (NA 192)) (C := "BasisWalkModel") (T := T_Mo) (N := 31) hx hb hts iw1 hown hK hP 0 rfl rfl 0 (by decide) fl2 (fun _ h9 => h9) rfl d_Mo_swap_50 ?_
      obtain ⟨n_47, h⟩ := ck_p_s h
      obtain ⟨u_44, u_45, u_46, hc_51, h⟩ := ck_b3_s h
      obtain ⟨hPc, hDc⟩ := po_cut (ks := [r_42, 192]) (ks2 hlr_42 (by decide)) (nd2 n_47) hP hD
      have hPc : va_P (dC, dI) cl_all [(NA r_42, .inr (5, [.ref (ND r_42), .int (pn_32 r_42), .int (pm_33 r_42)])), (ND r_42, .inl (cI, 160, .inl (pd_34 r_42))), (NA 192, .inr (5, [.ref (ND 192), .int (pn_32 192), .int (pm_33 192)])), (ND 192, .inl (cI, 160, .inl (pd_34 192)))] H := hPc
      have hDc : va_D A [(NA r_42, .inr (5, [.ref (ND r_42), .int (pn_32 r_42), .int (pm_33 r_42)])), (ND r_42, .inl (cI, 160, .inl (pd_34 r_42))), (NA 192, .inr (5, [.ref (ND 192), .int (pn_32 192), .int (pm_33 192)])), (ND 192, .inl (cI, 160, .inl (pd_34 192)))] := hDc
      have hFc := pw_free hDc hS hA
      refine va_callv (va_runV (As := [.ref (NA 192)]) (rest := []) ⟨hx, hb, hml, hown, hts⟩ (c_N_copy l dC dI cI cJ cB cZ cT cN H.size (NA r_42) (NA 192) (ND r_42) (ND 192) (pn_32 r_42) (pm_33 r_42) 160 (pd_34 r_42) (pn_32 192) (pm_33 192) 160 (pd_34 192) _ hc_51) (cwV 1 hts (tb_V tw_510 tw_511 tw_512 tw_7 tw_513) rfl rfl rfl (by decide +kernel) ⟨Nat.le_of_ble_eq_true rfl, Nat.le_of_ble_eq_true rfl⟩) ⟨fun a U g mk q => by obtain ⟨q0, q1, qP, qK, qN, qD⟩ := q; exact ⟨q0, q1, qP, va_K.moved (u := U) (U := U.calling g mk a) (Vm.Alike.refl U.vm) qK, qN.same rfl, qD⟩, va_recv hK hPc (ci := 5) (q0 := 0) rfl rfl, fun U hU hW => ⟨rfl, by rw [hU], by rw [hU]; exact hPc, va_K.moved hW.alike hK, hN.warm hW, hDc.weaken (fun _ _ _ _ => trivial)⟩⟩ rfl rfl hl.1 rfl (lv_room (Nat.le_of_ble_eq_true rfl)) d_Mo_swap_53 ⟨Nat.zero_le _, Nat.zero_le _⟩) hS (fun q _ h => hFc q h) hFc (fun u t H1 locs ht hvm hw hB hz1 hk1 hS => ?_)
      replace hw := hw.symm
      subst hw
      obtain ⟨hP1, -, hD1⟩ := hB
      rw [ht] at hP1
      obtain ⟨pn_48, epn_48⟩ : ∃ y : Nat → Int32, y = (upd pn_32 r_42 u_44) := ⟨_, rfl⟩
      replace h := ck_nm_s h epn_48
      obtain ⟨pm_49, epm_49⟩ : ∃ y : Nat → Int32, y = (upd pm_33 r_42 u_45) := ⟨_, rfl⟩
      replace h := ck_nm_s h epm_49
      obtain ⟨pd_50, epd_50⟩ : ∃ y : Nat → Nat → Int32, y = (va_up pd_34 r_42 u_46) := ⟨_, rfl⟩
      replace h := ck_nm_s h epd_50
      have fq_52 : pn_48 r_42 = u_44 := by simp [epn_48, upd, va_up, n_47, Ne.symm n_47]
      have fq_53 : pm_49 r_42 = u_45 := by simp [epm_49, upd, va_up, n_47, Ne.symm n_47]
      have fq_54 : pd_50 r_42 = u_46 := by simp [epd_50, upd, va_up, n_47, Ne.symm n_47]
      have fq_55 : pn_48 192 = pn_32 192 := by simp [epn_48, upd, va_up, n_47, Ne.symm n_47]
      have fq_56 : pm_49 192 = pm_33 192 := by simp [epm_49, upd, va_up, n_47, Ne.symm n_47]
      have fq_57 : pd_50 192 = pd_34 192 := by simp [epd_50, upd, va_up, n_47, Ne.symm n_47]
      obtain ⟨hP, hD⟩ := po_back (ks := [r_42, 192]) (pn' := pn_48) (pm' := pm_49) (pd' := pd_50) (ks2 hlr_42 (by decide)) hP hD hk1 (by show va_P (dC, dI) cl_all [(NA r_42, .inr (5, [.ref (ND r_42), .int (pn_48 r_42), .int (pm_49 r_42)])), (ND r_42, .inl (cI, 160, .inl (pd_50 r_42))), (NA 192, .inr (5, [.ref (ND 192), .int (pn_48 192), .int (pm_49 192)])), (ND 192, .inl (cI, 160, .inl (pd_50 192)))] H1; rw [fq_52, fq_53, fq_54, fq_55, fq_56, fq_57]; exact hP1) (fun j hj => by simp only [List.mem_cons, List.not_mem_nil, or_false, not_or] at hj; exact ⟨by simp [epn_48, upd, va_up, hj], by simp [epm_49, upd, va_up, hj], by simp [epd_50, upd, va_up, hj]⟩)
      generalize H1 = H at hP hS ⊢
      have hP : va_P (dC, dI) cl_all (xw cI cJ cB cZ cN ha NA m_rows m_columns m_prime w_2 m_pivots m_freeRows m_freeColumns m_smallMinor m_fields m_rowCounts m_elements m_numbers m_known m_ranks m_rankOf m_signOf m_order m_sizes m_coefficients m_choices m_sorted ++ po cI NA ND pn_48 pm_49 pd_50) H := hP
      have hD : va_D A (xw cI cJ cB cZ cN ha NA m_rows m_columns m_prime w_2 m_pivots m_freeRows m_freeColumns m_smallMinor m_fields m_rowCounts m_elements m_numbers m_known m_ranks m_rankOf m_signOf m_order m_sizes m_coefficients m_choices m_sorted ++ po cI NA ND pn_48 pm_49 pd_50) := hD
      refine lv_aload_n hx hb d_Mo_swap_56 rfl (lv_at hl 0 rfl) ?_
      refine va_get (D := (dC, dI)) (ci := 6) (v := .ref (ha 2)) (C := "BasisWalkModel") (T := T_Mo) (N := 31) hx hb hts iw1 hown hK hP 0 rfl rfl 9 (by decide) fl3 (fun _ h9 => h9) rfl d_Mo_swap_57 ?_
      refine lv_bipush (v := 12) hx hb d_Mo_swap_60 (by decide) ?_
      refine lv_iload_n hx hb d_Mo_swap_62 rfl (lv_at hl 1 rfl) ?_
      refine lv_imul hx hb d_Mo_swap_63 ?_
      refine lv_iload_n hx hb d_Mo_swap_64 rfl (lv_at hl 3 rfl) ?_
      refine lv_iadd hx hb d_Mo_swap_65 ?_
      obtain ⟨g_58, h⟩ := ck_in_s h
      refine va_iald hx hb hK hP 2 0 rfl rfl g_58 d_Mo_swap_66 ?_
      refine lv_topi (fun x_59 ex_59 => ?_)
      replace h := ck_nm_s h ex_59
      refine lv_istore (lv' := [(4, .int x_59), (0, .ref (ha 0)), (1, .int i0), (2, .int k0), (3, .int v3_1)]) hx hb d_Mo_swap_67 hl (by decide) rfl (fun ls hl => ?_)
      refine lv_aload_n hx hb d_Mo_swap_69 rfl (lv_at hl 1 rfl) ?_
      refine va_get (D := (dC, dI)) (ci := 6) (v := .ref (ha 2)) (C := "BasisWalkModel") (T := T_Mo) (N := 31) hx hb hts iw1 hown hK hP 0 rfl rfl 9 (by decide) fl3 (fun _ h9 => h9) rfl d_Mo_swap_70 ?_
      refine lv_bipush (v := 12) hx hb d_Mo_swap_73 (by decide) ?_
      refine lv_iload_n hx hb d_Mo_swap_75 rfl (lv_at hl 2 rfl) ?_
      refine lv_imul hx hb d_Mo_swap_76 ?_
      refine lv_iload_n hx hb d_Mo_swap_77 rfl (lv_at hl 4 rfl) ?_
      refine lv_iadd hx hb d_Mo_swap_78 ?_
      refine lv_aload_n hx hb d_Mo_swap_79 rfl (lv_at hl 1 rfl) ?_
      refine va_get (D := (dC, dI)) (ci := 6) (v := .ref (ha 2)) (C := "BasisWalkModel") (T := T_Mo) (N := 31) hx hb hts iw1 hown hK hP 0 rfl rfl 9 (by decide) fl3 (fun _ h9 => h9) rfl d_Mo_swap_80 ?_
      refine lv_bipush (v := 12) hx hb d_Mo_swap_83 (by decide) ?_
      refine lv_iload_n hx hb d_Mo_swap_85 rfl (lv_at hl 3 rfl) ?_
      refine lv_imul hx hb d_Mo_swap_86 ?_
      refine lv_iload_n hx hb d_Mo_swap_87 rfl (lv_at hl 4 rfl) ?_
      refine lv_iadd hx hb d_Mo_swap_88 ?_
      obtain ⟨g_60, h⟩ := ck_in_s h
      refine va_iald hx hb hK hP 2 0 rfl rfl g_60 d_Mo_swap_89 ?_
      obtain ⟨g_61, h⟩ := ck_in_s h
      refine va_iast hx hb hK hP hD hS 2 0 rfl rfl g_61 d_Mo_swap_90 (fun H locs hP hD hS => ?_)
      have hP : va_P (dC, dI) cl_all (xw cI cJ cB cZ cN ha NA m_rows m_columns m_prime (upd w_2 ((12 * i0) + v3_1).toNatClampNeg (w_2 ((12 * k0) + v3_1).toNatClampNeg)) m_pivots m_freeRows m_freeColumns m_smallMinor m_fields m_rowCounts m_elements m_numbers m_known m_ranks m_rankOf m_signOf m_order m_sizes m_coefficients m_choices m_sorted ++ po cI NA ND pn_48 pm_49 pd_50) H := hP
      have hD : va_D A (xw cI cJ cB cZ cN ha NA m_rows m_columns m_prime (upd w_2 ((12 * i0) + v3_1).toNatClampNeg (w_2 ((12 * k0) + v3_1).toNatClampNeg)) m_pivots m_freeRows m_freeColumns m_smallMinor m_fields m_rowCounts m_elements m_numbers m_known m_ranks m_rankOf m_signOf m_order m_sizes m_coefficients m_choices m_sorted ++ po cI NA ND pn_48 pm_49 pd_50) := hD
      refine lv_aload_n hx hb d_Mo_swap_91 rfl (lv_at hl 1 rfl) ?_
      refine va_get (D := (dC, dI)) (ci := 6) (v := .ref (ha 2)) (C := "BasisWalkModel") (T := T_Mo) (N := 31) hx hb hts iw1 hown hK hP 0 rfl rfl 9 (by decide) fl3 (fun _ h9 => h9) rfl d_Mo_swap_92 ?_
      refine lv_bipush (v := 12) hx hb d_Mo_swap_95 (by decide) ?_
      refine lv_iload_n hx hb d_Mo_swap_97 rfl (lv_at hl 3 rfl) ?_
      refine lv_imul hx hb d_Mo_swap_98 ?_
      refine lv_iload_n hx hb d_Mo_swap_99 rfl (lv_at hl 4 rfl) ?_
      refine lv_iadd hx hb d_Mo_swap_100 ?_
      refine lv_iload hx hb d_Mo_swap_101 (lv_at hl 0 rfl) ?_
      obtain ⟨g_62, h⟩ := ck_in_s h
      refine va_iast hx hb hK hP hD hS 2 0 rfl rfl g_62 d_Mo_swap_103 (fun H locs hP hD hS => ?_)
      have hP : va_P (dC, dI) cl_all (xw cI cJ cB cZ cN ha NA m_rows m_columns m_prime (upd (upd w_2 ((12 * i0) + v3_1).toNatClampNeg (w_2 ((12 * k0) + v3_1).toNatClampNeg)) ((12 * k0) + v3_1).toNatClampNeg x_59) m_pivots m_freeRows m_freeColumns m_smallMinor m_fields m_rowCounts m_elements m_numbers m_known m_ranks m_rankOf m_signOf m_order m_sizes m_coefficients m_choices m_sorted ++ po cI NA ND pn_48 pm_49 pd_50) H := hP
      have hD : va_D A (xw cI cJ cB cZ cN ha NA m_rows m_columns m_prime (upd (upd w_2 ((12 * i0) + v3_1).toNatClampNeg (w_2 ((12 * k0) + v3_1).toNatClampNeg)) ((12 * k0) + v3_1).toNatClampNeg x_59) m_pivots m_freeRows m_freeColumns m_smallMinor m_fields m_rowCounts m_elements m_numbers m_known m_ranks m_rankOf m_signOf m_order m_sizes m_coefficients m_choices m_sorted ++ po cI NA ND pn_48 pm_49 pd_50) := hD
      obtain ⟨x_63, ex_63⟩ : ∃ y : Int32, y = v3_1 + 1 := ⟨_, rfl⟩
      replace h := ck_nm_s h ex_63
      refine lv_iinc (v := x_63) (lv' := [(3, .int x_63), (4, .int x_59), (0, .ref (ha 0)), (1, .int i0), (2, .int k0)]) hx hb d_Mo_swap_104 hl (k := 4) rfl (by rw [ex_63]; rfl) (by decide) rfl (fun ls hl => ?_)
      refine lv_goto (tgt := 2) hx hb d_Mo_swap_107 (by decide) ?_
      exact J_2 _ _ _ _ _ h _ _ hP hD hS _ (lv_sub hl [2, 3, 4, 0] rfl)
