theorem d_Mo_divisor_0 : decode prog_7_method_1_code 0 = .ok (.aload_n 0, 1) := by decide +kernel
theorem d_Mo_divisor_1 : decode prog_7_method_1_code 1 = .ok (.getfield 1, 3) := by decide +kernel
theorem d_Mo_divisor_4 : decode prog_7_method_1_code 4 = .ok (.aload_n 1, 1) := by decide +kernel
theorem d_Mo_divisor_5 : decode prog_7_method_1_code 5 = .ok (.invokevirtual 7, 3) := by decide +kernel
theorem d_Mo_divisor_8 : decode prog_7_method_1_code 8 = .ok (.aload_n 0, 1) := by decide +kernel
theorem d_Mo_divisor_9 : decode prog_7_method_1_code 9 = .ok (.getfield 1, 3) := by decide +kernel
theorem d_Mo_divisor_12 : decode prog_7_method_1_code 12 = .ok (.iconst 0, 1) := by decide +kernel
theorem d_Mo_divisor_13 : decode prog_7_method_1_code 13 = .ok (.putfield 13, 3) := by decide +kernel
theorem d_Mo_divisor_16 : decode prog_7_method_1_code 16 = .ok (.aload_n 0, 1) := by decide +kernel
theorem d_Mo_divisor_17 : decode prog_7_method_1_code 17 = .ok (.getfield 17, 3) := by decide +kernel
theorem d_Mo_divisor_20 : decode prog_7_method_1_code 20 = .ok (.aload_n 2, 1) := by decide +kernel
theorem d_Mo_divisor_21 : decode prog_7_method_1_code 21 = .ok (.invokevirtual 7, 3) := by decide +kernel
theorem d_Mo_divisor_24 : decode prog_7_method_1_code 24 = .ok (.aload_n 0, 1) := by decide +kernel
theorem d_Mo_divisor_25 : decode prog_7_method_1_code 25 = .ok (.getfield 17, 3) := by decide +kernel
theorem d_Mo_divisor_28 : decode prog_7_method_1_code 28 = .ok (.iconst 0, 1) := by decide +kernel
theorem d_Mo_divisor_29 : decode prog_7_method_1_code 29 = .ok (.putfield 13, 3) := by decide +kernel
theorem d_Mo_divisor_32 : decode prog_7_method_1_code 32 = .ok (.aload_n 0, 1) := by decide +kernel
theorem d_Mo_divisor_33 : decode prog_7_method_1_code 33 = .ok (.getfield 17, 3) := by decide +kernel
theorem d_Mo_divisor_36 : decode prog_7_method_1_code 36 = .ok (.getfield 20, 3) := by decide +kernel
theorem d_Mo_divisor_39 : decode prog_7_method_1_code 39 = .ok (.ifCond .le 47, 3) := by decide +kernel
theorem d_Mo_divisor_42 : decode prog_7_method_1_code 42 = .ok (.aload_n 0, 1) := by decide +kernel
theorem d_Mo_divisor_43 : decode prog_7_method_1_code 43 = .ok (.getfield 24, 3) := by decide +kernel
theorem d_Mo_divisor_46 : decode prog_7_method_1_code 46 = .ok (.aload_n 0, 1) := by decide +kernel
theorem d_Mo_divisor_47 : decode prog_7_method_1_code 47 = .ok (.getfield 1, 3) := by decide +kernel
theorem d_Mo_divisor_50 : decode prog_7_method_1_code 50 = .ok (.aload_n 0, 1) := by decide +kernel
theorem d_Mo_divisor_51 : decode prog_7_method_1_code 51 = .ok (.getfield 17, 3) := by decide +kernel
theorem d_Mo_divisor_54 : decode prog_7_method_1_code 54 = .ok (.aload_n 0, 1) := by decide +kernel
theorem d_Mo_divisor_55 : decode prog_7_method_1_code 55 = .ok (.getfield 27, 3) := by decide +kernel
theorem d_Mo_divisor_58 : decode prog_7_method_1_code 58 = .ok (.invokevirtual 30, 3) := by decide +kernel
theorem d_Mo_divisor_61 : decode prog_7_method_1_code 61 = .ok (.aload_n 0, 1) := by decide +kernel
theorem d_Mo_divisor_62 : decode prog_7_method_1_code 62 = .ok (.getfield 1, 3) := by decide +kernel
theorem d_Mo_divisor_65 : decode prog_7_method_1_code 65 = .ok (.aload_n 0, 1) := by decide +kernel
theorem d_Mo_divisor_66 : decode prog_7_method_1_code 66 = .ok (.getfield 17, 3) := by decide +kernel
theorem d_Mo_divisor_69 : decode prog_7_method_1_code 69 = .ok (.invokevirtual 7, 3) := by decide +kernel
theorem d_Mo_divisor_72 : decode prog_7_method_1_code 72 = .ok (.aload_n 0, 1) := by decide +kernel
theorem d_Mo_divisor_73 : decode prog_7_method_1_code 73 = .ok (.getfield 17, 3) := by decide +kernel
theorem d_Mo_divisor_76 : decode prog_7_method_1_code 76 = .ok (.aload_n 0, 1) := by decide +kernel
theorem d_Mo_divisor_77 : decode prog_7_method_1_code 77 = .ok (.getfield 27, 3) := by decide +kernel
theorem d_Mo_divisor_80 : decode prog_7_method_1_code 80 = .ok (.invokevirtual 7, 3) := by decide +kernel
theorem d_Mo_divisor_83 : decode prog_7_method_1_code 83 = .ok (.goto (-51), 3) := by decide +kernel
theorem d_Mo_divisor_86 : decode prog_7_method_1_code 86 = .ok (.return_, 1) := by decide +kernel
def f_R_divisor (pn : Nat → Int32) (pm : Nat → Int32) (pd : Nat → Nat → Int32) (a0 : Nat) (b0 : Nat) : Option ((Nat → Int32) × (Nat → Int32) × (Nat → Nat → Int32)) :=
  ck_p (a0 < 200) <| ck_p (b0 < 200) <| ck_p (196 ≠ a0) <| ck_b3 (f_N_copy 160 (pd 196) (pn a0) (pm a0) 160 (pd a0)) <| fun u_1 u_2 u_3 => ck_nm (upd pn 196 u_1) <| fun pn_5 => ck_nm (upd pm 196 u_2) <| fun pm_6 => ck_nm (va_up pd 196 u_3) <| fun pd_7 => ck_nm (upd pm_6 196 0) <| fun pm_15 => ck_p (195 ≠ b0) <| ck_b3 (f_N_copy 160 (pd_7 195) (pn_5 b0) (pm_15 b0) 160 (pd_7 b0)) <| fun u_16 u_17 u_18 => ck_nm (upd pn_5 195 u_16) <| fun pn_20 => ck_nm (upd pm_15 195 u_17) <| fun pm_21 => ck_nm (va_up pd_7 195 u_18) <| fun pd_22 => ck_nm (upd pm_21 195 0) <| fun pm_30 => lo3 (fun k_32 (pn_31 : Nat → Int32) (pm_32 : Nat → Int32) (pd_33 : Nat → Nat → Int32) => ck_if ((pn_31 195) ≤ 0) (some (pn_31, pm_32, pd_33)) (ck_p (194 ≠ 196 ∧ 194 ≠ 195 ∧ 194 ≠ 193 ∧ 196 ≠ 195 ∧ 196 ≠ 193 ∧ 195 ≠ 193) <| ck_b6 (f_N_quotient 160 (pd_33 194) (pn_31 196) (pm_32 196) 160 (pd_33 196) (pn_31 195) (pm_32 195) 160 (pd_33 195) 160 (pd_33 193)) <| fun u_35 u_36 u_37 u_38 u_39 u_40 => ck_nm (upd (upd pn_31 194 u_35) 193 u_38) <| fun pn_42 => ck_nm (upd (upd pm_32 194 u_36) 193 u_39) <| fun pm_43 => ck_nm (va_up (va_up pd_33 194 u_37) 193 u_40) <| fun pd_44 => ck_p (196 ≠ 195) <| ck_b3 (f_N_copy 160 (pd_44 196) (pn_42 195) (pm_43 195) 160 (pd_44 195)) <| fun u_58 u_59 u_60 => ck_nm (upd pn_42 196 u_58) <| fun pn_62 => ck_nm (upd pm_43 196 u_59) <| fun pm_63 => ck_nm (va_up pd_44 196 u_60) <| fun pd_64 => ck_p (195 ≠ 193) <| ck_b3 (f_N_copy 160 (pd_64 195) (pn_62 193) (pm_63 193) 160 (pd_64 193)) <| fun u_72 u_73 u_74 => ck_nm (upd pn_62 195 u_72) <| fun pn_76 => ck_nm (upd pm_63 195 u_73) <| fun pm_77 => ck_nm (va_up pd_64 195 u_74) <| fun pd_78 => k_32 pn_76 pm_77 pd_78)) ck_F pn_20 pm_30 pd_22
set_option maxHeartbeats 4000000 in
set_option maxRecDepth 100000 in
theorem c_R_divisor (l : Launch) (dC : Nat → ClassId) (dI : Nat → Nat → Nat) (cI cJ cB cZ cT cN : ClassId) (sz : Nat) (ha NA ND : Nat → Nat) (m_rows : Int32) (m_columns : Int32) (m_prime : Int32) (m_small : Nat → Int32) (m_pivots : Nat → Int32) (m_freeRows : Nat → Int32) (m_freeColumns : Nat → Int32) (m_smallMinor : Nat → Int32) (m_fields : Nat → Int32) (m_rowCounts : Nat → Int32) (m_elements : Nat → Int32) (m_numbers : Nat → Int32) (m_known : Nat → Int32) (m_ranks : Nat → Int32) (m_rankOf : Nat → Int32) (m_signOf : Nat → Int32) (m_order : Nat → Int32) (m_sizes : Nat → Int32) (m_coefficients : Nat → Int64) (m_choices : Nat → Int64) (m_sorted : Nat → Int32) (pn : Nat → Int32) (pm : Nat → Int32) (pd : Nat → Nat → Int32) (a0 : Nat) (b0 : Nat) (r : (Nat → Int32) × (Nat → Int32) × (Nat → Nat → Int32)) (h : f_R_divisor pn pm pd a0 b0 = some r) : Met l y_Mo_divisor w_Mo_divisor ({ frames := 3, cells := 0, slots := 0, locals := 80 } : Room) (va_Pc [.ref (ha 0), .ref (NA a0), .ref (NA b0)] (fun U => U.heap.size = sz ∧ va_P (dC, dI) cl_all (xw cI cJ cB cZ cN ha NA m_rows m_columns m_prime m_small m_pivots m_freeRows m_freeColumns m_smallMinor m_fields m_rowCounts m_elements m_numbers m_known m_ranks m_rankOf m_signOf m_order m_sizes m_coefficients m_choices m_sorted ++ po cI NA ND pn pm pd) U.heap ∧ va_K (dC, dI) cl_all [(cI, .int), (cJ, .long), (cB, .byte), (cZ, .boolean), (cT, .object "BasisWalk$Table"), (cN, .object "BasisWalkModel$Num")] U ∧ NW U ∧ va_D (fun _ => True) (xw cI cJ cB cZ cN ha NA m_rows m_columns m_prime m_small m_pivots m_freeRows m_freeColumns m_smallMinor m_fields m_rowCounts m_elements m_numbers m_known m_ranks m_rankOf m_signOf m_order m_sizes m_coefficients m_choices m_sorted ++ po cI NA ND pn pm pd))) (va_Qv (fun u : (Nat → Int32) × (Nat → Int32) × (Nat → Nat → Int32) => u = r) (fun (u : (Nat → Int32) × (Nat → Int32) × (Nat → Nat → Int32)) (t : State) => va_P (dC, dI) cl_all (xw cI cJ cB cZ cN ha NA m_rows m_columns m_prime m_small m_pivots m_freeRows m_freeColumns m_smallMinor m_fields m_rowCounts m_elements m_numbers m_known m_ranks m_rankOf m_signOf m_order m_sizes m_coefficients m_choices m_sorted ++ po cI NA ND u.1 u.2.1 u.2.2) t.heap ∧ va_K (dC, dI) cl_all [(cI, .int), (cJ, .long), (cB, .byte), (cZ, .boolean), (cT, .object "BasisWalk$Table"), (cN, .object "BasisWalkModel$Num")] t ∧ va_D (va_A (xw cI cJ cB cZ cN ha NA m_rows m_columns m_prime m_small m_pivots m_freeRows m_freeColumns m_smallMinor m_fields m_rowCounts m_elements m_numbers m_known m_ranks m_rankOf m_signOf m_order m_sizes m_coefficients m_choices m_sorted ++ po cI NA ND pn pm pd) sz) (xw cI cJ cB cZ cN ha NA m_rows m_columns m_prime m_small m_pivots m_freeRows m_freeColumns m_smallMinor m_fields m_rowCounts m_elements m_numbers m_known m_ranks m_rankOf m_signOf m_order m_sizes m_coefficients m_choices m_sorted ++ po cI NA ND u.1 u.2.1 u.2.2)) (va_A (xw cI cJ cB cZ cN ha NA m_rows m_columns m_prime m_small m_pivots m_freeRows m_freeColumns m_smallMinor m_fields m_rowCounts m_elements m_numbers m_known m_ranks m_rankOf m_signOf m_order m_sizes m_coefficients m_choices m_sorted ++ po cI NA ND pn pm pd) sz)) 0 0 (va_A (xw cI cJ cB cZ cN ha NA m_rows m_columns m_prime m_small m_pivots m_freeRows m_freeColumns m_smallMinor m_fields m_rowCounts m_elements m_numbers m_known m_ranks m_rankOf m_signOf m_order m_sizes m_coefficients m_choices m_sorted ++ po cI NA ND pn pm pd) sz) := by
  refine Met.ofW (cc := prog_7_method_1_code) (maxL := 3) (ret := (Option.none : Option Jvm.ClassFile.FieldType)) (by decide) rfl ?_
  intro p e s m args below meth c s₁ B hml hv
  obtain ⟨hAR, hsz, hP, hK, hN, hD0⟩ := hv
  have hx := B.exec
  have hb := B.bytes
  have hr := B.returns
  have hts := atoms_spec (ws := w_Mo_divisor) B.pre
  have hown : s.vm.findClass "BasisWalkModel" = some m.cls := findClass_of_methodNamed B.named
  have hlocks := B.notSynchronized
  clear B
  subst hsz
  have hD := hD0.self (sz := s.heap.size)
  generalize hAe : va_A (xw cI cJ cB cZ cN ha NA m_rows m_columns m_prime m_small m_pivots m_freeRows m_freeColumns m_smallMinor m_fields m_rowCounts m_elements m_numbers m_known m_ranks m_rankOf m_signOf m_order m_sizes m_coefficients m_choices m_sorted ++ po cI NA ND pn pm pd) s.heap.size = A at hD ⊢
  have hA : ∀ q : Nat, s.heap.size ≤ q → A q := fun q h => by rw [← hAe]; exact Or.inr h
  clear hAe hD0
  have hS : va_S A s.heap s.heap [] := va_S.rf
  have hl := lv_entry ([.ref (ha 0), .ref (NA a0), .ref (NA b0)]) (n := 3) (Nat.le_of_ble_eq_true rfl)
  subst hAR
  rw [lg_entry_eq]
  generalize (lg_sl ([.ref (ha 0), .ref (NA a0), .ref (NA b0)]) ++ List.replicate (3 - (lg_sl ([.ref (ha 0), .ref (NA a0), .ref (NA b0)])).length) Slot.unset).toArray = ls at hl ⊢
  have hl : lv_has ls 3 [(0, .ref (ha 0)), (1, .ref (NA a0)), (2, .ref (NA b0))] := hl
  change W p l e ({ frames := 3, cells := 0, slots := 0, locals := 80 } : Room) s m _ below meth c s.heap [] 0 0 _ _
  generalize hARe : ([.ref (ha 0), .ref (NA a0), .ref (NA b0)] : List Value).toArray = AR at hts ⊢
  clear hARe
  generalize hQ : MQ below _ AR s 0 0 A = QQ
  have fl0 := hts _ (List.mem_cons_of_mem _ tw_359)
  have iw1 := (fun w hw => List.mem_cons_of_mem _ (in_Mo w hw) : ∀ w ∈ u_ws "BasisWalkModel" T_Mo 31, w ∈ w_Mo_divisor)
  have fl2 := hts _ (List.mem_cons_of_mem _ tw_341)
  have iw3 := (fun w hw => List.mem_cons_of_mem _ (in_Nu w hw) : ∀ w ∈ u_ws "BasisWalkModel$Num" T_Nu 3, w ∈ w_Mo_divisor)
  have fl4 := hts _ (List.mem_cons_of_mem _ tw_358)
  have fl5 := hts _ (List.mem_cons_of_mem _ tw_339)
  have fl6 := hts _ (List.mem_cons_of_mem _ tw_357)
  have fl7 := hts _ (List.mem_cons_of_mem _ tw_356)
  obtain ⟨H, hHe⟩ : ∃ H : Heap, H = s.heap := ⟨_, rfl⟩
  rw [← hHe] at hP ⊢
  replace hS : va_S A s.heap H [] := by rw [hHe]; exact va_S.rf
  clear hHe
  unfold f_R_divisor at h
  obtain ⟨hb_a0, h⟩ := ck_p_s h
  obtain ⟨hb_b0, h⟩ := ck_p_s h
  refine lv_aload_n hx hb d_Mo_divisor_0 rfl (lv_at hl 0 rfl) ?_
  refine va_get (D := (dC, dI)) (ci := 6) (v := .ref (NA 196)) (C := "BasisWalkModel") (T := T_Mo) (N := 31) hx hb hts iw1 hown hK hP 0 rfl rfl 4 (by decide) fl0 (fun _ h9 => h9) rfl d_Mo_divisor_1 ?_
  refine lv_aload_n hx hb d_Mo_divisor_4 rfl (lv_at hl 1 rfl) ?_
  obtain ⟨n_4, h⟩ := ck_p_s h
  obtain ⟨u_1, u_2, u_3, hc_8, h⟩ := ck_b3_s h
  obtain ⟨hPc, hDc⟩ := po_cut (ks := [196, a0]) (ks2 (by decide) hb_a0) (nd2 n_4) hP hD
  have hPc : va_P (dC, dI) cl_all [(NA 196, .inr (5, [.ref (ND 196), .int (pn 196), .int (pm 196)])), (ND 196, .inl (cI, 160, .inl (pd 196))), (NA a0, .inr (5, [.ref (ND a0), .int (pn a0), .int (pm a0)])), (ND a0, .inl (cI, 160, .inl (pd a0)))] H := hPc
  have hDc : va_D A [(NA 196, .inr (5, [.ref (ND 196), .int (pn 196), .int (pm 196)])), (ND 196, .inl (cI, 160, .inl (pd 196))), (NA a0, .inr (5, [.ref (ND a0), .int (pn a0), .int (pm a0)])), (ND a0, .inl (cI, 160, .inl (pd a0)))] := hDc
  have hFc := pw_free hDc hS hA
  refine va_callv (va_runV (As := [.ref (NA a0)]) (rest := []) ⟨hx, hb, hml, hown, hts⟩ (c_N_copy l dC dI cI cJ cB cZ cT cN H.size (NA 196) (NA a0) (ND 196) (ND a0) (pn 196) (pm 196) 160 (pd 196) (pn a0) (pm a0) 160 (pd a0) _ hc_8) (cwV 1 hts (tb_V tw_510 tw_511 tw_512 tw_7 tw_513) rfl rfl rfl (by decide +kernel) ⟨Nat.le_of_ble_eq_true rfl, Nat.le_of_ble_eq_true rfl⟩) ⟨fun a U g mk q => by obtain ⟨q0, q1, qP, qK, qN, qD⟩ := q; exact ⟨q0, q1, qP, va_K.moved (u := U) (U := U.calling g mk a) (Vm.Alike.refl U.vm) qK, qN.same rfl, qD⟩, va_recv hK hPc (ci := 5) (q0 := 0) rfl rfl, fun U hU hW => ⟨rfl, by rw [hU], by rw [hU]; exact hPc, va_K.moved hW.alike hK, hN.warm hW, hDc.weaken (fun _ _ _ _ => trivial)⟩⟩ rfl rfl hl.1 rfl (lv_room (Nat.le_of_ble_eq_true rfl)) d_Mo_divisor_5 ⟨Nat.zero_le _, Nat.zero_le _⟩) hS (fun q _ h => hFc q h) hFc (fun u t H1 locs ht hvm hw hB hz1 hk1 hS => ?_)
  replace hw := hw.symm
  subst hw
  obtain ⟨hP1, -, hD1⟩ := hB
  rw [ht] at hP1
  obtain ⟨pn_5, epn_5⟩ : ∃ y : Nat → Int32, y = (upd pn 196 u_1) := ⟨_, rfl⟩
  replace h := ck_nm_s h epn_5
  obtain ⟨pm_6, epm_6⟩ : ∃ y : Nat → Int32, y = (upd pm 196 u_2) := ⟨_, rfl⟩
  replace h := ck_nm_s h epm_6
  obtain ⟨pd_7, epd_7⟩ : ∃ y : Nat → Nat → Int32, y = (va_up pd 196 u_3) := ⟨_, rfl⟩
  replace h := ck_nm_s h epd_7
  have fq_9 : pn_5 196 = u_1 := by simp [epn_5, upd, va_up, n_4, Ne.symm n_4]
  have fq_10 : pm_6 196 = u_2 := by simp [epm_6, upd, va_up, n_4, Ne.symm n_4]
  have fq_11 : pd_7 196 = u_3 := by simp [epd_7, upd, va_up, n_4, Ne.symm n_4]
  have fq_12 : pn_5 a0 = pn a0 := by simp [epn_5, upd, va_up, n_4, Ne.symm n_4]
  have fq_13 : pm_6 a0 = pm a0 := by simp [epm_6, upd, va_up, n_4, Ne.symm n_4]
  have fq_14 : pd_7 a0 = pd a0 := by simp [epd_7, upd, va_up, n_4, Ne.symm n_4]
  obtain ⟨hP, hD⟩ := po_back (ks := [196, a0]) (pn' := pn_5) (pm' := pm_6) (pd' := pd_7) (ks2 (by decide) hb_a0) hP hD hk1 (by show va_P (dC, dI) cl_all [(NA 196, .inr (5, [.ref (ND 196), .int (pn_5 196), .int (pm_6 196)])), (ND 196, .inl (cI, 160, .inl (pd_7 196))), (NA a0, .inr (5, [.ref (ND a0), .int (pn_5 a0), .int (pm_6 a0)])), (ND a0, .inl (cI, 160, .inl (pd_7 a0)))] H1; rw [fq_9, fq_10, fq_11, fq_12, fq_13, fq_14]; exact hP1) (fun j hj => by simp only [List.mem_cons, List.not_mem_nil, or_false, not_or] at hj; exact ⟨by simp [epn_5, upd, va_up, hj], by simp [epm_6, upd, va_up, hj], by simp [epd_7, upd, va_up, hj]⟩)
  generalize H1 = H at hP hS ⊢
  have hP : va_P (dC, dI) cl_all (xw cI cJ cB cZ cN ha NA m_rows m_columns m_prime m_small m_pivots m_freeRows m_freeColumns m_smallMinor m_fields m_rowCounts m_elements m_numbers m_known m_ranks m_rankOf m_signOf m_order m_sizes m_coefficients m_choices m_sorted ++ po cI NA ND pn_5 pm_6 pd_7) H := hP
  have hD : va_D A (xw cI cJ cB cZ cN ha NA m_rows m_columns m_prime m_small m_pivots m_freeRows m_freeColumns m_smallMinor m_fields m_rowCounts m_elements m_numbers m_known m_ranks m_rankOf m_signOf m_order m_sizes m_coefficients m_choices m_sorted ++ po cI NA ND pn_5 pm_6 pd_7) := hD
  refine lv_aload_n hx hb d_Mo_divisor_8 rfl (lv_at hl 0 rfl) ?_
  refine va_get (D := (dC, dI)) (ci := 6) (v := .ref (NA 196)) (C := "BasisWalkModel") (T := T_Mo) (N := 31) hx hb hts iw1 hown hK hP 0 rfl rfl 4 (by decide) fl0 (fun _ h9 => h9) rfl d_Mo_divisor_9 ?_
  refine lv_iconst (v := 0) hx hb d_Mo_divisor_12 (by decide) ?_
  refine va_put (D := (dC, dI)) (ci := 5) (v := .int 0) (ty := .boolean) (C := "BasisWalkModel$Num") (T := T_Nu) (N := 3) hx hb hts iw3 ty_Nu tyok_Nu nm_Nu hown hK hP hD hS _ (po_obj (by decide)) rfl 2 (by decide) fl2 (fun _ h9 => h9) rfl (by decide +kernel) rfl rfl (Nat.le_of_ble_eq_true rfl) d_Mo_divisor_13 (fun H locs hP hD hS => ?_)
  have hP : va_P (dC, dI) cl_all (((xw cI cJ cB cZ cN ha NA m_rows m_columns m_prime m_small m_pivots m_freeRows m_freeColumns m_smallMinor m_fields m_rowCounts m_elements m_numbers m_known m_ranks m_rankOf m_signOf m_order m_sizes m_coefficients m_choices m_sorted) ++ po cI NA ND pn_5 pm_6 pd_7).set ((xw cI cJ cB cZ cN ha NA m_rows m_columns m_prime m_small m_pivots m_freeRows m_freeColumns m_smallMinor m_fields m_rowCounts m_elements m_numbers m_known m_ranks m_rankOf m_signOf m_order m_sizes m_coefficients m_choices m_sorted).length + 196) (NA 196, .inr (5, [.ref (ND 196), .int (pn_5 196), .int 0]))) H := hP
  have hD : va_D A (((xw cI cJ cB cZ cN ha NA m_rows m_columns m_prime m_small m_pivots m_freeRows m_freeColumns m_smallMinor m_fields m_rowCounts m_elements m_numbers m_known m_ranks m_rankOf m_signOf m_order m_sizes m_coefficients m_choices m_sorted) ++ po cI NA ND pn_5 pm_6 pd_7).set ((xw cI cJ cB cZ cN ha NA m_rows m_columns m_prime m_small m_pivots m_freeRows m_freeColumns m_smallMinor m_fields m_rowCounts m_elements m_numbers m_known m_ranks m_rankOf m_signOf m_order m_sizes m_coefficients m_choices m_sorted).length + 196) (NA 196, .inr (5, [.ref (ND 196), .int (pn_5 196), .int 0]))) := hD
  replace hP := (po_setm (X := (xw cI cJ cB cZ cN ha NA m_rows m_columns m_prime m_small m_pivots m_freeRows m_freeColumns m_smallMinor m_fields m_rowCounts m_elements m_numbers m_known m_ranks m_rankOf m_signOf m_order m_sizes m_coefficients m_choices m_sorted)) (k := 196) (by decide) 0) ▸ hP
  replace hD := (po_setm (X := (xw cI cJ cB cZ cN ha NA m_rows m_columns m_prime m_small m_pivots m_freeRows m_freeColumns m_smallMinor m_fields m_rowCounts m_elements m_numbers m_known m_ranks m_rankOf m_signOf m_order m_sizes m_coefficients m_choices m_sorted)) (k := 196) (by decide) 0) ▸ hD
  obtain ⟨pm_15, epm_15⟩ : ∃ y : Nat → Int32, y = upd pm_6 196 0 := ⟨_, rfl⟩
  replace h := ck_nm_s h epm_15
  rw [← epm_15] at hP hD
  have hP : va_P (dC, dI) cl_all (xw cI cJ cB cZ cN ha NA m_rows m_columns m_prime m_small m_pivots m_freeRows m_freeColumns m_smallMinor m_fields m_rowCounts m_elements m_numbers m_known m_ranks m_rankOf m_signOf m_order m_sizes m_coefficients m_choices m_sorted ++ po cI NA ND pn_5 pm_15 pd_7) H := hP
  have hD : va_D A (xw cI cJ cB cZ cN ha NA m_rows m_columns m_prime m_small m_pivots m_freeRows m_freeColumns m_smallMinor m_fields m_rowCounts m_elements m_numbers m_known m_ranks m_rankOf m_signOf m_order m_sizes m_coefficients m_choices m_sorted ++ po cI NA ND pn_5 pm_15 pd_7) := hD
  refine lv_aload_n hx hb d_Mo_divisor_16 rfl (lv_at hl 0 rfl) ?_
  refine va_get (D := (dC, dI)) (ci := 6) (v := .ref (NA 195)) (C := "BasisWalkModel") (T := T_Mo) (N := 31) hx hb hts iw1 hown hK hP 0 rfl rfl 3 (by decide) fl4 (fun _ h9 => h9) rfl d_Mo_divisor_17 ?_
  refine lv_aload_n hx hb d_Mo_divisor_20 rfl (lv_at hl 2 rfl) ?_
  obtain ⟨n_19, h⟩ := ck_p_s h
  obtain ⟨u_16, u_17, u_18, hc_23, h⟩ := ck_b3_s h
  obtain ⟨hPc, hDc⟩ := po_cut (ks := [195, b0]) (ks2 (by decide) hb_b0) (nd2 n_19) hP hD
  have hPc : va_P (dC, dI) cl_all [(NA 195, .inr (5, [.ref (ND 195), .int (pn_5 195), .int (pm_15 195)])), (ND 195, .inl (cI, 160, .inl (pd_7 195))), (NA b0, .inr (5, [.ref (ND b0), .int (pn_5 b0), .int (pm_15 b0)])), (ND b0, .inl (cI, 160, .inl (pd_7 b0)))] H := hPc
  have hDc : va_D A [(NA 195, .inr (5, [.ref (ND 195), .int (pn_5 195), .int (pm_15 195)])), (ND 195, .inl (cI, 160, .inl (pd_7 195))), (NA b0, .inr (5, [.ref (ND b0), .int (pn_5 b0), .int (pm_15 b0)])), (ND b0, .inl (cI, 160, .inl (pd_7 b0)))] := hDc
  have hFc := pw_free hDc hS hA
  refine va_callv (va_runV (As := [.ref (NA b0)]) (rest := []) ⟨hx, hb, hml, hown, hts⟩ (c_N_copy l dC dI cI cJ cB cZ cT cN H.size (NA 195) (NA b0) (ND 195) (ND b0) (pn_5 195) (pm_15 195) 160 (pd_7 195) (pn_5 b0) (pm_15 b0) 160 (pd_7 b0) _ hc_23) (cwV 1 hts (tb_V tw_510 tw_511 tw_512 tw_7 tw_513) rfl rfl rfl (by decide +kernel) ⟨Nat.le_of_ble_eq_true rfl, Nat.le_of_ble_eq_true rfl⟩) ⟨fun a U g mk q => by obtain ⟨q0, q1, qP, qK, qN, qD⟩ := q; exact ⟨q0, q1, qP, va_K.moved (u := U) (U := U.calling g mk a) (Vm.Alike.refl U.vm) qK, qN.same rfl, qD⟩, va_recv hK hPc (ci := 5) (q0 := 0) rfl rfl, fun U hU hW => ⟨rfl, by rw [hU], by rw [hU]; exact hPc, va_K.moved hW.alike hK, hN.warm hW, hDc.weaken (fun _ _ _ _ => trivial)⟩⟩ rfl rfl hl.1 rfl (lv_room (Nat.le_of_ble_eq_true rfl)) d_Mo_divisor_21 ⟨Nat.zero_le _, Nat.zero_le _⟩) hS (fun q _ h => hFc q h) hFc (fun u t H1 locs ht hvm hw hB hz1 hk1 hS => ?_)
  replace hw := hw.symm
  subst hw
  obtain ⟨hP1, -, hD1⟩ := hB
  rw [ht] at hP1
  obtain ⟨pn_20, epn_20⟩ : ∃ y : Nat → Int32, y = (upd pn_5 195 u_16) := ⟨_, rfl⟩
  replace h := ck_nm_s h epn_20
  obtain ⟨pm_21, epm_21⟩ : ∃ y : Nat → Int32, y = (upd pm_15 195 u_17) := ⟨_, rfl⟩
  replace h := ck_nm_s h epm_21
  obtain ⟨pd_22, epd_22⟩ : ∃ y : Nat → Nat → Int32, y = (va_up pd_7 195 u_18) := ⟨_, rfl⟩
  replace h := ck_nm_s h epd_22
  have fq_24 : pn_20 195 = u_16 := by simp [epn_20, upd, va_up, n_19, Ne.symm n_19]
  have fq_25 : pm_21 195 = u_17 := by simp [epm_21, upd, va_up, n_19, Ne.symm n_19]
  have fq_26 : pd_22 195 = u_18 := by simp [epd_22, upd, va_up, n_19, Ne.symm n_19]
  have fq_27 : pn_20 b0 = pn_5 b0 := by simp [epn_20, upd, va_up, n_19, Ne.symm n_19]
  have fq_28 : pm_21 b0 = pm_15 b0 := by simp [epm_21, upd, va_up, n_19, Ne.symm n_19]
  have fq_29 : pd_22 b0 = pd_7 b0 := by simp [epd_22, upd, va_up, n_19, Ne.symm n_19]
  obtain ⟨hP, hD⟩ := po_back (ks := [195, b0]) (pn' := pn_20) (pm' := pm_21) (pd' := pd_22) (ks2 (by decide) hb_b0) hP hD hk1 (by show va_P (dC, dI) cl_all [(NA 195, .inr (5, [.ref (ND 195), .int (pn_20 195), .int (pm_21 195)])), (ND 195, .inl (cI, 160, .inl (pd_22 195))), (NA b0, .inr (5, [.ref (ND b0), .int (pn_20 b0), .int (pm_21 b0)])), (ND b0, .inl (cI, 160, .inl (pd_22 b0)))] H1; rw [fq_24, fq_25, fq_26, fq_27, fq_28, fq_29]; exact hP1) (fun j hj => by simp only [List.mem_cons, List.not_mem_nil, or_false, not_or] at hj; exact ⟨by simp [epn_20, upd, va_up, hj], by simp [epm_21, upd, va_up, hj], by simp [epd_22, upd, va_up, hj]⟩)
  generalize H1 = H at hP hS ⊢
  have hP : va_P (dC, dI) cl_all (xw cI cJ cB cZ cN ha NA m_rows m_columns m_prime m_small m_pivots m_freeRows m_freeColumns m_smallMinor m_fields m_rowCounts m_elements m_numbers m_known m_ranks m_rankOf m_signOf m_order m_sizes m_coefficients m_choices m_sorted ++ po cI NA ND pn_20 pm_21 pd_22) H := hP
  have hD : va_D A (xw cI cJ cB cZ cN ha NA m_rows m_columns m_prime m_small m_pivots m_freeRows m_freeColumns m_smallMinor m_fields m_rowCounts m_elements m_numbers m_known m_ranks m_rankOf m_signOf m_order m_sizes m_coefficients m_choices m_sorted ++ po cI NA ND pn_20 pm_21 pd_22) := hD
  refine lv_aload_n hx hb d_Mo_divisor_24 rfl (lv_at hl 0 rfl) ?_
  refine va_get (D := (dC, dI)) (ci := 6) (v := .ref (NA 195)) (C := "BasisWalkModel") (T := T_Mo) (N := 31) hx hb hts iw1 hown hK hP 0 rfl rfl 3 (by decide) fl4 (fun _ h9 => h9) rfl d_Mo_divisor_25 ?_
  refine lv_iconst (v := 0) hx hb d_Mo_divisor_28 (by decide) ?_
  refine va_put (D := (dC, dI)) (ci := 5) (v := .int 0) (ty := .boolean) (C := "BasisWalkModel$Num") (T := T_Nu) (N := 3) hx hb hts iw3 ty_Nu tyok_Nu nm_Nu hown hK hP hD hS _ (po_obj (by decide)) rfl 2 (by decide) fl2 (fun _ h9 => h9) rfl (by decide +kernel) rfl rfl (Nat.le_of_ble_eq_true rfl) d_Mo_divisor_29 (fun H locs hP hD hS => ?_)
  have hP : va_P (dC, dI) cl_all (((xw cI cJ cB cZ cN ha NA m_rows m_columns m_prime m_small m_pivots m_freeRows m_freeColumns m_smallMinor m_fields m_rowCounts m_elements m_numbers m_known m_ranks m_rankOf m_signOf m_order m_sizes m_coefficients m_choices m_sorted) ++ po cI NA ND pn_20 pm_21 pd_22).set ((xw cI cJ cB cZ cN ha NA m_rows m_columns m_prime m_small m_pivots m_freeRows m_freeColumns m_smallMinor m_fields m_rowCounts m_elements m_numbers m_known m_ranks m_rankOf m_signOf m_order m_sizes m_coefficients m_choices m_sorted).length + 195) (NA 195, .inr (5, [.ref (ND 195), .int (pn_20 195), .int 0]))) H := hP
  have hD : va_D A (((xw cI cJ cB cZ cN ha NA m_rows m_columns m_prime m_small m_pivots m_freeRows m_freeColumns m_smallMinor m_fields m_rowCounts m_elements m_numbers m_known m_ranks m_rankOf m_signOf m_order m_sizes m_coefficients m_choices m_sorted) ++ po cI NA ND pn_20 pm_21 pd_22).set ((xw cI cJ cB cZ cN ha NA m_rows m_columns m_prime m_small m_pivots m_freeRows m_freeColumns m_smallMinor m_fields m_rowCounts m_elements m_numbers m_known m_ranks m_rankOf m_signOf m_order m_sizes m_coefficients m_choices m_sorted).length + 195) (NA 195, .inr (5, [.ref (ND 195), .int (pn_20 195), .int 0]))) := hD
  replace hP := (po_setm (X := (xw cI cJ cB cZ cN ha NA m_rows m_columns m_prime m_small m_pivots m_freeRows m_freeColumns m_smallMinor m_fields m_rowCounts m_elements m_numbers m_known m_ranks m_rankOf m_signOf m_order m_sizes m_coefficients m_choices m_sorted)) (k := 195) (by decide) 0) ▸ hP
  replace hD := (po_setm (X := (xw cI cJ cB cZ cN ha NA m_rows m_columns m_prime m_small m_pivots m_freeRows m_freeColumns m_smallMinor m_fields m_rowCounts m_elements m_numbers m_known m_ranks m_rankOf m_signOf m_order m_sizes m_coefficients m_choices m_sorted)) (k := 195) (by decide) 0) ▸ hD
  obtain ⟨pm_30, epm_30⟩ : ∃ y : Nat → Int32, y = upd pm_21 195 0 := ⟨_, rfl⟩
  replace h := ck_nm_s h epm_30
  rw [← epm_30] at hP hD
  have hP : va_P (dC, dI) cl_all (xw cI cJ cB cZ cN ha NA m_rows m_columns m_prime m_small m_pivots m_freeRows m_freeColumns m_smallMinor m_fields m_rowCounts m_elements m_numbers m_known m_ranks m_rankOf m_signOf m_order m_sizes m_coefficients m_choices m_sorted ++ po cI NA ND pn_20 pm_30 pd_22) H := hP
  have hD : va_D A (xw cI cJ cB cZ cN ha NA m_rows m_columns m_prime m_small m_pivots m_freeRows m_freeColumns m_smallMinor m_fields m_rowCounts m_elements m_numbers m_known m_ranks m_rankOf m_signOf m_order m_sizes m_coefficients m_choices m_sorted ++ po cI NA ND pn_20 pm_30 pd_22) := hD
  refine lo3_W (r := r) (fun (pn_31 : Nat → Int32) (pm_32 : Nat → Int32) (pd_33 : Nat → Nat → Int32) => ∀ (H : Heap) (locs : List Loc), va_P (dC, dI) cl_all (xw cI cJ cB cZ cN ha NA m_rows m_columns m_prime m_small m_pivots m_freeRows m_freeColumns m_smallMinor m_fields m_rowCounts m_elements m_numbers m_known m_ranks m_rankOf m_signOf m_order m_sizes m_coefficients m_choices m_sorted ++ po cI NA ND pn_31 pm_32 pd_33) H → va_D A (xw cI cJ cB cZ cN ha NA m_rows m_columns m_prime m_small m_pivots m_freeRows m_freeColumns m_smallMinor m_fields m_rowCounts m_elements m_numbers m_known m_ranks m_rankOf m_signOf m_order m_sizes m_coefficients m_choices m_sorted ++ po cI NA ND pn_31 pm_32 pd_33) → va_S A s.heap H locs → ∀ ls : Array Slot, lv_has ls 3 [(0, .ref (ha 0))] → W p l e ({ frames := 3, cells := 0, slots := 0, locals := 80 } : Room) s m AR below meth c H locs 0 0 QQ (F0 m 32 ls [])) ?_ _ _ _ _ h _ _ hP hD hS _ (lv_sub hl [0] rfl)
  intro k_32 pn_31 pm_32 pd_33 J_32 h H locs hP hD hS ls hl
  refine lv_aload_n hx hb d_Mo_divisor_32 rfl (lv_at hl 0 rfl) ?_
  refine va_get (D := (dC, dI)) (ci := 6) (v := .ref (NA 195)) (C := "BasisWalkModel") (T := T_Mo) (N := 31) hx hb hts iw1 hown hK hP 0 rfl rfl 3 (by decide) fl4 (fun _ h9 => h9) rfl d_Mo_divisor_33 ?_
  refine va_get (D := (dC, dI)) (ci := 5) (v := .int (pn_31 195)) (C := "BasisWalkModel$Num") (T := T_Nu) (N := 3) hx hb hts iw3 hown hK hP _ (po_obj (by decide)) rfl 1 (by decide) fl5 (fun _ h9 => h9) rfl d_Mo_divisor_36 ?_
  refine lv_if_le (tgt := 86) hx hb d_Mo_divisor_39 (by decide) (fun c_34 => ?_) (fun c_34 => ?_)
  · replace h := ck_if_t h c_34
    obtain rfl := Option.some.inj h
    subst hQ
    exact W.vret hx hb hr (fun t ht hW => ⟨⟨(pn_31, pm_32, pd_33), rfl, rfl, by rw [ht]; exact hP, va_K.moved hW.alike hK, hD⟩, hS.F ht⟩) hS.2.2 d_Mo_divisor_86
  · replace h := ck_if_f h c_34
    refine lv_aload_n hx hb d_Mo_divisor_42 rfl (lv_at hl 0 rfl) ?_
    refine va_get (D := (dC, dI)) (ci := 6) (v := .ref (NA 194)) (C := "BasisWalkModel") (T := T_Mo) (N := 31) hx hb hts iw1 hown hK hP 0 rfl rfl 2 (by decide) fl6 (fun _ h9 => h9) rfl d_Mo_divisor_43 ?_
    refine lv_aload_n hx hb d_Mo_divisor_46 rfl (lv_at hl 0 rfl) ?_
    refine va_get (D := (dC, dI)) (ci := 6) (v := .ref (NA 196)) (C := "BasisWalkModel") (T := T_Mo) (N := 31) hx hb hts iw1 hown hK hP 0 rfl rfl 4 (by decide) fl0 (fun _ h9 => h9) rfl d_Mo_divisor_47 ?_
    refine lv_aload_n hx hb d_Mo_divisor_50 rfl (lv_at hl 0 rfl) ?_
    refine va_get (D := (dC, dI)) (ci := 6) (v := .ref (NA 195)) (C := "BasisWalkModel") (T := T_Mo) (N := 31) hx hb hts iw1 hown hK hP 0 rfl rfl 3 (by decide) fl4 (fun _ h9 => h9) rfl d_Mo_divisor_51 ?_
    refine lv_aload_n hx hb d_Mo_divisor_54 rfl (lv_at hl 0 rfl) ?_
    refine va_get (D := (dC, dI)) (ci := 6) (v := .ref (NA 193)) (C := "BasisWalkModel") (T := T_Mo) (N := 31) hx hb hts iw1 hown hK hP 0 rfl rfl 1 (by decide) fl7 (fun _ h9 => h9) rfl d_Mo_divisor_55 ?_
    obtain ⟨n_41, h⟩ := ck_p_s h
    obtain ⟨u_35, u_36, u_37, u_38, u_39, u_40, hc_45, h⟩ := ck_b6_s h
    obtain ⟨hPc, hDc⟩ := po_cut (ks := [194, 196, 195, 193]) (ks4 (by decide) (by decide) (by decide) (by decide)) (nd4 n_41) hP hD
    have hPc : va_P (dC, dI) cl_all [(NA 194, .inr (5, [.ref (ND 194), .int (pn_31 194), .int (pm_32 194)])), (ND 194, .inl (cI, 160, .inl (pd_33 194))), (NA 196, .inr (5, [.ref (ND 196), .int (pn_31 196), .int (pm_32 196)])), (ND 196, .inl (cI, 160, .inl (pd_33 196))), (NA 195, .inr (5, [.ref (ND 195), .int (pn_31 195), .int (pm_32 195)])), (ND 195, .inl (cI, 160, .inl (pd_33 195))), (NA 193, .inr (5, [.ref (ND 193), .int (pn_31 193), .int (pm_32 193)])), (ND 193, .inl (cI, 160, .inl (pd_33 193)))] H := hPc
    have hDc : va_D A [(NA 194, .inr (5, [.ref (ND 194), .int (pn_31 194), .int (pm_32 194)])), (ND 194, .inl (cI, 160, .inl (pd_33 194))), (NA 196, .inr (5, [.ref (ND 196), .int (pn_31 196), .int (pm_32 196)])), (ND 196, .inl (cI, 160, .inl (pd_33 196))), (NA 195, .inr (5, [.ref (ND 195), .int (pn_31 195), .int (pm_32 195)])), (ND 195, .inl (cI, 160, .inl (pd_33 195))), (NA 193, .inr (5, [.ref (ND 193), .int (pn_31 193), .int (pm_32 193)])), (ND 193, .inl (cI, 160, .inl (pd_33 193)))] := hDc
    have hFc := pw_free hDc hS hA
    refine va_callv (va_runV (As := [.ref (NA 196), .ref (NA 195), .ref (NA 193)]) (rest := []) ⟨hx, hb, hml, hown, hts⟩ (c_N_quotient l dC dI cI cJ cB cZ cT cN H.size (NA 194) (NA 196) (NA 195) (NA 193) (ND 194) (ND 196) (ND 195) (ND 193) (pn_31 194) (pm_32 194) 160 (pd_33 194) (pn_31 196) (pm_32 196) 160 (pd_33 196) (pn_31 195) (pm_32 195) 160 (pd_33 195) (pn_31 193) (pm_32 193) 160 (pd_33 193) _ hc_45) (cwV 3 hts (tb_V tw_548 tw_549 tw_550 tw_7 tw_551) rfl rfl rfl (by decide +kernel) ⟨Nat.le_of_ble_eq_true rfl, Nat.le_of_ble_eq_true rfl⟩) ⟨fun a U g mk q => by obtain ⟨q0, q1, qP, qK, qN, qD⟩ := q; exact ⟨q0, q1, qP, va_K.moved (u := U) (U := U.calling g mk a) (Vm.Alike.refl U.vm) qK, qN.same rfl, qD⟩, va_recv hK hPc (ci := 5) (q0 := 0) rfl rfl, fun U hU hW => ⟨rfl, by rw [hU], by rw [hU]; exact hPc, va_K.moved hW.alike hK, hN.warm hW, hDc.weaken (fun _ _ _ _ => trivial)⟩⟩ rfl rfl hl.1 rfl (lv_room (Nat.le_of_ble_eq_true rfl)) d_Mo_divisor_58 ⟨Nat.zero_le _, Nat.zero_le _⟩) hS (fun q _ h => hFc q h) hFc (fun u t H1 locs ht hvm hw hB hz1 hk1 hS => ?_)
    replace hw := hw.symm
    subst hw
    obtain ⟨hP1, -, hD1⟩ := hB
    rw [ht] at hP1
    obtain ⟨pn_42, epn_42⟩ : ∃ y : Nat → Int32, y = (upd (upd pn_31 194 u_35) 193 u_38) := ⟨_, rfl⟩
    replace h := ck_nm_s h epn_42
    obtain ⟨pm_43, epm_43⟩ : ∃ y : Nat → Int32, y = (upd (upd pm_32 194 u_36) 193 u_39) := ⟨_, rfl⟩
    replace h := ck_nm_s h epm_43
    obtain ⟨pd_44, epd_44⟩ : ∃ y : Nat → Nat → Int32, y = (va_up (va_up pd_33 194 u_37) 193 u_40) := ⟨_, rfl⟩
    replace h := ck_nm_s h epd_44
    have fq_46 : pn_42 194 = u_35 := by simp [epn_42, upd, va_up, n_41.1, Ne.symm n_41.1, n_41.2.1, Ne.symm n_41.2.1, n_41.2.2.1, Ne.symm n_41.2.2.1, n_41.2.2.2.1, Ne.symm n_41.2.2.2.1, n_41.2.2.2.2.1, Ne.symm n_41.2.2.2.2.1, n_41.2.2.2.2.2, Ne.symm n_41.2.2.2.2.2]
    have fq_47 : pm_43 194 = u_36 := by simp [epm_43, upd, va_up, n_41.1, Ne.symm n_41.1, n_41.2.1, Ne.symm n_41.2.1, n_41.2.2.1, Ne.symm n_41.2.2.1, n_41.2.2.2.1, Ne.symm n_41.2.2.2.1, n_41.2.2.2.2.1, Ne.symm n_41.2.2.2.2.1, n_41.2.2.2.2.2, Ne.symm n_41.2.2.2.2.2]
    have fq_48 : pd_44 194 = u_37 := by simp [epd_44, upd, va_up, n_41.1, Ne.symm n_41.1, n_41.2.1, Ne.symm n_41.2.1, n_41.2.2.1, Ne.symm n_41.2.2.1, n_41.2.2.2.1, Ne.symm n_41.2.2.2.1, n_41.2.2.2.2.1, Ne.symm n_41.2.2.2.2.1, n_41.2.2.2.2.2, Ne.symm n_41.2.2.2.2.2]
    have fq_49 : pn_42 196 = pn_31 196 := by simp [epn_42, upd, va_up, n_41.1, Ne.symm n_41.1, n_41.2.1, Ne.symm n_41.2.1, n_41.2.2.1, Ne.symm n_41.2.2.1, n_41.2.2.2.1, Ne.symm n_41.2.2.2.1, n_41.2.2.2.2.1, Ne.symm n_41.2.2.2.2.1, n_41.2.2.2.2.2, Ne.symm n_41.2.2.2.2.2]
    have fq_50 : pm_43 196 = pm_32 196 := by simp [epm_43, upd, va_up, n_41.1, Ne.symm n_41.1, n_41.2.1, Ne.symm n_41.2.1, n_41.2.2.1, Ne.symm n_41.2.2.1, n_41.2.2.2.1, Ne.symm n_41.2.2.2.1, n_41.2.2.2.2.1, Ne.symm n_41.2.2.2.2.1, n_41.2.2.2.2.2, Ne.symm n_41.2.2.2.2.2]
    have fq_51 : pd_44 196 = pd_33 196 := by simp [epd_44, upd, va_up, n_41.1, Ne.symm n_41.1, n_41.2.1, Ne.symm n_41.2.1, n_41.2.2.1, Ne.symm n_41.2.2.1, n_41.2.2.2.1, Ne.symm n_41.2.2.2.1, n_41.2.2.2.2.1, Ne.symm n_41.2.2.2.2.1, n_41.2.2.2.2.2, Ne.symm n_41.2.2.2.2.2]
    have fq_52 : pn_42 195 = pn_31 195 := by simp [epn_42, upd, va_up, n_41.1, Ne.symm n_41.1, n_41.2.1, Ne.symm n_41.2.1, n_41.2.2.1, Ne.symm n_41.2.2.1, n_41.2.2.2.1, Ne.symm n_41.2.2.2.1, n_41.2.2.2.2.1, Ne.symm n_41.2.2.2.2.1, n_41.2.2.2.2.2, Ne.symm n_41.2.2.2.2.2]
    have fq_53 : pm_43 195 = pm_32 195 := by simp [epm_43, upd, va_up, n_41.1, Ne.symm n_41.1, n_41.2.1, Ne.symm n_41.2.1, n_41.2.2.1, Ne.symm n_41.2.2.1, n_41.2.2.2.1, Ne.symm n_41.2.2.2.1, n_41.2.2.2.2.1, Ne.symm n_41.2.2.2.2.1, n_41.2.2.2.2.2, Ne.symm n_41.2.2.2.2.2]
    have fq_54 : pd_44 195 = pd_33 195 := by simp [epd_44, upd, va_up, n_41.1, Ne.symm n_41.1, n_41.2.1, Ne.symm n_41.2.1, n_41.2.2.1, Ne.symm n_41.2.2.1, n_41.2.2.2.1, Ne.symm n_41.2.2.2.1, n_41.2.2.2.2.1, Ne.symm n_41.2.2.2.2.1, n_41.2.2.2.2.2, Ne.symm n_41.2.2.2.2.2]
    have fq_55 : pn_42 193 = u_38 := by simp [epn_42, upd, va_up, n_41.1, Ne.symm n_41.1, n_41.2.1, Ne.symm n_41.2.1, n_41.2.2.1, Ne.symm n_41.2.2.1, n_41.2.2.2.1, Ne.symm n_41.2.2.2.1, n_41.2.2.2.2.1, Ne.symm n_41.2.2.2.2.1, n_41.2.2.2.2.2, Ne.symm n_41.2.2.2.2.2]
    have fq_56 : pm_43 193 = u_39 := by simp [epm_43, upd, va_up, n_41.1, Ne.symm n_41.1, n_41.2.1, Ne.symm n_41.2.1, n_41.2.2.1, Ne.symm n_41.2.2.1, n_41.2.2.2.1, Ne.symm n_41.2.2.2.1, n_41.2.2.2.2.1, Ne.symm n_41.2.2.2.2.1, n_41.2.2.2.2.2, Ne.symm n_41.2.2.2.2.2]
    have fq_57 : pd_44 193 = u_40 := by simp [epd_44, upd, va_up, n_41.1, Ne.symm n_41.1, n_41.2.1, Ne.symm n_41.2.1, n_41.2.2.1, Ne.symm n_41.2.2.1, n_41.2.2.2.1, Ne.symm n_41.2.2.2.1, n_41.2.2.2.2.1, Ne.symm n_41.2.2.2.2.1, n_41.2.2.2.2.2, Ne.symm n_41.2.2.2.2.2]
    obtain ⟨hP, hD⟩ := po_back (ks := [194, 196, 195, 193]) (pn' := pn_42) (pm' := pm_43) (pd' := pd_44) (ks4 (by decide) (by decide) (by decide) (by decide)) hP hD hk1 (by show va_P (dC, dI) cl_all [(NA 194, .inr (5, [.ref (ND 194), .int (pn_42 194), .int (pm_43 194)])), (ND 194, .inl (cI, 160, .inl (pd_44 194))), (NA 196, .inr (5, [.ref (ND 196), .int (pn_42 196), .int (pm_43 196)])), (ND 196, .inl (cI, 160, .inl (pd_44 196))), (NA 195, .inr (5, [.ref (ND 195), .int (pn_42 195), .int (pm_43 195)])), (ND 195, .inl (cI, 160, .inl (pd_44 195))), (NA 193, .inr (5, [.ref (ND 193), .int (pn_42 193), .int (pm_43 193)])), (ND 193, .inl (cI, 160, .inl (pd_44 193)))] H1; rw [fq_46, fq_47, fq_48, fq_49, fq_50, fq_51, fq_52, fq_53, fq_54, fq_55, fq_56, fq_57]; exact hP1) (fun j hj => by simp only [List.mem_cons, List.not_mem_nil, or_false, not_or] at hj; exact ⟨by simp [epn_42, upd, va_up, hj], by simp [epm_43, upd, va_up, hj], by simp [epd_44, upd, va_up, hj]⟩)
    generalize H1 = H at hP hS ⊢
    have hP : va_P (dC, dI) cl_all (xw cI cJ cB cZ cN ha NA m_rows m_columns m_prime m_small m_pivots m_freeRows m_freeColumns m_smallMinor m_fields m_rowCounts m_elements m_numbers m_known m_ranks m_rankOf m_signOf m_order m_sizes m_coefficients m_choices m_sorted ++ po cI NA ND pn_42 pm_43 pd_44) H := hP
    have hD : va_D A (xw cI cJ cB cZ cN ha NA m_rows m_columns m_prime m_small m_pivots m_freeRows m_freeColumns m_smallMinor m_fields m_rowCounts m_elements m_numbers m_known m_ranks m_rankOf m_signOf m_order m_sizes m_coefficients m_choices m_sorted ++ po cI NA ND pn_42 pm_43 pd_44) := hD
    refine lv_aload_n hx hb d_Mo_divisor_61 rfl (lv_at hl 0 rfl) ?_
    refine va_get (D := (dC, dI)) (ci := 6) (v := .ref (NA 196)) (C := "BasisWalkModel") (T := T_Mo) (N := 31) hx hb hts iw1 hown hK hP 0 rfl rfl 4 (by decide) fl0 (fun _ h9 => h9) rfl d_Mo_divisor_62 ?_
    refine lv_aload_n hx hb d_Mo_divisor_65 rfl (lv_at hl 0 rfl) ?_
    refine va_get (D := (dC, dI)) (ci := 6) (v := .ref (NA 195)) (C := "BasisWalkModel") (T := T_Mo) (N := 31) hx hb hts iw1 hown hK hP 0 rfl rfl 3 (by decide) fl4 (fun _ h9 => h9) rfl d_Mo_divisor_66 ?_
    obtain ⟨n_61, h⟩ := ck_p_s h
    obtain ⟨u_58, u_59, u_60, hc_65, h⟩ := ck_b3_s h
    obtain ⟨hPc, hDc⟩ := po_cut (ks := [196, 195]) (ks2 (by decide) (by decide)) (nd2 n_61) hP hD
    have hPc : va_P (dC, dI) cl_all [(NA 196, .inr (5, [.ref (ND 196), .int (pn_42 196), .int (pm_43 196)])), (ND 196, .inl (cI, 160, .inl (pd_44 196))), (NA 195, .inr (5, [.ref (ND 195), .int (pn_42 195), .int (pm_43 195)])), (ND 195, .inl (cI, 160, .inl (pd_44 195)))] H := hPc
    have hDc : va_D A [(NA 196, .inr (5, [.ref (ND 196), .int (pn_42 196), .int (pm_43 196)])), (ND 196, .inl (cI, 160, .inl (pd_44 196))), (NA 195, .inr (5, [.ref (ND 195), .int (pn_42 195), .int (pm_43 195)])), (ND 195, .inl (cI, 160, .inl (pd_44 195)))] := hDc
    have hFc := pw_free hDc hS hA
    refine va_callv (va_runV (As := [.ref (NA 195)]) (rest := []) ⟨hx, hb, hml, hown, hts⟩ (c_N_copy l dC dI cI cJ cB cZ cT cN H.size (NA 196) (NA 195) (ND 196) (ND 195) (pn_42 196) (pm_43 196) 160 (pd_44 196) (pn_42 195) (pm_43 195) 160 (pd_44 195) _ hc_65) (cwV 1 hts (tb_V tw_510 tw_511 tw_512 tw_7 tw_513) rfl rfl rfl (by decide +kernel) ⟨Nat.le_of_ble_eq_true rfl, Nat.le_of_ble_eq_true rfl⟩) ⟨fun a U g mk q => by obtain ⟨q0, q1, qP, qK, qN, qD⟩ := q; exact ⟨q0, q1, qP, va_K.moved (u := U) (U := U.calling g mk a) (Vm.Alike.refl U.vm) qK, qN.same rfl, qD⟩, va_recv hK hPc (ci := 5) (q0 := 0) rfl rfl, fun U hU hW => ⟨rfl, by rw [hU], by rw [hU]; exact hPc, va_K.moved hW.alike hK, hN.warm hW, hDc.weaken (fun _ _ _ _ => trivial)⟩⟩ rfl rfl hl.1 rfl (lv_room (Nat.le_of_ble_eq_true rfl)) d_Mo_divisor_69 ⟨Nat.zero_le _, Nat.zero_le _⟩) hS (fun q _ h => hFc q h) hFc (fun u t H1 locs ht hvm hw hB hz1 hk1 hS => ?_)
    replace hw := hw.symm
    subst hw
    obtain ⟨hP1, -, hD1⟩ := hB
    rw [ht] at hP1
    obtain ⟨pn_62, epn_62⟩ : ∃ y : Nat → Int32, y = (upd pn_42 196 u_58) := ⟨_, rfl⟩
    replace h := ck_nm_s h epn_62
    obtain ⟨pm_63, epm_63⟩ : ∃ y : Nat → Int32, y = (upd pm_43 196 u_59) := ⟨_, rfl⟩
    replace h := ck_nm_s h epm_63
    obtain ⟨pd_64, epd_64⟩ : ∃ y : Nat → Nat → Int32, y = (va_up pd_44 196 u_60) := ⟨_, rfl⟩
    replace h := ck_nm_s h epd_64
    have fq_66 : pn_62 196 = u_58 := by simp [epn_62, upd, va_up, n_61, Ne.symm n_61]
    have fq_67 : pm_63 196 = u_59 := by simp [epm_63, upd, va_up, n_61, Ne.symm n_61]
    have fq_68 : pd_64 196 = u_60 := by simp [epd_64, upd, va_up, n_61, Ne.symm n_61]
    have fq_69 : pn_62 195 = pn_42 195 := by simp [epn_62, upd, va_up, n_61, Ne.symm n_61]
    have fq_70 : pm_63 195 = pm_43 195 := by simp [epm_63, upd, va_up, n_61, Ne.symm n_61]
    have fq_71 : pd_64 195 = pd_44 195 := by simp [epd_64, upd, va_up, n_61, Ne.symm n_61]
    obtain ⟨hP, hD⟩ := po_back (ks := [196, 195]) (pn' := pn_62) (pm' := pm_63) (pd' := pd_64) (ks2 (by decide) (by decide)) hP hD hk1 (by show va_P (dC, dI) cl_all [(NA 196, .inr (5, [.ref (ND 196), .int (pn_62 196), .int (pm_63 196)])), (ND 196, .inl (cI, 160, .inl (pd_64 196))), (NA 195, .inr (5, [.ref (ND 195), .int (pn_62 195), .int (pm_63 195)])), (ND 195, .inl (cI, 160, .inl (pd_64 195)))] H1; rw [fq_66, fq_67, fq_68, fq_69, fq_70, fq_71]; exact hP1) (fun j hj => by simp only [List.mem_cons, List.not_mem_nil, or_false, not_or] at hj; exact ⟨by simp [epn_62, upd, va_up, hj], by simp [epm_63, upd, va_up, hj], by simp [epd_64, upd, va_up, hj]⟩)
    generalize H1 = H at hP hS ⊢
    have hP : va_P (dC, dI) cl_all (xw cI cJ cB cZ cN ha NA m_rows m_columns m_prime m_small m_pivots m_freeRows m_freeColumns m_smallMinor m_fields m_rowCounts m_elements m_numbers m_known m_ranks m_rankOf m_signOf m_order m_sizes m_coefficients m_choices m_sorted ++ po cI NA ND pn_62 pm_63 pd_64) H := hP
    have hD : va_D A (xw cI cJ cB cZ cN ha NA m_rows m_columns m_prime m_small m_pivots m_freeRows m_freeColumns m_smallMinor m_fields m_rowCounts m_elements m_numbers m_known m_ranks m_rankOf m_signOf m_order m_sizes m_coefficients m_choices m_sorted ++ po cI NA ND pn_62 pm_63 pd_64) := hD
    refine lv_aload_n hx hb d_Mo_divisor_72 rfl (lv_at hl 0 rfl) ?_
    refine va_get (D := (dC, dI)) (ci := 6) (v := .ref (NA 195)) (C := "BasisWalkModel") (T := T_Mo) (N := 31) hx hb hts iw1 hown hK hP 0 rfl rfl 3 (by decide) fl4 (fun _ h9 => h9) rfl d_Mo_divisor_73 ?_
    refine lv_aload_n hx hb d_Mo_divisor_76 rfl (lv_at hl 0 rfl) ?_
    refine va_get (D := (dC, dI)) (ci := 6) (v := .ref (NA 193)) (C := "BasisWalkModel") (T := T_Mo) (N := 31) hx hb hts iw1 hown hK hP 0 rfl rfl 1 (by decide) fl7 (fun _ h9 => h9) rfl d_Mo_divisor_77 ?_
    obtain ⟨n_75, h⟩ := ck_p_s h
    obtain ⟨u_72, u_73, u_74, hc_79, h⟩ := ck_b3_s h
    obtain ⟨hPc, hDc⟩ := po_cut (ks := [195, 193]) (ks2 (by decide) (by decide)) (nd2 n_75) hP hD
    have hPc : va_P (dC, dI) cl_all [(NA 195, .inr (5, [.ref (ND 195), .int (pn_62 195), .int (pm_63 195)])), (ND 195, .inl (cI, 160, .inl (pd_64 195))), (NA 193, .inr (5, [.ref (ND 193), .int (pn_62 193), .int (pm_63 193)])), (ND 193, .inl (cI, 160, .inl (pd_64 193)))] H := hPc
    have hDc : va_D A [(NA 195, .inr (5, [.ref (ND 195), .int (pn_62 195), .int (pm_63 195)])), (ND 195, .inl (cI, 160, .inl (pd_64 195))), (NA 193, .inr (5, [.ref (ND 193), .int (pn_62 193), .int (pm_63 193)])), (ND 193, .inl (cI, 160, .inl (pd_64 193)))] := hDc
    have hFc := pw_free hDc hS hA
    refine va_callv (va_runV (As := [.ref (NA 193)]) (rest := []) ⟨hx, hb, hml, hown, hts⟩ (c_N_copy l dC dI cI cJ cB cZ cT cN H.size (NA 195) (NA 193) (ND 195) (ND 193) (pn_62 195) (pm_63 195) 160 (pd_64 195) (pn_62 193) (pm_63 193) 160 (pd_64 193) _ hc_79) (cwV 1 hts (tb_V tw_510 tw_511 tw_512 tw_7 tw_513) rfl rfl rfl (by decide +kernel) ⟨Nat.le_of_ble_eq_true rfl, Nat.le_of_ble_eq_true rfl⟩) ⟨fun a U g mk q => by obtain ⟨q0, q1, qP, qK, qN, qD⟩ := q; exact ⟨q0, q1, qP, va_K.moved (u := U) (U := U.calling g mk a) (Vm.Alike.refl U.vm) qK, qN.same rfl, qD⟩, va_recv hK hPc (ci := 5) (q0 := 0) rfl rfl, fun U hU hW => ⟨rfl, by rw [hU], by rw [hU]; exact hPc, va_K.moved hW.alike hK, hN.warm hW, hDc.weaken (fun _ _ _ _ => trivial)⟩⟩ rfl rfl hl.1 rfl (lv_room (Nat.le_of_ble_eq_true rfl)) d_Mo_divisor_80 ⟨Nat.zero_le _, Nat.zero_le _⟩) hS (fun q _ h => hFc q h) hFc (fun u t H1 locs ht hvm hw hB hz1 hk1 hS => ?_)
    replace hw := hw.symm
    subst hw
    obtain ⟨hP1, -, hD1⟩ := hB
    rw [ht] at hP1
    obtain ⟨pn_76, epn_76⟩ : ∃ y : Nat → Int32, y = (upd pn_62 195 u_72) := ⟨_, rfl⟩
    replace h := ck_nm_s h epn_76
    obtain ⟨pm_77, epm_77⟩ : ∃ y : Nat → Int32, y = (upd pm_63 195 u_73) := ⟨_, rfl⟩
    replace h := ck_nm_s h epm_77
    obtain ⟨pd_78, epd_78⟩ : ∃ y : Nat → Nat → Int32, y = (va_up pd_64 195 u_74) := ⟨_, rfl⟩
    replace h := ck_nm_s h epd_78
    have fq_80 : pn_76 195 = u_72 := by simp [epn_76, upd, va_up, n_75, Ne.symm n_75]
    have fq_81 : pm_77 195 = u_73 := by simp [epm_77, upd, va_up, n_75, Ne.symm n_75]
    have fq_82 : pd_78 195 = u_74 := by simp [epd_78, upd, va_up, n_75, Ne.symm n_75]
    have fq_83 : pn_76 193 = pn_62 193 := by simp [epn_76, upd, va_up, n_75, Ne.symm n_75]
    have fq_84 : pm_77 193 = pm_63 193 := by simp [epm_77, upd, va_up, n_75, Ne.symm n_75]
    have fq_85 : pd_78 193 = pd_64 193 := by simp [epd_78, upd, va_up, n_75, Ne.symm n_75]
    obtain ⟨hP, hD⟩ := po_back (ks := [195, 193]) (pn' := pn_76) (pm' := pm_77) (pd' := pd_78) (ks2 (by decide) (by decide)) hP hD hk1 (by show va_P (dC, dI) cl_all [(NA 195, .inr (5, [.ref (ND 195), .int (pn_76 195), .int (pm_77 195)])), (ND 195, .inl (cI, 160, .inl (pd_78 195))), (NA 193, .inr (5, [.ref (ND 193), .int (pn_76 193), .int (pm_77 193)])), (ND 193, .inl (cI, 160, .inl (pd_78 193)))] H1; rw [fq_80, fq_81, fq_82, fq_83, fq_84, fq_85]; exact hP1) (fun j hj => by simp only [List.mem_cons, List.not_mem_nil, or_false, not_or] at hj; exact ⟨by simp [epn_76, upd, va_up, hj], by simp [epm_77, upd, va_up, hj], by simp [epd_78, upd, va_up, hj]⟩)
    generalize H1 = H at hP hS ⊢
    have hP : va_P (dC, dI) cl_all (xw cI cJ cB cZ cN ha NA m_rows m_columns m_prime m_small m_pivots m_freeRows m_freeColumns m_smallMinor m_fields m_rowCounts m_elements m_numbers m_known m_ranks m_rankOf m_signOf m_order m_sizes m_coefficients m_choices m_sorted ++ po cI NA ND pn_76 pm_77 pd_78) H := hP
    have hD : va_D A (xw cI cJ cB cZ cN ha NA m_rows m_columns m_prime m_small m_pivots m_freeRows m_freeColumns m_smallMinor m_fields m_rowCounts m_elements m_numbers m_known m_ranks m_rankOf m_signOf m_order m_sizes m_coefficients m_choices m_sorted ++ po cI NA ND pn_76 pm_77 pd_78) := hD
    refine lv_goto (tgt := 32) hx hb d_Mo_divisor_83 (by decide) ?_
    exact J_32 _ _ _ h _ _ hP hD hS _ (lv_sub hl [0] rfl)
theorem d_Mo_shorten_0 : decode prog_7_method_9_code 0 = .ok (.aload_n 0, 1) := by decide +kernel
theorem d_Mo_shorten_1 : decode prog_7_method_9_code 1 = .ok (.getfield 82, 3) := by decide +kernel
theorem d_Mo_shorten_4 : decode prog_7_method_9_code 4 = .ok (.invokevirtual 85, 3) := by decide +kernel
theorem d_Mo_shorten_7 : decode prog_7_method_9_code 7 = .ok (.iconst 0, 1) := by decide +kernel
theorem d_Mo_shorten_8 : decode prog_7_method_9_code 8 = .ok (.istore_n 2, 1) := by decide +kernel
theorem d_Mo_shorten_9 : decode prog_7_method_9_code 9 = .ok (.iload_n 2, 1) := by decide +kernel
theorem d_Mo_shorten_10 : decode prog_7_method_9_code 10 = .ok (.aload_n 0, 1) := by decide +kernel
theorem d_Mo_shorten_11 : decode prog_7_method_9_code 11 = .ok (.getfield 41, 3) := by decide +kernel
theorem d_Mo_shorten_14 : decode prog_7_method_9_code 14 = .ok (.if_icmp .ge 34, 3) := by decide +kernel
theorem d_Mo_shorten_17 : decode prog_7_method_9_code 17 = .ok (.aload_n 0, 1) := by decide +kernel
theorem d_Mo_shorten_18 : decode prog_7_method_9_code 18 = .ok (.aload_n 0, 1) := by decide +kernel
theorem d_Mo_shorten_19 : decode prog_7_method_9_code 19 = .ok (.getfield 82, 3) := by decide +kernel
theorem d_Mo_shorten_22 : decode prog_7_method_9_code 22 = .ok (.aload_n 0, 1) := by decide +kernel
theorem d_Mo_shorten_23 : decode prog_7_method_9_code 23 = .ok (.iload_n 1, 1) := by decide +kernel
theorem d_Mo_shorten_24 : decode prog_7_method_9_code 24 = .ok (.iload_n 2, 1) := by decide +kernel
theorem d_Mo_shorten_25 : decode prog_7_method_9_code 25 = .ok (.invokevirtual 47, 3) := by decide +kernel
theorem d_Mo_shorten_28 : decode prog_7_method_9_code 28 = .ok (.invokevirtual 89, 3) := by decide +kernel
theorem d_Mo_shorten_31 : decode prog_7_method_9_code 31 = .ok (.aload_n 0, 1) := by decide +kernel
theorem d_Mo_shorten_32 : decode prog_7_method_9_code 32 = .ok (.getfield 82, 3) := by decide +kernel
theorem d_Mo_shorten_35 : decode prog_7_method_9_code 35 = .ok (.aload_n 0, 1) := by decide +kernel
theorem d_Mo_shorten_36 : decode prog_7_method_9_code 36 = .ok (.getfield 1, 3) := by decide +kernel
theorem d_Mo_shorten_39 : decode prog_7_method_9_code 39 = .ok (.invokevirtual 7, 3) := by decide +kernel
theorem d_Mo_shorten_42 : decode prog_7_method_9_code 42 = .ok (.iinc 2 1, 3) := by decide +kernel
theorem d_Mo_shorten_45 : decode prog_7_method_9_code 45 = .ok (.goto (-36), 3) := by decide +kernel
theorem d_Mo_shorten_48 : decode prog_7_method_9_code 48 = .ok (.iconst 0, 1) := by decide +kernel
theorem d_Mo_shorten_49 : decode prog_7_method_9_code 49 = .ok (.istore_n 2, 1) := by decide +kernel
theorem d_Mo_shorten_50 : decode prog_7_method_9_code 50 = .ok (.iload_n 2, 1) := by decide +kernel
theorem d_Mo_shorten_51 : decode prog_7_method_9_code 51 = .ok (.aload_n 0, 1) := by decide +kernel
theorem d_Mo_shorten_52 : decode prog_7_method_9_code 52 = .ok (.getfield 41, 3) := by decide +kernel
theorem d_Mo_shorten_55 : decode prog_7_method_9_code 55 = .ok (.if_icmp .ge 63, 3) := by decide +kernel
theorem d_Mo_shorten_58 : decode prog_7_method_9_code 58 = .ok (.aload_n 0, 1) := by decide +kernel
theorem d_Mo_shorten_59 : decode prog_7_method_9_code 59 = .ok (.getfield 82, 3) := by decide +kernel
theorem d_Mo_shorten_62 : decode prog_7_method_9_code 62 = .ok (.getfield 20, 3) := by decide +kernel
theorem d_Mo_shorten_65 : decode prog_7_method_9_code 65 = .ok (.ifCond .le 53, 3) := by decide +kernel
theorem d_Mo_shorten_68 : decode prog_7_method_9_code 68 = .ok (.aload_n 0, 1) := by decide +kernel
theorem d_Mo_shorten_69 : decode prog_7_method_9_code 69 = .ok (.getfield 82, 3) := by decide +kernel
theorem d_Mo_shorten_72 : decode prog_7_method_9_code 72 = .ok (.invokevirtual 92, 3) := by decide +kernel
theorem d_Mo_shorten_75 : decode prog_7_method_9_code 75 = .ok (.ifCond .ne 43, 3) := by decide +kernel
theorem d_Mo_shorten_78 : decode prog_7_method_9_code 78 = .ok (.aload_n 0, 1) := by decide +kernel
theorem d_Mo_shorten_79 : decode prog_7_method_9_code 79 = .ok (.getfield 58, 3) := by decide +kernel
theorem d_Mo_shorten_82 : decode prog_7_method_9_code 82 = .ok (.aload_n 0, 1) := by decide +kernel
theorem d_Mo_shorten_83 : decode prog_7_method_9_code 83 = .ok (.iload_n 1, 1) := by decide +kernel
theorem d_Mo_shorten_84 : decode prog_7_method_9_code 84 = .ok (.iload_n 2, 1) := by decide +kernel
theorem d_Mo_shorten_85 : decode prog_7_method_9_code 85 = .ok (.invokevirtual 47, 3) := by decide +kernel
theorem d_Mo_shorten_88 : decode prog_7_method_9_code 88 = .ok (.aload_n 0, 1) := by decide +kernel
theorem d_Mo_shorten_89 : decode prog_7_method_9_code 89 = .ok (.getfield 82, 3) := by decide +kernel
theorem d_Mo_shorten_92 : decode prog_7_method_9_code 92 = .ok (.aload_n 0, 1) := by decide +kernel
theorem d_Mo_shorten_93 : decode prog_7_method_9_code 93 = .ok (.getfield 27, 3) := by decide +kernel
theorem d_Mo_shorten_96 : decode prog_7_method_9_code 96 = .ok (.invokevirtual 30, 3) := by decide +kernel
theorem d_Mo_shorten_99 : decode prog_7_method_9_code 99 = .ok (.aload_n 0, 1) := by decide +kernel
theorem d_Mo_shorten_100 : decode prog_7_method_9_code 100 = .ok (.iload_n 1, 1) := by decide +kernel
theorem d_Mo_shorten_101 : decode prog_7_method_9_code 101 = .ok (.iload_n 2, 1) := by decide +kernel
theorem d_Mo_shorten_102 : decode prog_7_method_9_code 102 = .ok (.invokevirtual 47, 3) := by decide +kernel
theorem d_Mo_shorten_105 : decode prog_7_method_9_code 105 = .ok (.aload_n 0, 1) := by decide +kernel
theorem d_Mo_shorten_106 : decode prog_7_method_9_code 106 = .ok (.getfield 58, 3) := by decide +kernel
theorem d_Mo_shorten_109 : decode prog_7_method_9_code 109 = .ok (.invokevirtual 7, 3) := by decide +kernel
theorem d_Mo_shorten_112 : decode prog_7_method_9_code 112 = .ok (.iinc 2 1, 3) := by decide +kernel
theorem d_Mo_shorten_115 : decode prog_7_method_9_code 115 = .ok (.goto (-65), 3) := by decide +kernel
theorem d_Mo_shorten_118 : decode prog_7_method_9_code 118 = .ok (.return_, 1) := by decide +kernel
def f_R_shorten (m_columns : Int32) (pn : Nat → Int32) (pm : Nat → Int32) (pd : Nat → Nat → Int32) (i0 : Int32) : Option ((Nat → Int32) × (Nat → Int32) × (Nat → Nat → Int32)) :=
  ck_b2 (f_N_zero) <| fun u_1 u_2 => ck_nm (upd pn 199 u_1) <| fun pn_3 => ck_nm (upd pm 199 u_2) <| fun pm_4 => ck_jn (fun (pn_8 : Nat → Int32) (pm_9 : Nat → Int32) (pd_10 : Nat → Nat → Int32) => lo4 (fun k_50 (v2_11 : Int32) (pn_12 : Nat → Int32) (pm_13 : Nat → Int32) (pd_14 : Nat → Nat → Int32) => ck_if (m_columns ≤ v2_11) (some (pn_12, pm_13, pd_14)) (ck_if ((pn_12 199) ≤ 0) (some (pn_12, pm_13, pd_14)) (ck_b1 (f_N_isOne (pn_12 199) (pm_13 199) 160 (pd_14 199)) <| fun r_17 => ck_if (r_17 = 0) (ck_b1 (f_R_at i0 v2_11) <| fun r_20 => ck_p (192 ≠ r_20 ∧ 192 ≠ 199 ∧ 192 ≠ 193 ∧ r_20 ≠ 199 ∧ r_20 ≠ 193 ∧ 199 ≠ 193) <| ck_b6 (f_N_quotient 160 (pd_14 192) (pn_12 r_20) (pm_13 r_20) 160 (pd_14 r_20) (pn_12 199) (pm_13 199) 160 (pd_14 199) 160 (pd_14 193)) <| fun u_22 u_23 u_24 u_25 u_26 u_27 => ck_nm (upd (upd pn_12 192 u_22) 193 u_25) <| fun pn_29 => ck_nm (upd (upd pm_13 192 u_23) 193 u_26) <| fun pm_30 => ck_nm (va_up (va_up pd_14 192 u_24) 193 u_27) <| fun pd_31 => ck_b1 (f_R_at i0 v2_11) <| fun r_45 => ck_p (r_45 ≠ 192) <| ck_b3 (f_N_copy 160 (pd_31 r_45) (pn_29 192) (pm_30 192) 160 (pd_31 192)) <| fun u_47 u_48 u_49 => ck_nm (upd pn_29 r_45 u_47) <| fun pn_51 => ck_nm (upd pm_30 r_45 u_48) <| fun pm_52 => ck_nm (va_up pd_31 r_45 u_49) <| fun pd_53 => ck_nm (v2_11 + 1) <| fun x_61 => k_50 x_61 pn_51 pm_52 pd_53) (some (pn_12, pm_13, pd_14))))) ck_F 0 pn_8 pm_9 pd_10) <| fun k_48 => lo4 (fun k_9 (v2_62 : Int32) (pn_63 : Nat → Int32) (pm_64 : Nat → Int32) (pd_65 : Nat → Nat → Int32) => ck_if (m_columns ≤ v2_62) (k_48 pn_63 pm_64 pd_65) (ck_b1 (f_R_at i0 v2_62) <| fun r_67 => ck_b3 (f_R_divisor pn_63 pm_64 pd_65 199 r_67) <| fun u_69 u_70 u_71 => ck_p (199 ≠ 196) <| ck_b3 (f_N_copy 160 (u_71 199) (u_69 196) (u_70 196) 160 (u_71 196)) <| fun u_73 u_74 u_75 => ck_nm (upd u_69 199 u_73) <| fun pn_77 => ck_nm (upd u_70 199 u_74) <| fun pm_78 => ck_nm (va_up u_71 199 u_75) <| fun pd_79 => ck_nm (v2_62 + 1) <| fun x_87 => k_9 x_87 pn_77 pm_78 pd_79)) ck_F 0 pn_3 pm_4 pd
set_option maxHeartbeats 4000000 in
set_option maxRecDepth 100000 in
theorem c_R_shorten (l : Launch) (dC : Nat → ClassId) (dI : Nat → Nat → Nat) (cI cJ cB cZ cT cN : ClassId) (sz : Nat) (ha NA ND : Nat → Nat) (m_rows : Int32) (m_columns : Int32) (m_prime : Int32) (m_small : Nat → Int32) (m_pivots : Nat → Int32) (m_freeRows : Nat → Int32) (m_freeColumns : Nat → Int32) (m_smallMinor : Nat → Int32) (m_fields : Nat → Int32) (m_rowCounts : Nat → Int32) (m_elements : Nat → Int32) (m_numbers : Nat → Int32) (m_known : Nat → Int32) (m_ranks : Nat → Int32) (m_rankOf : Nat → Int32) (m_signOf : Nat → Int32) (m_order : Nat → Int32) (m_sizes : Nat → Int32) (m_coefficients : Nat → Int64) (m_choices : Nat → Int64) (m_sorted : Nat → Int32) (pn : Nat → Int32) (pm : Nat → Int32) (pd : Nat → Nat → Int32) (i0 : Int32) (r : (Nat → Int32) × (Nat → Int32) × (Nat → Nat → Int32)) (h : f_R_shorten m_columns pn pm pd i0 = some r) : Met l y_Mo_shorten w_Mo_shorten ({ frames := 4, cells := 0, slots := 0, locals := 102 } : Room) (va_Pc [.ref (ha 0), .int i0] (fun U => U.heap.size = sz ∧ va_P (dC, dI) cl_all (xw cI cJ cB cZ cN ha NA m_rows m_columns m_prime m_small m_pivots m_freeRows m_freeColumns m_smallMinor m_fields m_rowCounts m_elements m_numbers m_known m_ranks m_rankOf m_signOf m_order m_sizes m_coefficients m_choices m_sorted ++ po cI NA ND pn pm pd) U.heap ∧ va_K (dC, dI) cl_all [(cI, .int), (cJ, .long), (cB, .byte), (cZ, .boolean), (cT, .object "BasisWalk$Table"), (cN, .object "BasisWalkModel$Num")] U ∧ NW U ∧ va_D (fun _ => True) (xw cI cJ cB cZ cN ha NA m_rows m_columns m_prime m_small m_pivots m_freeRows m_freeColumns m_smallMinor m_fields m_rowCounts m_elements m_numbers m_known m_ranks m_rankOf m_signOf m_order m_sizes m_coefficients m_choices m_sorted ++ po cI NA ND pn pm pd))) (va_Qv (fun u : (Nat → Int32) × (Nat → Int32) × (Nat → Nat → Int32) => u = r) (fun (u : (Nat → Int32) × (Nat → Int32) × (Nat → Nat → Int32)) (t : State) => va_P (dC, dI) cl_all (xw cI cJ cB cZ cN ha NA m_rows m_columns m_prime m_small m_pivots m_freeRows m_freeColumns m_smallMinor m_fields m_rowCounts m_elements m_numbers m_known m_ranks m_rankOf m_signOf m_order m_sizes m_coefficients m_choices m_sorted ++ po cI NA ND u.1 u.2.1 u.2.2) t.heap ∧ va_K (dC, dI) cl_all [(cI, .int), (cJ, .long), (cB, .byte), (cZ, .boolean), (cT, .object "BasisWalk$Table"), (cN, .object "BasisWalkModel$Num")] t ∧ va_D (va_A (xw cI cJ cB cZ cN ha NA m_rows m_columns m_prime m_small m_pivots m_freeRows m_freeColumns m_smallMinor m_fields m_rowCounts m_elements m_numbers m_known m_ranks m_rankOf m_signOf m_order m_sizes m_coefficients m_choices m_sorted ++ po cI NA ND pn pm pd) sz) (xw cI cJ cB cZ cN ha NA m_rows m_columns m_prime m_small m_pivots m_freeRows m_freeColumns m_smallMinor m_fields m_rowCounts m_elements m_numbers m_known m_ranks m_rankOf m_signOf m_order m_sizes m_coefficients m_choices m_sorted ++ po cI NA ND u.1 u.2.1 u.2.2)) (va_A (xw cI cJ cB cZ cN ha NA m_rows m_columns m_prime m_small m_pivots m_freeRows m_freeColumns m_smallMinor m_fields m_rowCounts m_elements m_numbers m_known m_ranks m_rankOf m_signOf m_order m_sizes m_coefficients m_choices m_sorted ++ po cI NA ND pn pm pd) sz)) 0 0 (va_A (xw cI cJ cB cZ cN ha NA m_rows m_columns m_prime m_small m_pivots m_freeRows m_freeColumns m_smallMinor m_fields m_rowCounts m_elements m_numbers m_known m_ranks m_rankOf m_signOf m_order m_sizes m_coefficients m_choices m_sorted ++ po cI NA ND pn pm pd) sz) := by
  refine Met.ofW (cc := prog_7_method_9_code) (maxL := 3) (ret := (Option.none : Option Jvm.ClassFile.FieldType)) (by decide) rfl ?_
  intro p e s m args below meth c s₁ B hml hv
  obtain ⟨hAR, hsz, hP, hK, hN, hD0⟩ := hv
  have hx := B.exec
  have hb := B.bytes
  have hr := B.returns
  have hts := atoms_spec (ws := w_Mo_shorten) B.pre
  have hown : s.vm.findClass "BasisWalkModel" = some m.cls := findClass_of_methodNamed B.named
  have hlocks := B.notSynchronized
  clear B
  subst hsz
  have hD := hD0.self (sz := s.heap.size)
  generalize hAe : va_A (xw cI cJ cB cZ cN ha NA m_rows m_columns m_prime m_small m_pivots m_freeRows m_freeColumns m_smallMinor m_fields m_rowCounts m_elements m_numbers m_known m_ranks m_rankOf m_signOf m_order m_sizes m_coefficients m_choices m_sorted ++ po cI NA ND pn pm pd) s.heap.size = A at hD ⊢
  have hA : ∀ q : Nat, s.heap.size ≤ q → A q := fun q h => by rw [← hAe]; exact Or.inr h
  clear hAe hD0
  have hS : va_S A s.heap s.heap [] := va_S.rf
  have hl := lv_entry ([.ref (ha 0), .int i0]) (n := 3) (Nat.le_of_ble_eq_true rfl)
  subst hAR
  rw [lg_entry_eq]
  generalize (lg_sl ([.ref (ha 0), .int i0]) ++ List.replicate (3 - (lg_sl ([.ref (ha 0), .int i0])).length) Slot.unset).toArray = ls at hl ⊢
  have hl : lv_has ls 3 [(0, .ref (ha 0)), (1, .int i0)] := hl
  change W p l e ({ frames := 4, cells := 0, slots := 0, locals := 102 } : Room) s m _ below meth c s.heap [] 0 0 _ _
  generalize hARe : ([.ref (ha 0), .int i0] : List Value).toArray = AR at hts ⊢
  clear hARe
  generalize hQ : MQ below _ AR s 0 0 A = QQ
  have fl0 := hts _ (List.mem_cons_of_mem _ tw_362)
  have iw1 := (fun w hw => List.mem_cons_of_mem _ (in_Mo w hw) : ∀ w ∈ u_ws "BasisWalkModel" T_Mo 31, w ∈ w_Mo_shorten)
  have fl2 := hts _ (List.mem_cons_of_mem _ tw_366)
  have fl3 := hts _ (List.mem_cons_of_mem _ tw_339)
  have iw4 := (fun w hw => List.mem_cons_of_mem _ (in_Nu w hw) : ∀ w ∈ u_ws "BasisWalkModel$Num" T_Nu 3, w ∈ w_Mo_shorten)
  have fl5 := hts _ (List.mem_cons_of_mem _ tw_355)
  have fl6 := hts _ (List.mem_cons_of_mem _ tw_356)
  have fl7 := hts _ (List.mem_cons_of_mem _ tw_359)
  obtain ⟨H, hHe⟩ : ∃ H : Heap, H = s.heap := ⟨_, rfl⟩
  rw [← hHe] at hP ⊢
  replace hS : va_S A s.heap H [] := by rw [hHe]; exact va_S.rf
  clear hHe
  unfold f_R_shorten at h
  refine lv_aload_n hx hb d_Mo_shorten_0 rfl (lv_at hl 0 rfl) ?_
  refine va_get (D := (dC, dI)) (ci := 6) (v := .ref (NA 199)) (C := "BasisWalkModel") (T := T_Mo) (N := 31) hx hb hts iw1 hown hK hP 0 rfl rfl 7 (by decide) fl0 (fun _ h9 => h9) rfl d_Mo_shorten_1 ?_
  obtain ⟨u_1, u_2, hc_5, h⟩ := ck_b2_s h
  obtain ⟨hPc, hDc⟩ := po_cut (ks := [199]) (ks1 (by decide)) (nd1) hP hD
  have hPc : va_P (dC, dI) cl_all [(NA 199, .inr (5, [.ref (ND 199), .int (pn 199), .int (pm 199)])), (ND 199, .inl (cI, 160, .inl (pd 199)))] H := hPc
  have hDc : va_D A [(NA 199, .inr (5, [.ref (ND 199), .int (pn 199), .int (pm 199)])), (ND 199, .inl (cI, 160, .inl (pd 199)))] := hDc
  have hFc := pw_free hDc hS hA
  refine va_callv (va_runV (As := []) (rest := []) ⟨hx, hb, hml, hown, hts⟩ (c_N_zero l dC dI cI cJ cB cZ cT cN H.size (NA 199) (ND 199) (pn 199) (pm 199) 160 (pd 199) _ hc_5) (cwV 0 hts (tb_V tw_543 tw_494 tw_495 tw_7 tw_496) rfl rfl rfl (by decide +kernel) ⟨Nat.le_of_ble_eq_true rfl, Nat.le_of_ble_eq_true rfl⟩) ⟨fun a U g mk q => by obtain ⟨q0, q1, qP, qK, qN, qD⟩ := q; exact ⟨q0, q1, qP, va_K.moved (u := U) (U := U.calling g mk a) (Vm.Alike.refl U.vm) qK, qN.same rfl, qD⟩, va_recv hK hPc (ci := 5) (q0 := 0) rfl rfl, fun U hU hW => ⟨rfl, by rw [hU], by rw [hU]; exact hPc, va_K.moved hW.alike hK, hN.warm hW, hDc.weaken (fun _ _ _ _ => trivial)⟩⟩ rfl rfl hl.1 rfl (lv_room (Nat.le_of_ble_eq_true rfl)) d_Mo_shorten_4 ⟨Nat.zero_le _, Nat.zero_le _⟩) hS (fun q _ h => hFc q h) hFc (fun u t H1 locs ht hvm hw hB hz1 hk1 hS => ?_)
  replace hw := hw.symm
  subst hw
  obtain ⟨hP1, -, hD1⟩ := hB
  rw [ht] at hP1
  obtain ⟨pn_3, epn_3⟩ : ∃ y : Nat → Int32, y = (upd pn 199 u_1) := ⟨_, rfl⟩
  replace h := ck_nm_s h epn_3
  obtain ⟨pm_4, epm_4⟩ : ∃ y : Nat → Int32, y = (upd pm 199 u_2) := ⟨_, rfl⟩
  replace h := ck_nm_s h epm_4
  have fq_6 : pn_3 199 = u_1 := by simp [epn_3, upd, va_up]
  have fq_7 : pm_4 199 = u_2 := by simp [epm_4, upd, va_up]
  obtain ⟨hP, hD⟩ := po_back (ks := [199]) (pn' := pn_3) (pm' := pm_4) (pd' := pd) (ks1 (by decide)) hP hD hk1 (by show va_P (dC, dI) cl_all [(NA 199, .inr (5, [.ref (ND 199), .int (pn_3 199), .int (pm_4 199)])), (ND 199, .inl (cI, 160, .inl (pd 199)))] H1; rw [fq_6, fq_7]; exact hP1) (fun j hj => by simp only [List.mem_cons, List.not_mem_nil, or_false, not_or] at hj; exact ⟨by simp [epn_3, upd, va_up, hj], by simp [epm_4, upd, va_up, hj], rfl⟩)
  generalize H1 = H at hP hS ⊢
  have hP : va_P (dC, dI) cl_all (xw cI cJ cB cZ cN ha NA m_rows m_columns m_prime m_small m_pivots m_freeRows m_freeColumns m_smallMinor m_fields m_rowCounts m_elements m_numbers m_known m_ranks m_rankOf m_signOf m_order m_sizes m_coefficients m_choices m_sorted ++ po cI NA ND pn_3 pm_4 pd) H := hP
  have hD : va_D A (xw cI cJ cB cZ cN ha NA m_rows m_columns m_prime m_small m_pivots m_freeRows m_freeColumns m_smallMinor m_fields m_rowCounts m_elements m_numbers m_known m_ranks m_rankOf m_signOf m_order m_sizes m_coefficients m_choices m_sorted ++ po cI NA ND pn_3 pm_4 pd) := hD
  refine lv_iconst (v := 0) hx hb d_Mo_shorten_7 (by decide) ?_
  refine lv_istore_n (lv' := [(2, .int 0), (0, .ref (ha 0)), (1, .int i0)]) hx hb d_Mo_shorten_8 rfl hl (by decide) rfl (fun ls hl => ?_)
  refine ck_jn_W h (fun k' => ∀ (pn_8 : Nat → Int32) (pm_9 : Nat → Int32) (pd_10 : Nat → Nat → Int32), k' pn_8 pm_9 pd_10 = some r → ∀ (H : Heap) (locs : List Loc), va_P (dC, dI) cl_all (xw cI cJ cB cZ cN ha NA m_rows m_columns m_prime m_small m_pivots m_freeRows m_freeColumns m_smallMinor m_fields m_rowCounts m_elements m_numbers m_known m_ranks m_rankOf m_signOf m_order m_sizes m_coefficients m_choices m_sorted ++ po cI NA ND pn_8 pm_9 pd_10) H → va_D A (xw cI cJ cB cZ cN ha NA m_rows m_columns m_prime m_small m_pivots m_freeRows m_freeColumns m_smallMinor m_fields m_rowCounts m_elements m_numbers m_known m_ranks m_rankOf m_signOf m_order m_sizes m_coefficients m_choices m_sorted ++ po cI NA ND pn_8 pm_9 pd_10) → va_S A s.heap H locs → ∀ ls : Array Slot, lv_has ls 3 [(0, .ref (ha 0)), (1, .int i0)] → W p l e ({ frames := 4, cells := 0, slots := 0, locals := 102 } : Room) s m AR below meth c H locs 0 0 QQ (F0 m 48 ls [])) ?_ ?_
  · intro pn_8 pm_9 pd_10 h H locs hP hD hS ls hl
    refine lv_iconst (v := 0) hx hb d_Mo_shorten_48 (by decide) ?_
    refine lv_istore_n (lv' := [(2, .int 0), (0, .ref (ha 0)), (1, .int i0)]) hx hb d_Mo_shorten_49 rfl hl (by decide) rfl (fun ls hl => ?_)
    refine lo4_W (r := r) (fun (v2_11 : Int32) (pn_12 : Nat → Int32) (pm_13 : Nat → Int32) (pd_14 : Nat → Nat → Int32) => ∀ (H : Heap) (locs : List Loc), va_P (dC, dI) cl_all (xw cI cJ cB cZ cN ha NA m_rows m_columns m_prime m_small m_pivots m_freeRows m_freeColumns m_smallMinor m_fields m_rowCounts m_elements m_numbers m_known m_ranks m_rankOf m_signOf m_order m_sizes m_coefficients m_choices m_sorted ++ po cI NA ND pn_12 pm_13 pd_14) H → va_D A (xw cI cJ cB cZ cN ha NA m_rows m_columns m_prime m_small m_pivots m_freeRows m_freeColumns m_smallMinor m_fields m_rowCounts m_elements m_numbers m_known m_ranks m_rankOf m_signOf m_order m_sizes m_coefficients m_choices m_sorted ++ po cI NA ND pn_12 pm_13 pd_14) → va_S A s.heap H locs → ∀ ls : Array Slot, lv_has ls 3 [(0, .ref (ha 0)), (1, .int i0), (2, .int v2_11)] → W p l e ({ frames := 4, cells := 0, slots := 0, locals := 102 } : Room) s m AR below meth c H locs 0 0 QQ (F0 m 50 ls [])) ?_ _ _ _ _ _ h _ _ hP hD hS _ (lv_sub hl [1, 2, 0] rfl)
    intro k_50 v2_11 pn_12 pm_13 pd_14 J_50 h H locs hP hD hS ls hl
    refine lv_iload_n hx hb d_Mo_shorten_50 rfl (lv_at hl 2 rfl) ?_
    refine lv_aload_n hx hb d_Mo_shorten_51 rfl (lv_at hl 0 rfl) ?_
    refine va_get (D := (dC, dI)) (ci := 6) (v := .int m_columns) (C := "BasisWalkModel") (T := T_Mo) (N := 31) hx hb hts iw1 hown hK hP 0 rfl rfl 11 (by decide) fl2 (fun _ h9 => h9) rfl d_Mo_shorten_52 ?_
    refine lv_icmp_ge (tgt := 118) hx hb d_Mo_shorten_55 (by decide) (fun c_15 => ?_) (fun c_15 => ?_)
    · replace h := ck_if_t h c_15
      obtain rfl := Option.some.inj h
      subst hQ
      exact W.vret hx hb hr (fun t ht hW => ⟨⟨(pn_12, pm_13, pd_14), rfl, rfl, by rw [ht]; exact hP, va_K.moved hW.alike hK, hD⟩, hS.F ht⟩) hS.2.2 d_Mo_shorten_118
    · replace h := ck_if_f h c_15
      refine lv_aload_n hx hb d_Mo_shorten_58 rfl (lv_at hl 0 rfl) ?_
      refine va_get (D := (dC, dI)) (ci := 6) (v := .ref (NA 199)) (C := "BasisWalkModel") (T := T_Mo) (N := 31) hx hb hts iw1 hown hK hP 0 rfl rfl 7 (by decide) fl0 (fun _ h9 => h9) rfl d_Mo_shorten_59 ?_
      refine va_get (D := (dC, dI)) (ci := 5) (v := .int (pn_12 199)) (C := "BasisWalkModel$Num") (T := T_Nu) (N := 3) hx hb hts iw4 hown hK hP _ (po_obj (by decide)) rfl 1 (by decide) fl3 (fun _ h9 => h9) rfl d_Mo_shorten_62 ?_
      refine lv_if_le (tgt := 118) hx hb d_Mo_shorten_65 (by decide) (fun c_16 => ?_) (fun c_16 => ?_)
      · replace h := ck_if_t h c_16
        obtain rfl := Option.some.inj h
        subst hQ
        exact W.vret hx hb hr (fun t ht hW => ⟨⟨(pn_12, pm_13, pd_14), rfl, rfl, by rw [ht]; exact hP, va_K.moved hW.alike hK, hD⟩, hS.F ht⟩) hS.2.2 d_Mo_shorten_118
      · replace h := ck_if_f h c_16
        refine lv_aload_n hx hb d_Mo_shorten_68 rfl (lv_at hl 0 rfl) ?_
        refine va_get (D := (dC, dI)) (ci := 6) (v := .ref (NA 199)) (C := "BasisWalkModel") (T := T_Mo) (N := 31) hx hb hts iw1 hown hK hP 0 rfl rfl 7 (by decide) fl0 (fun _ h9 => h9) rfl d_Mo_shorten_69 ?_
        obtain ⟨r_17, hc_18, h⟩ := ck_b1_s h
        obtain ⟨hPc, hDc⟩ := po_cut (ks := [199]) (ks1 (by decide)) (nd1) hP hD
        have hPc : va_P (dC, dI) cl_all [(NA 199, .inr (5, [.ref (ND 199), .int (pn_12 199), .int (pm_13 199)])), (ND 199, .inl (cI, 160, .inl (pd_14 199)))] H := hPc
        have hDc : va_D A [(NA 199, .inr (5, [.ref (ND 199), .int (pn_12 199), .int (pm_13 199)])), (ND 199, .inl (cI, 160, .inl (pd_14 199)))] := hDc
        have hFc := pw_free hDc hS hA
        refine va_calli (va_runV (As := []) (rest := []) ⟨hx, hb, hml, hown, hts⟩ (c_N_isOne l dC dI cI cJ cB cZ cT cN H.size (NA 199) (ND 199) (pn_12 199) (pm_13 199) 160 (pd_14 199) _ hc_18) (cwV 0 hts (tb_V tw_560 tw_561 tw_562 tw_7 tw_563) rfl rfl rfl (by decide +kernel) ⟨Nat.le_of_ble_eq_true rfl, Nat.le_of_ble_eq_true rfl⟩) ⟨fun a U g mk q => by obtain ⟨q0, q1, qP, qK, qN, qD⟩ := q; exact ⟨q0, q1, qP, va_K.moved (u := U) (U := U.calling g mk a) (Vm.Alike.refl U.vm) qK, qN.same rfl, qD⟩, va_recv hK hPc (ci := 5) (q0 := 0) rfl rfl, fun U hU hW => ⟨rfl, by rw [hU], by rw [hU]; exact hPc, va_K.moved hW.alike hK, hN.warm hW, hDc.weaken (fun _ _ _ _ => trivial)⟩⟩ rfl rfl hl.1 rfl (lv_room (Nat.le_of_ble_eq_true rfl)) d_Mo_shorten_72 ⟨Nat.zero_le _, Nat.zero_le _⟩) hS (fun q _ h => hFc q h) hFc (fun rr u t H1 locs ht hvm hw hB hz1 hk1 hS => ?_)
        replace hw := hw.symm
        subst hw
        obtain ⟨hP1, -, hD1⟩ := hB
        rw [ht] at hP1
        obtain ⟨hP, hD⟩ := po_back (ks := [199]) (pn' := pn_12) (pm' := pm_13) (pd' := pd_14) (ks1 (by decide)) hP hD hk1 (by show va_P (dC, dI) cl_all [(NA 199, .inr (5, [.ref (ND 199), .int (pn_12 199), .int (pm_13 199)])), (ND 199, .inl (cI, 160, .inl (pd_14 199)))] H1; exact hP1) (fun j hj => by simp only [List.mem_cons, List.not_mem_nil, or_false, not_or] at hj; exact ⟨rfl, rfl, rfl⟩)
        generalize H1 = H at hP hS ⊢
        have hP : va_P (dC, dI) cl_all (xw cI cJ cB cZ cN ha NA m_rows m_columns m_prime m_small m_pivots m_freeRows m_freeColumns m_smallMinor m_fields m_rowCounts m_elements m_numbers m_known m_ranks m_rankOf m_signOf m_order m_sizes m_coefficients m_choices m_sorted ++ po cI NA ND pn_12 pm_13 pd_14) H := hP
        have hD : va_D A (xw cI cJ cB cZ cN ha NA m_rows m_columns m_prime m_small m_pivots m_freeRows m_freeColumns m_smallMinor m_fields m_rowCounts m_elements m_numbers m_known m_ranks m_rankOf m_signOf m_order m_sizes m_coefficients m_choices m_sorted ++ po cI NA ND pn_12 pm_13 pd_14) := hD
        refine lv_if_ne (tgt := 118) hx hb d_Mo_shorten_75 (by decide) (fun c_19 => ?_) (fun c_19 => ?_)
        · replace h := ck_if_f h c_19
          obtain rfl := Option.some.inj h
          subst hQ
          exact W.vret hx hb hr (fun t ht hW => ⟨⟨(pn_12, pm_13, pd_14), rfl, rfl, by rw [ht]; exact hP, va_K.moved hW.alike hK, hD⟩, hS.F ht⟩) hS.2.2 d_Mo_shorten_118
        · replace h := ck_if_t h c_19
          refine lv_aload_n hx hb d_Mo_shorten_78 rfl (lv_at hl 0 rfl) ?_
          refine va_get (D := (dC, dI)) (ci := 6) (v := .ref (NA 192)) (C := "BasisWalkModel") (T := T_Mo) (N := 31) hx hb hts iw1 hown hK hP 0 rfl rfl 0 (by decide) fl5 (fun _ h9 => h9) rfl d_Mo_shorten_79 ?_
          refine lv_aload_n hx hb d_Mo_shorten_82 rfl (lv_at hl 0 rfl) ?_
          refine lv_iload_n hx hb d_Mo_shorten_83 rfl (lv_at hl 1 rfl) ?_
          refine lv_iload_n hx hb d_Mo_shorten_84 rfl (lv_at hl 2 rfl) ?_
          obtain ⟨r_20, hc_21, h⟩ := ck_b1_s h
          have hPc := hP
          have hDc := hD
          have hFc := pw_free hDc hS hA
          refine va_callr (va_runV (As := [.int i0, .int v2_11]) (rest := [.ref (NA 192)]) ⟨hx, hb, hml, hown, hts⟩ (c_R_at l dC dI cI cJ cB cZ cT cN H.size ha NA ND m_rows m_columns m_prime m_small m_pivots m_freeRows m_freeColumns m_smallMinor m_fields m_rowCounts m_elements m_numbers m_known m_ranks m_rankOf m_signOf m_order m_sizes m_coefficients m_choices m_sorted pn_12 pm_13 pd_14 i0 v2_11 _ hc_21) (cwV 2 hts (tb_V tw_485 tw_487 tp_21 tw_6 tw_488) rfl rfl rfl (by decide +kernel) ⟨Nat.le_of_ble_eq_true rfl, Nat.le_of_ble_eq_true rfl⟩) ⟨fun a U g mk q => by obtain ⟨q0, q1, qP, qK, qN, qD⟩ := q; exact ⟨q0, q1, qP, va_K.moved (u := U) (U := U.calling g mk a) (Vm.Alike.refl U.vm) qK, qN.same rfl, qD⟩, va_recv hK hPc (ci := 6) (q0 := 0) rfl rfl, fun U hU hW => ⟨rfl, by rw [hU], by rw [hU]; exact hPc, va_K.moved hW.alike hK, hN.warm hW, hDc.weaken (fun _ _ _ _ => trivial)⟩⟩ rfl rfl hl.1 rfl (lv_room (Nat.le_of_ble_eq_true rfl)) d_Mo_shorten_85 ⟨Nat.zero_le _, Nat.zero_le _⟩) hS (fun q _ h => hFc q h) hFc (fun u ra t H1 locs ht hvm hw hB hz1 hk1 hS => ?_)
          replace hw := hw.symm
          subst hw
          obtain ⟨hra, hlr_20, hP1, -, hD1⟩ := hB
          subst hra
          rw [ht] at hP1
          have hP : va_P (dC, dI) cl_all (xw cI cJ cB cZ cN ha NA m_rows m_columns m_prime m_small m_pivots m_freeRows m_freeColumns m_smallMinor m_fields m_rowCounts m_elements m_numbers m_known m_ranks m_rankOf m_signOf m_order m_sizes m_coefficients m_choices m_sorted ++ po cI NA ND pn_12 pm_13 pd_14) H1 := hP1
          have hD : va_D A (xw cI cJ cB cZ cN ha NA m_rows m_columns m_prime m_small m_pivots m_freeRows m_freeColumns m_smallMinor m_fields m_rowCounts m_elements m_numbers m_known m_ranks m_rankOf m_signOf m_order m_sizes m_coefficients m_choices m_sorted ++ po cI NA ND pn_12 pm_13 pd_14) := hD1.weaken (fun _ _ _ h => hFc _ h)
          generalize H1 = H at hP hS ⊢
          have hP : va_P (dC, dI) cl_all (xw cI cJ cB cZ cN ha NA m_rows m_columns m_prime m_small m_pivots m_freeRows m_freeColumns m_smallMinor m_fields m_rowCounts m_elements m_numbers m_known m_ranks m_rankOf m_signOf m_order m_sizes m_coefficients m_choices m_sorted ++ po cI NA ND pn_12 pm_13 pd_14) H := hP
          have hD : va_D A (xw cI cJ cB cZ cN ha NA m_rows m_columns m_prime m_small m_pivots m_freeRows m_freeColumns m_smallMinor m_fields m_rowCounts m_elements m_numbers m_known m_ranks m_rankOf m_signOf m_order m_sizes m_coefficients m_choices m_sorted ++ po cI NA ND pn_12 pm_13 pd_14) := hD
          refine lv_aload_n hx hb d_Mo_shorten_88 rfl (lv_at hl 0 rfl) ?_
          refine va_get (D := (dC, dI)) (ci := 6) (v := .ref (NA 199)) (C := "BasisWalkModel") (T := T_Mo) (N := 31) hx hb hts iw1 hown hK hP 0 rfl rfl 7 (by decide) fl0 (fun _ h9 => h9) rfl d_Mo_shorten_89 ?_
          refine lv_aload_n hx hb d_Mo_shorten_92 rfl (lv_at hl 0 rfl) ?_
          refine va_get (D := (dC, dI)) (ci := 6) (v := .ref (NA 193)) (C := "BasisWalkModel") (T := T_Mo) (N := 31) hx hb hts iw1 hown hK hP 0 rfl rfl 1 (by decide) fl6 (fun _ h9 => h9) rfl d_Mo_shorten_93 ?_
          obtain ⟨n_28, h⟩ := ck_p_s h
          obtain ⟨u_22, u_23, u_24, u_25, u_26, u_27, hc_32, h⟩ := ck_b6_s h
          obtain ⟨hPc, hDc⟩ := po_cut (ks := [192, r_20, 199, 193]) (ks4 (by decide) hlr_20 (by decide) (by decide)) (nd4 n_28) hP hD
          have hPc : va_P (dC, dI) cl_all [(NA 192, .inr (5, [.ref (ND 192), .int (pn_12 192), .int (pm_13 192)])), (ND 192, .inl (cI, 160, .inl (pd_14 192))), (NA r_20, .inr (5, [.ref (ND r_20), .int (pn_12 r_20), .int (pm_13 r_20)])), (ND r_20, .inl (cI, 160, .inl (pd_14 r_20))), (NA 199, .inr (5, [.ref (ND 199), .int (pn_12 199), .int (pm_13 199)])), (ND 199, .inl (cI, 160, .inl (pd_14 199))), (NA 193, .inr (5, [.ref (ND 193), .int (pn_12 193), .int (pm_13 193)])), (ND 193, .inl (cI, 160, .inl (pd_14 193)))] H := hPc
          have hDc : va_D A [(NA 192, .inr (5, [.ref (ND 192), .int (pn_12 192), .int (pm_13 192)])), (ND 192, .inl (cI, 160, .inl (pd_14 192))), (NA r_20, .inr (5, [.ref (ND r_20), .int (pn_12 r_20), .int (pm_13 r_20)])), (ND r_20, .inl (cI, 160, .inl (pd_14 r_20))), (NA 199, .inr (5, [.ref (ND 199), .int (pn_12 199), .int (pm_13 199)])), (ND 199, .inl (cI, 160, .inl (pd_14 199))), (NA 193, .inr (5, [.ref (ND 193), .int (pn_12 193), .int (pm_13 193)])), (ND 193, .inl (cI, 160, .inl (pd_14 193)))] := hDc
          have hFc := pw_free hDc hS hA
          refine va_callv (va_runV (As := [.ref (NA r_20), .ref (NA 199), .ref (NA 193)]) (rest := []) ⟨hx, hb, hml, hown, hts⟩ (c_N_quotient l dC dI cI cJ cB cZ cT cN H.size (NA 192) (NA r_20) (NA 199) (NA 193) (ND 192) (ND r_20) (ND 199) (ND 193) (pn_12 192) (pm_13 192) 160 (pd_14 192) (pn_12 r_20) (pm_13 r_20) 160 (pd_14 r_20) (pn_12 199) (pm_13 199) 160 (pd_14 199) (pn_12 193) (pm_13 193) 160 (pd_14 193) _ hc_32) (cwV 3 hts (tb_V tw_548 tw_549 tw_550 tw_7 tw_551) rfl rfl rfl (by decide +kernel) ⟨Nat.le_of_ble_eq_true rfl, Nat.le_of_ble_eq_true rfl⟩) ⟨fun a U g mk q => by obtain ⟨q0, q1, qP, qK, qN, qD⟩ := q; exact ⟨q0, q1, qP, va_K.moved (u := U) (U := U.calling g mk a) (Vm.Alike.refl U.vm) qK, qN.same rfl, qD⟩, va_recv hK hPc (ci := 5) (q0 := 0) rfl rfl, fun U hU hW => ⟨rfl, by rw [hU], by rw [hU]; exact hPc, va_K.moved hW.alike hK, hN.warm hW, hDc.weaken (fun _ _ _ _ => trivial)⟩⟩ rfl rfl hl.1 rfl (lv_room (Nat.le_of_ble_eq_true rfl)) d_Mo_shorten_96 ⟨Nat.zero_le _, Nat.zero_le _⟩) hS (fun q _ h => hFc q h) hFc (fun u t H1 locs ht hvm hw hB hz1 hk1 hS => ?_)
          replace hw := hw.symm
          subst hw
          obtain ⟨hP1, -, hD1⟩ := hB
          rw [ht] at hP1
          obtain ⟨pn_29, epn_29⟩ : ∃ y : Nat → Int32, y = (upd (upd pn_12 192 u_22) 193 u_25) := ⟨_, rfl⟩
          replace h := ck_nm_s h epn_29
          obtain ⟨pm_30, epm_30⟩ : ∃ y : Nat → Int32, y = (upd (upd pm_13 192 u_23) 193 u_26) := ⟨_, rfl⟩
          replace h := ck_nm_s h epm_30
          obtain ⟨pd_31, epd_31⟩ : ∃ y : Nat → Nat → Int32, y = (va_up (va_up pd_14 192 u_24) 193 u_27) := ⟨_, rfl⟩
          replace h := ck_nm_s h epd_31
          have fq_33 : pn_29 192 = u_22 := by simp [epn_29, upd, va_up, n_28.1, Ne.symm n_28.1, n_28.2.1, Ne.symm n_28.2.1, n_28.2.2.1, Ne.symm n_28.2.2.1, n_28.2.2.2.1, Ne.symm n_28.2.2.2.1, n_28.2.2.2.2.1, Ne.symm n_28.2.2.2.2.1, n_28.2.2.2.2.2, Ne.symm n_28.2.2.2.2.2]
          have fq_34 : pm_30 192 = u_23 := by simp [epm_30, upd, va_up, n_28.1, Ne.symm n_28.1, n_28.2.1, Ne.symm n_28.2.1, n_28.2.2.1, Ne.symm n_28.2.2.1, n_28.2.2.2.1, Ne.symm n_28.2.2.2.1, n_28.2.2.2.2.1, Ne.symm n_28.2.2.2.2.1, n_28.2.2.2.2.2, Ne.symm n_28.2.2.2.2.2]
          have fq_35 : pd_31 192 = u_24 := by simp [epd_31, upd, va_up, n_28.1, Ne.symm n_28.1, n_28.2.1, Ne.symm n_28.2.1, n_28.2.2.1, Ne.symm n_28.2.2.1, n_28.2.2.2.1, Ne.symm n_28.2.2.2.1, n_28.2.2.2.2.1, Ne.symm n_28.2.2.2.2.1, n_28.2.2.2.2.2, Ne.symm n_28.2.2.2.2.2]
          have fq_36 : pn_29 r_20 = pn_12 r_20 := by simp [epn_29, upd, va_up, n_28.1, Ne.symm n_28.1, n_28.2.1, Ne.symm n_28.2.1, n_28.2.2.1, Ne.symm n_28.2.2.1, n_28.2.2.2.1, Ne.symm n_28.2.2.2.1, n_28.2.2.2.2.1, Ne.symm n_28.2.2.2.2.1, n_28.2.2.2.2.2, Ne.symm n_28.2.2.2.2.2]
          have fq_37 : pm_30 r_20 = pm_13 r_20 := by simp [epm_30, upd, va_up, n_28.1, Ne.symm n_28.1, n_28.2.1, Ne.symm n_28.2.1, n_28.2.2.1, Ne.symm n_28.2.2.1, n_28.2.2.2.1, Ne.symm n_28.2.2.2.1, n_28.2.2.2.2.1, Ne.symm n_28.2.2.2.2.1, n_28.2.2.2.2.2, Ne.symm n_28.2.2.2.2.2]
          have fq_38 : pd_31 r_20 = pd_14 r_20 := by simp [epd_31, upd, va_up, n_28.1, Ne.symm n_28.1, n_28.2.1, Ne.symm n_28.2.1, n_28.2.2.1, Ne.symm n_28.2.2.1, n_28.2.2.2.1, Ne.symm n_28.2.2.2.1, n_28.2.2.2.2.1, Ne.symm n_28.2.2.2.2.1, n_28.2.2.2.2.2, Ne.symm n_28.2.2.2.2.2]
          have fq_39 : pn_29 199 = pn_12 199 := by simp [epn_29, upd, va_up, n_28.1, Ne.symm n_28.1, n_28.2.1, Ne.symm n_28.2.1, n_28.2.2.1, Ne.symm n_28.2.2.1, n_28.2.2.2.1, Ne.symm n_28.2.2.2.1, n_28.2.2.2.2.1, Ne.symm n_28.2.2.2.2.1, n_28.2.2.2.2.2, Ne.symm n_28.2.2.2.2.2]
          have fq_40 : pm_30 199 = pm_13 199 := by simp [epm_30, upd, va_up, n_28.1, Ne.symm n_28.1, n_28.2.1, Ne.symm n_28.2.1, n_28.2.2.1, Ne.symm n_28.2.2.1, n_28.2.2.2.1, Ne.symm n_28.2.2.2.1, n_28.2.2.2.2.1, Ne.symm n_28.2.2.2.2.1, n_28.2.2.2.2.2, Ne.symm n_28.2.2.2.2.2]
          have fq_41 : pd_31 199 = pd_14 199 := by simp [epd_31, upd, va_up, n_28.1, Ne.symm n_28.1, n_28.2.1, Ne.symm n_28.2.1, n_28.2.2.1, Ne.symm n_28.2.2.1, n_28.2.2.2.1, Ne.symm n_28.2.2.2.1, n_28.2.2.2.2.1, Ne.symm n_28.2.2.2.2.1, n_28.2.2.2.2.2, Ne.symm n_28.2.2.2.2.2]
          have fq_42 : pn_29 193 = u_25 := by simp [epn_29, upd, va_up, n_28.1, Ne.symm n_28.1, n_28.2.1, Ne.symm n_28.2.1, n_28.2.2.1, Ne.symm n_28.2.2.1, n_28.2.2.2.1, Ne.symm n_28.2.2.2.1, n_28.2.2.2.2.1, Ne.symm n_28.2.2.2.2.1, n_28.2.2.2.2.2, Ne.symm n_28.2.2.2.2.2]
          have fq_43 : pm_30 193 = u_26 := by simp [epm_30, upd, va_up, n_28.1, Ne.symm n_28.1, n_28.2.1, Ne.symm n_28.2.1, n_28.2.2.1, Ne.symm n_28.2.2.1, n_28.2.2.2.1, Ne.symm n_28.2.2.2.1, n_28.2.2.2.2.1, Ne.symm n_28.2.2.2.2.1, n_28.2.2.2.2.2, Ne.symm n_28.2.2.2.2.2]
          have fq_44 : pd_31 193 = u_27 := by simp [epd_31, upd, va_up, n_28.1, Ne.symm n_28.1, n_28.2.1, Ne.symm n_28.2.1, n_28.2.2.1, Ne.symm n_28.2.2.1, n_28.2.2.2.1, Ne.symm n_28.2.2.2.1, n_28.2.2.2.2.1, Ne.symm n_28.2.2.2.2.1, n_28.2.2.2.2.2, Ne.symm n_28.2.2.2.2.2]
          obtain ⟨hP, hD⟩ := po_back (ks := [192, r_20, 199, 193]) (pn' := pn_29) (pm' := pm_30) (pd' := pd_31) (ks4 (by decide) hlr_20 (by decide) (by decide)) hP hD hk1 (by show va_P (dC, dI) cl_all [(NA 192, .inr (5, [.ref (ND 192), .int (pn_29 192), .int (pm_30 192)])), (ND 192, .inl (cI, 160, .inl (pd_31 192))), (NA r_20, .inr (5, [.ref (ND r_20), .int (pn_29 r_20), .int (pm_30 r_20)])), (ND r_20, .inl (cI, 160, .inl (pd_31 r_20))), (NA 199, .inr (5, [.ref (ND 199), .int (pn_29 199), .int (pm_30 199)])), (ND 199, .inl (cI, 160, .inl (pd_31 199))), (NA 193, .inr (5, [.ref (ND 193), .int (pn_29 193), .int (pm_30 193)])), (ND 193, .inl (cI, 160, .inl (pd_31 193)))] H1; rw [fq_33, fq_34, fq_35, fq_36, fq_37, fq_38, fq_39, fq_40, fq_41, fq_42, fq_43, fq_44]; exact hP1) (fun j hj => by simp only [List.mem_cons, List.not_mem_nil, or_false, not_or] at hj; exact ⟨by simp [epn_29, upd, va_up, hj], by simp [epm_30, upd, va_up, hj], by simp [epd_31, upd, va_up, hj]⟩)
          generalize H1 = H at hP hS ⊢
          have hP : va_P (dC, dI) cl_all (xw cI cJ cB cZ cN ha NA m_rows m_columns m_prime m_small m_pivots m_freeRows m_freeColumns m_smallMinor m_fields m_rowCounts m_elements m_numbers m_known m_ranks m_rankOf m_signOf m_order m_sizes m_coefficients m_choices m_sorted ++ po cI NA ND pn_29 pm_30 pd_31) H := hP
          have hD : va_D A (xw cI cJ cB cZ cN ha NA m_rows m_columns m_prime m_small m_pivots m_freeRows m_freeColumns m_smallMinor m_fields m_rowCounts m_elements m_numbers m_known m_ranks m_rankOf m_signOf m_order m_sizes m_coefficients m_choices m_sorted ++ po cI NA ND pn_29 pm_30 pd_31) := hD
          refine lv_aload_n hx hb d_Mo_shorten_99 rfl (lv_at hl 0 rfl) ?_
          refine lv_iload_n hx hb d_Mo_shorten_100 rfl (lv_at hl 1 rfl) ?_
          refine lv_iload_n hx hb d_Mo_shorten_101 rfl (lv_at hl 2 rfl) ?_
          obtain ⟨r_45, hc_46, h⟩ := ck_b1_s h
          have hPc := hP
          have hDc := hD
          have hFc := pw_free hDc hS hA
          refine va_callr (va_runV (As := [.int i0, .int v2_11]) (rest := []) ⟨hx, hb, hml, hown, hts⟩ (c_R_at l dC dI cI cJ cB cZ cT cN H.size ha NA ND m_rows m_columns m_prime m_small m_pivots m_freeRows m_freeColumns m_smallMinor m_fields m_rowCounts m_elements m_numbers m_known m_ranks m_rankOf m_signOf m_order m_sizes m_coefficients m_choices m_sorted pn_29 pm_30 pd_31 i0 v2_11 _ hc_46) (cwV 2 hts (tb_V tw_485 tw_487 tp_21 tw_6 tw_488) rfl rfl rfl (by decide +kernel) ⟨Nat.le_of_ble_eq_true rfl, Nat.le_of_ble_eq_true rfl⟩) ⟨fun a U g mk q => by obtain ⟨q0, q1, qP, qK, qN, qD⟩ := q; exact ⟨q0, q1, qP, va_K.moved (u := U) (U := U.calling g mk a) (Vm.Alike.refl U.vm) qK, qN.same rfl, qD⟩, va_recv hK hPc (ci := 6) (q0 := 0) rfl rfl, fun U hU hW => ⟨rfl, by rw [hU], by rw [hU]; exact hPc, va_K.moved hW.alike hK, hN.warm hW, hDc.weaken (fun _ _ _ _ => trivial)⟩⟩ rfl rfl hl.1 rfl (lv_room (Nat.le_of_ble_eq_true rfl)) d_Mo_shorten_102 ⟨Nat.zero_le _, Nat.zero_le _⟩) hS (fun q _ h => hFc q h) hFc (fun u ra t H1 locs ht hvm hw hB hz1 hk1 hS => ?_)
          replace hw := hw.symm
          subst hw
          obtain ⟨hra, hlr_45, hP1, -, hD1⟩ := hB
          subst hra
          rw [ht] at hP1
          have hP : va_P (dC, dI) cl_all (xw cI cJ cB cZ cN ha NA m_rows m_columns m_prime m_small m_pivots m_freeRows m_freeColumns m_smallMinor m_fields m_rowCounts m_elements m_numbers m_known m_ranks m_rankOf m_signOf m_order m_sizes m_coefficients m_choices m_sorted ++ po cI NA ND pn_29 pm_30 pd_31) H1 := hP1
          have hD : va_D A (xw cI cJ cB cZ cN ha NA m_rows m_columns m_prime m_small m_pivots m_freeRows m_freeColumns m_smallMinor m_fields m_rowCounts m_elements m_numbers m_known m_ranks m_rankOf m_signOf m_order m_sizes m_coefficients m_choices m_sorted ++ po cI NA ND pn_29 pm_30 pd_31) := hD1.weaken (fun _ _ _ h => hFc _ h)
          generalize H1 = H at hP hS ⊢
          have hP : va_P (dC, dI) cl_all (xw cI cJ cB cZ cN ha NA m_rows m_columns m_prime m_small m_pivots m_freeRows m_freeColumns m_smallMinor m_fields m_rowCounts m_elements m_numbers m_known m_ranks m_rankOf m_signOf m_order m_sizes m_coefficients m_choices m_sorted ++ po cI NA ND pn_29 pm_30 pd_31) H := hP
          have hD : va_D A (xw cI cJ cB cZ cN ha NA m_rows m_columns m_prime m_small m_pivots m_freeRows m_freeColumns m_smallMinor m_fields m_rowCounts m_elements m_numbers m_known m_ranks m_rankOf m_signOf m_order m_sizes m_coefficients m_choices m_sorted ++ po cI NA ND pn_29 pm_30 pd_31) := hD
          refine lv_aload_n hx hb d_Mo_shorten_105 rfl (lv_at hl 0 rfl) ?_
          refine va_get (D := (dC, dI)) (ci := 6) (v := .ref (NA 192)) (C := "BasisWalkModel") (T := T_Mo) (N := 31) hx hb hts iw1 hown hK hP 0 rfl rfl 0 (by decide) fl5 (fun _ h9 => h9) rfl d_Mo_shorten_106 ?_
          obtain ⟨n_50, h⟩ := ck_p_s h
          obtain ⟨u_47, u_48, u_49, hc_54, h⟩ := ck_b3_s h
          obtain ⟨hPc, hDc⟩ := po_cut (ks := [r_45, 192]) (ks2 hlr_45 (by decide)) (nd2 n_50) hP hD
          have hPc : va_P (dC, dI) cl_all [(NA r_45, .inr (5, [.ref (ND r_45), .int (pn_29 r_45), .int (pm_30 r_45)])), (ND r_45, .inl (cI, 160, .inl (pd_31 r_45))), (NA 192, .inr (5, [.ref (ND 192), .int (pn_29 192), .int (pm_30 192)])), (ND 192, .inl (cI, 160, .inl (pd_31 192)))] H := hPc
          have hDc : va_D A [(NA r_45, .inr (5, [.ref (ND r_45), .int (pn_29 r_45), .int (pm_30 r_45)])), (ND r_45, .inl (cI, 160, .inl (pd_31 r_45))), (NA 192, .inr (5, [.ref (ND 192), .int (pn_29 192), .int (pm_30 192)])), (ND 192, .inl (cI, 160, .inl (pd_31 192)))] := hDc
          have hFc := pw_free hDc hS hA
          refine va_callv (va_runV (As := [.ref (NA 192)]) (rest := []) ⟨hx, hb, hml, hown, hts⟩ (c_N_copy l dC dI cI cJ cB cZ cT cN H.size (NA r_45) (NA 192) (ND r_45) (ND 192) (pn_29 r_45) (pm_30 r_45) 160 (pd_31 r_45) (pn_29 192) (pm_30 192) 160 (pd_31 192) _ hc_54) (cwV 1 hts (tb_V tw_510 tw_511 tw_512 tw_7 tw_513) rfl rfl rfl (by decide +kernel) ⟨Nat.le_of_ble_eq_true rfl, Nat.le_of_ble_eq_true rfl⟩) ⟨fun a U g mk q => by obtain ⟨q0, q1, qP, qK, qN, qD⟩ := q; exact ⟨q0, q1, qP, va_K.moved (u := U) (U := U.calling g mk a) (Vm.Alike.refl U.vm) qK, qN.same rfl, qD⟩, va_recv hK hPc (ci := 5) (q0 := 0) rfl rfl, fun U hU hW => ⟨rfl, by rw [hU], by rw [hU]; exact hPc, va_K.moved hW.alike hK, hN.warm hW, hDc.weaken (fun _ _ _ _ => trivial)⟩⟩ rfl rfl hl.1 rfl (lv_room (Nat.le_of_ble_eq_true rfl)) d_Mo_shorten_109 ⟨Nat.zero_le _, Nat.zero_le _⟩) hS (fun q _ h => hFc q h) hFc (fun u t H1 locs ht hvm hw hB hz1 hk1 hS => ?_)
          replace hw := hw.symm
          subst hw
          obtain ⟨hP1, -, hD1⟩ := hB
          rw [ht] at hP1
          obtain ⟨pn_51, epn_51⟩ : ∃ y : Nat → Int32, y = (upd pn_29 r_45 u_47) := ⟨_, rfl⟩
          replace h := ck_nm_s h epn_51
          obtain ⟨pm_52, epm_52⟩ : ∃ y : Nat → Int32, y = (upd pm_30 r_45 u_48) := ⟨_, rfl⟩
          replace h := ck_nm_s h epm_52
          obtain ⟨pd_53, epd_53⟩ : ∃ y : Nat → Nat → Int32, y = (va_up pd_31 r_45 u_49) := ⟨_, rfl⟩
          replace h := ck_nm_s h epd_53
          have fq_55 : pn_51 r_45 = u_47 := by simp [epn_51, upd, va_up, n_50, Ne.symm n_50]
          have fq_56 : pm_52 r_45 = u_48 := by simp [epm_52, upd, va_up, n_50, Ne.symm n_50]
          have fq_57 : pd_53 r_45 = u_49 := by simp [epd_53, upd, va_up, n_50, Ne.symm n_50]
          have fq_58 : pn_51 192 = pn_29 192 := by simp [epn_51, upd, va_up, n_50, Ne.symm n_50]
          have fq_59 : pm_52 192 = pm_30 192 := by simp [epm_52, upd, va_up, n_50, Ne.symm n_50]
          have fq_60 : pd_53 192 = pd_31 192 := by simp [epd_53, upd, va_up, n_50, Ne.symm n_50]
          obtain ⟨hP, hD⟩ := po_back (ks := [r_45, 192]) (pn' := pn_51) (pm' := pm_52) (pd' := pd_53) (ks2 hlr_45 (by decide)) hP hD hk1 (by show va_P (dC, dI) cl_all [(NA r_45, .inr (5, [.ref (ND r_45), .int (pn_51 r_45), .int (pm_52 r_45)])), (ND r_45, .inl (cI, 160, .inl (pd_53 r_45))), (NA 192, .inr (5, [.ref (ND 192), .int (pn_51 192), .int (pm_52 192)])), (ND 192, .inl (cI, 160, .inl (pd_53 192)))] H1; rw [fq_55, fq_56, fq_57, fq_58, fq_59, fq_60]; exact hP1) (fun j hj => by simp only [List.mem_cons, List.not_mem_nil, or_false, not_or] at hj; exact ⟨by simp [epn_51, upd, va_up, hj], by simp [epm_52, upd, va_up, hj], by simp [epd_53, upd, va_up, hj]⟩)
          generalize H1 = H at hP hS ⊢
          have hP : va_P (dC, dI) cl_all (xw cI cJ cB cZ cN ha NA m_rows m_columns m_prime m_small m_pivots m_freeRows m_freeColumns m_smallMinor m_fields m_rowCounts m_elements m_numbers m_known m_ranks m_rankOf m_signOf m_order m_sizes m_coefficients m_choices m_sorted ++ po cI NA ND pn_51 pm_52 pd_53) H := hP
          have hD : va_D A (xw cI cJ cB cZ cN ha NA m_rows m_columns m_prime m_small m_pivots m_freeRows m_freeColumns m_smallMinor m_fields m_rowCounts m_elements m_numbers m_known m_ranks m_rankOf m_signOf m_order m_sizes m_coefficients m_choices m_sorted ++ po cI NA ND pn_51 pm_52 pd_53) := hD
          obtain ⟨x_61, ex_61⟩ : ∃ y : Int32, y = v2_11 + 1 := ⟨_, rfl⟩
          replace h := ck_nm_s h ex_61
          refine lv_iinc (v := x_61) (lv' := [(2, .int x_61), (0, .ref (ha 0)), (1, .int i0)]) hx hb d_Mo_shorten_112 hl (k := 2) rfl (by rw [ex_61]; rfl) (by decide) rfl (fun ls hl => ?_)
          refine lv_goto (tgt := 50) hx hb d_Mo_shorten_115 (by decide) ?_
          exact J_50 _ _ _ _ h _ _ hP hD hS _ (lv_sub hl [1, 2, 0] rfl)
  · intro k_48 J_48 h
    refine lo4_W (r := r) (fun (v2_62 : Int32) (pn_63 : Nat → Int32) (pm_64 : Nat → Int32) (pd_65 : Nat → Nat → Int32) => ∀ (H : Heap) (locs : List Loc), va_P (dC, dI) cl_all (xw cI cJ cB cZ cN ha NA m_rows m_columns m_prime m_small m_pivots m_freeRows m_freeColumns m_smallMinor m_fields m_rowCounts m_elements m_numbers m_known m_ranks m_rankOf m_signOf m_order m_sizes m_coefficients m_choices m_sorted ++ po cI NA ND pn_63 pm_64 pd_65) H → va_D A (xw cI cJ cB cZ cN ha NA m_rows m_columns m_prime m_small m_pivots m_freeRows m_freeColumns m_smallMinor m_fields m_rowCounts m_elements m_numbers m_known m_ranks m_rankOf m_signOf m_order m_sizes m_coefficients m_choices m_sorted ++ po cI NA ND pn_63 pm_64 pd_65) → va_S A s.heap H locs → ∀ ls : Array Slot, lv_has ls 3 [(0, .ref (ha 0)), (1, .int i0), (2, .int v2_62)] → W p l e ({ frames := 4, cells := 0, slots := 0, locals := 102 } : Room) s m AR below meth c H locs 0 0 QQ (F0 m 9 ls [])) ?_ _ _ _ _ _ h _ _ hP hD hS _ (lv_sub hl [1, 2, 0] rfl)
    intro k_9 v2_62 pn_63 pm_64 pd_65 J_9 h H locs hP hD hS ls hl
    refine lv_iload_n hx hb d_Mo_shorten_9 rfl (lv_at hl 2 rfl) ?_
    refine lv_aload_n hx hb d_Mo_shorten_10 rfl (lv_at hl 0 rfl) ?_
    refine va_get (D := (dC, dI)) (ci := 6) (v := .int m_columns) (C := "BasisWalkModel") (T := T_Mo) (N := 31) hx hb hts iw1 hown hK hP 0 rfl rfl 11 (by decide) fl2 (fun _ h9 => h9) rfl d_Mo_shorten_11 ?_
    refine lv_icmp_ge (tgt := 48) hx hb d_Mo_shorten_14 (by decide) (fun c_66 => ?_) (fun c_66 => ?_)
    · replace h := ck_if_t h c_66
      exact J_48 _ _ _ h _ _ hP hD hS _ (lv_sub hl [0, 1] rfl)
    · replace h := ck_if_f h c_66
      refine lv_aload_n hx hb d_Mo_shorten_17 rfl (lv_at hl 0 rfl) ?_
      refine lv_aload_n hx hb d_Mo_shorten_18 rfl (lv_at hl 0 rfl) ?_
      refine va_get (D := (dC, dI)) (ci := 6) (v := .ref (NA 199)) (C := "BasisWalkModel") (T := T_Mo) (N := 31) hx hb hts iw1 hown hK hP 0 rfl rfl 7 (by decide) fl0 (fun _ h9 => h9) rfl d_Mo_shorten_19 ?_
      refine lv_aload_n hx hb d_Mo_shorten_22 rfl (lv_at hl 0 rfl) ?_
      refine lv_iload_n hx hb d_Mo_shorten_23 rfl (lv_at hl 1 rfl) ?_
      refine lv_iload_n hx hb d_Mo_shorten_24 rfl (lv_at hl 2 rfl) ?_
      obtain ⟨r_67, hc_68, h⟩ := ck_b1_s h
      have hPc := hP
      have hDc := hD
      have hFc := pw_free hDc hS hA
      refine va_callr (va_runV (As := [.int i0, .int v2_62]) (rest := [.ref (NA 199), .ref (ha 0)]) ⟨hx, hb, hml, hown, hts⟩ (c_R_at l dC dI cI cJ cB cZ cT cN H.size ha NA ND m_rows m_columns m_prime m_small m_pivots m_freeRows m_freeColumns m_smallMinor m_fields m_rowCounts m_elements m_numbers m_known m_ranks m_rankOf m_signOf m_order m_sizes m_coefficients m_choices m_sorted pn_63 pm_64 pd_65 i0 v2_62 _ hc_68) (cwV 2 hts (tb_V tw_485 tw_487 tp_21 tw_6 tw_488) rfl rfl rfl (by decide +kernel) ⟨Nat.le_of_ble_eq_true rfl, Nat.le_of_ble_eq_true rfl⟩) ⟨fun a U g mk q => by obtain ⟨q0, q1, qP, qK, qN, qD⟩ := q; exact ⟨q0, q1, qP, va_K.moved (u := U) (U := U.calling g mk a) (Vm.Alike.refl U.vm) qK, qN.same rfl, qD⟩, va_recv hK hPc (ci := 6) (q0 := 0) rfl rfl, fun U hU hW => ⟨rfl, by rw [hU], by rw [hU]; exact hPc, va_K.moved hW.alike hK, hN.warm hW, hDc.weaken (fun _ _ _ _ => trivial)⟩⟩ rfl rfl hl.1 rfl (lv_room (Nat.le_of_ble_eq_true rfl)) d_Mo_shorten_25 ⟨Nat.zero_le _, Nat.zero_le _⟩) hS (fun q _ h => hFc q h) hFc (fun u ra t H1 locs ht hvm hw hB hz1 hk1 hS => ?_)
      replace hw := hw.symm
      subst hw
      obtain ⟨hra, hlr_67, hP1, -, hD1⟩ := hB
      subst hra
      rw [ht] at hP1
      have hP : va_P (dC, dI) cl_all (xw cI cJ cB cZ cN ha NA m_rows m_columns m_prime m_small m_pivots m_freeRows m_freeColumns m_smallMinor m_fields m_rowCounts m_elements m_numbers m_known m_ranks m_rankOf m_signOf m_order m_sizes m_coefficients m_choices m_sorted ++ po cI NA ND pn_63 pm_64 pd_65) H1 := hP1
      have hD : va_D A (xw cI cJ cB cZ cN ha NA m_rows m_columns m_prime m_small m_pivots m_freeRows m_freeColumns m_smallMinor m_fields m_rowCounts m_elements m_numbers m_known m_ranks m_rankOf m_signOf m_order m_sizes m_coefficients m_choices m_sorted ++ po cI NA ND pn_63 pm_64 pd_65) := hD1.weaken (fun _ _ _ h => hFc _ h)
      generalize H1 = H at hP hS ⊢
      have hP : va_P (dC, dI) cl_all (xw cI cJ cB cZ cN ha NA m_rows m_columns m_prime m_small m_pivots m_freeRows m_freeColumns m_smallMinor m_fields m_rowCounts m_elements m_numbers m_known m_ranks m_rankOf m_signOf m_order m_sizes m_coefficients m_choices m_sorted ++ po cI NA ND pn_63 pm_64 pd_65) H := hP
      have hD : va_D A (xw cI cJ cB cZ cN ha NA m_rows m_columns m_prime m_small m_pivots m_freeRows m_freeColumns m_smallMinor m_fields m_rowCounts m_elements m_numbers m_known m_ranks m_rankOf m_signOf m_order m_sizes m_coefficients m_choices m_sorted ++ po cI NA ND pn_63 pm_64 pd_65) := hD
      obtain ⟨u_69, u_70, u_71, hc_72, h⟩ := ck_b3_s h
      have hPc := hP
      have hDc := hD
      have hFc := pw_free hDc hS hA
      refine va_callv (va_runV (As := [.ref (NA 199), .ref (NA r_67)]) (rest := []) ⟨hx, hb, hml, hown, hts⟩ (c_R_divisor l dC dI cI cJ cB cZ cT cN H.size ha NA ND m_rows m_columns m_prime m_small m_pivots m_freeRows m_freeColumns m_smallMinor m_fields m_rowCounts m_elements m_numbers m_known m_ranks m_rankOf m_signOf m_order m_sizes m_coefficients m_choices m_sorted pn_63 pm_64 pd_65 199 r_67 _ hc_72) (cwV 2 hts (tb_V tw_544 tw_546 tp_28 tw_6 tw_547) rfl rfl rfl (by decide +kernel) ⟨Nat.le_of_ble_eq_true rfl, Nat.le_of_ble_eq_true rfl⟩) ⟨fun a U g mk q => by obtain ⟨q0, q1, qP, qK, qN, qD⟩ := q; exact ⟨q0, q1, qP, va_K.moved (u := U) (U := U.calling g mk a) (Vm.Alike.refl U.vm) qK, qN.same rfl, qD⟩, va_recv hK hPc (ci := 6) (q0 := 0) rfl rfl, fun U hU hW => ⟨rfl, by rw [hU], by rw [hU]; exact hPc, va_K.moved hW.alike hK, hN.warm hW, hDc.weaken (fun _ _ _ _ => trivial)⟩⟩ rfl rfl hl.1 rfl (lv_room (Nat.le_of_ble_eq_true rfl)) d_Mo_shorten_28 ⟨Nat.zero_le _, Nat.zero_le _⟩) hS (fun q _ h => hFc q h) hFc (fun u t H1 locs ht hvm hw hB hz1 hk1 hS => ?_)
      replace hw := hw.symm
      subst hw
      obtain ⟨hP1, -, hD1⟩ := hB
      rw [ht] at hP1
      have hP : va_P (dC, dI) cl_all (xw cI cJ cB cZ cN ha NA m_rows m_columns m_prime m_small m_pivots m_freeRows m_freeColumns m_smallMinor m_fields m_rowCounts m_elements m_numbers m_known m_ranks m_rankOf m_signOf m_order m_sizes m_coefficients m_choices m_sorted ++ po cI NA ND u_69 u_70 u_71) H1 := hP1
      have hD : va_D A (xw cI cJ cB cZ cN ha NA m_rows m_columns m_prime m_small m_pivots m_freeRows m_freeColumns m_smallMinor m_fields m_rowCounts m_elements m_numbers m_known m_ranks m_rankOf m_signOf m_order m_sizes m_coefficients m_choices m_sorted ++ po cI NA ND u_69 u_70 u_71) := hD1.weaken (fun _ _ _ h => hFc _ h)
      generalize H1 = H at hP hS ⊢
      have hP : va_P (dC, dI) cl_all (xw cI cJ cB cZ cN ha NA m_rows m_columns m_prime m_small m_pivots m_freeRows m_freeColumns m_smallMinor m_fields m_rowCounts m_elements m_numbers m_known m_ranks m_rankOf m_signOf m_order m_sizes m_coefficients m_choices m_sorted ++ po cI NA ND u_69 u_70 u_71) H := hP
      have hD : va_D A (xw cI cJ cB cZ cN ha NA m_rows m_columns m_prime m_small m_pivots m_freeRows m_freeColumns m_smallMinor m_fields m_rowCounts m_elements m_numbers m_known m_ranks m_rankOf m_signOf m_order m_sizes m_coefficients m_choices m_sorted ++ po cI NA ND u_69 u_70 u_71) := hD
      refine lv_aload_n hx hb d_Mo_shorten_31 rfl (lv_at hl 0 rfl) ?_
      refine va_get (D := (dC, dI)) (ci := 6) (v := .ref (NA 199)) (C := "BasisWalkModel") (T := T_Mo) (N := 31) hx hb hts iw1 hown hK hP 0 rfl rfl 7 (by decide) fl0 (fun _ h9 => h9) rfl d_Mo_shorten_32 ?_
      refine lv_aload_n hx hb d_Mo_shorten_35 rfl (lv_at hl 0 rfl) ?_
      refine va_get (D := (dC, dI)) (ci := 6) (v := .ref (NA 196)) (C := "BasisWalkModel") (T := T_Mo) (N := 31) hx hb hts iw1 hown hK hP 0 rfl rfl 4 (by decide) fl7 (fun _ h9 => h9) rfl d_Mo_shorten_36 ?_
      obtain ⟨n_76, h⟩ := ck_p_s h
      obtain ⟨u_73, u_74, u_75, hc_80, h⟩ := ck_b3_s h
      obtain ⟨hPc, hDc⟩ := po_cut (ks := [199, 196]) (ks2 (by decide) (by decide)) (nd2 n_76) hP hD
      have hPc : va_P (dC, dI) cl_all [(NA 199, .inr (5, [.ref (ND 199), .int (u_69 199), .int (u_70 199)])), (ND 199, .inl (cI, 160, .inl (u_71 199))), (NA 196, .inr (5, [.ref (ND 196), .int (u_69 196), .int (u_70 196)])), (ND 196, .inl (cI, 160, .inl (u_71 196)))] H := hPc
      have hDc : va_D A [(NA 199, .inr (5, [.ref (ND 199), .int (u_69 199), .int (u_70 199)])), (ND 199, .inl (cI, 160, .inl (u_71 199))), (NA 196, .inr (5, [.ref (ND 196), .int (u_69 196), .int (u_70 196)])), (ND 196, .inl (cI, 160, .inl (u_71 196)))] := hDc
      have hFc := pw_free hDc hS hA
      refine va_callv (va_runV (As := [.ref (NA 196)]) (rest := []) ⟨hx, hb, hml, hown, hts⟩ (c_N_copy l dC dI cI cJ cB cZ cT cN H.size (NA 199) (NA 196) (ND 199) (ND 196) (u_69 199) (u_70 199) 160 (u_71 199) (u_69 196) (u_70 196) 160 (u_71 196) _ hc_80) (cwV 1 hts (tb_V tw_510 tw_511 tw_512 tw_7 tw_513) rfl rfl rfl (by decide +kernel) ⟨Nat.le_of_ble_eq_true rfl, Nat.le_of_ble_eq_true rfl⟩) ⟨fun a U g mk q => by obtain ⟨q0, q1, qP, qK, qN, qD⟩ := q; exact ⟨q0, q1, qP, va_K.moved (u := U) (U := U.calling g mk a) (Vm.Alike.refl U.vm) qK, qN.same rfl, qD⟩, va_recv hK hPc (ci := 5) (q0 := 0) rfl rfl, fun U hU hW => ⟨rfl, by rw [hU], by rw [hU]; exact hPc, va_K.moved hW.alike hK, hN.warm hW, hDc.weaken (fun _ _ _ _ => trivial)⟩⟩ rfl rfl hl.1 rfl (lv_room (Nat.le_of_ble_eq_true rfl)) d_Mo_shorten_39 ⟨Nat.zero_le _, Nat.zero_le _⟩) hS (fun q _ h => hFc q h) hFc (fun u t H1 locs ht hvm hw hB hz1 hk1 hS => ?_)
      replace hw := hw.symm
      subst hw
      obtain ⟨hP1, -, hD1⟩ := hB
      rw [ht] at hP1
      obtain ⟨pn_77, epn_77⟩ : ∃ y : Nat → Int32, y = (upd u_69 199 u_73) := ⟨_, rfl⟩
      replace h := ck_nm_s h epn_77
      obtain ⟨pm_78, epm_78⟩ : ∃ y : Nat → Int32, y = (upd u_70 199 u_74) := ⟨_, rfl⟩
      replace h := ck_nm_s h epm_78
      obtain ⟨pd_79, epd_79⟩ : ∃ y : Nat → Nat → Int32, y = (va_up u_71 199 u_75) := ⟨_, rfl⟩
      replace h := ck_nm_s h epd_79
      have fq_81 : pn_77 199 = u_73 := by simp [epn_77, upd, va_up, n_76, Ne.symm n_76]
      have fq_82 : pm_78 199 = u_74 := by simp [epm_78, upd, va_up, n_76, Ne.symm n_76]
      have fq_83 : pd_79 199 = u_75 := by simp [epd_79, upd, va_up, n_76, Ne.symm n_76]
      have fq_84 : pn_77 196 = u_69 196 := by simp [epn_77, upd, va_up, n_76, Ne.symm n_76]
      have fq_85 : pm_78 196 = u_70 196 := by simp [epm_78, upd, va_up, n_76, Ne.symm n_76]
      have fq_86 : pd_79 196 = u_71 196 := by simp [epd_79, upd, va_up, n_76, Ne.symm n_76]
      obtain ⟨hP, hD⟩ := po_back (ks := [199, 196]) (pn' := pn_77) (pm' := pm_78) (pd' := pd_79) (ks2 (by decide) (by decide)) hP hD hk1 (by show va_P (dC, dI) cl_all [(NA 199, .inr (5, [.ref (ND 199), .int (pn_77 199), .int (pm_78 199)])), (ND 199, .inl (cI, 160, .inl (pd_79 199))), (NA 196, .inr (5, [.ref (ND 196), .int (pn_77 196), .int (pm_78 196)])), (ND 196, .inl (cI, 160, .inl (pd_79 196)))] H1; rw [fq_81, fq_82, fq_83, fq_84, fq_85, fq_86]; exact hP1) (fun j hj => by simp only [List.mem_cons, List.not_mem_nil, or_false, not_or] at hj; exact ⟨by simp [epn_77, upd, va_up, hj], by simp [epm_78, upd, va_up, hj], by simp [epd_79, upd, va_up, hj]⟩)
      generalize H1 = H at hP hS ⊢
      have hP : va_P (dC, dI) cl_all (xw cI cJ cB cZ cN ha NA m_rows m_columns m_prime m_small m_pivots m_freeRows m_freeColumns m_smallMinor m_fields m_rowCounts m_elements m_numbers m_known m_ranks m_rankOf m_signOf m_order m_sizes m_coefficients m_choices m_sorted ++ po cI NA ND pn_77 pm_78 pd_79) H := hP
      have hD : va_D A (xw cI cJ cB cZ cN ha NA m_rows m_columns m_prime m_small m_pivots m_freeRows m_freeColumns m_smallMinor m_fields m_rowCounts m_elements m_numbers m_known m_ranks m_rankOf m_signOf m_order m_sizes m_coefficients m_choices m_sorted ++ po cI NA ND pn_77 pm_78 pd_79) := hD
      obtain ⟨x_87, ex_87⟩ : ∃ y : Int32, y = v2_62 + 1 := ⟨_, rfl⟩
      replace h := ck_nm_s h ex_87
      refine lv_iinc (v := x_87) (lv' := [(2, .int x_87), (0, .ref (ha 0)), (1, .int i0)]) hx hb d_Mo_shorten_42 hl (k := 2) rfl (by rw [ex_87]; rfl) (by decide) rfl (fun ls hl => ?_)
      refine lv_goto (tgt := 9) hx hb d_Mo_shorten_45 (by decide) ?_
      exact J_9 _ _ _ _ h _ _ hP hD hS _ (lv_sub hl [1, 2, 0] rfl)
theorem d_Mo_take_0 : decode prog_7_method_8_code 0 = .ok (.aload_n 0, 1) := by decide +kernel
theorem d_Mo_take_1 : decode prog_7_method_8_code 1 = .ok (.getfield 38, 3) := by decide +kernel
theorem d_Mo_take_4 : decode prog_7_method_8_code 4 = .ok (.ifCond .le 120, 3) := by decide +kernel
theorem d_Mo_take_7 : decode prog_7_method_8_code 7 = .ok (.aload_n 0, 1) := by decide +kernel
theorem d_Mo_take_8 : decode prog_7_method_8_code 8 = .ok (.getfield 55, 3) := by decide +kernel
theorem d_Mo_take_11 : decode prog_7_method_8_code 11 = .ok (.bipush 12, 2) := by decide +kernel
theorem d_Mo_take_13 : decode prog_7_method_8_code 13 = .ok (.iload_n 1, 1) := by decide +kernel
theorem d_Mo_take_14 : decode prog_7_method_8_code 14 = .ok (.imul, 1) := by decide +kernel
theorem d_Mo_take_15 : decode prog_7_method_8_code 15 = .ok (.iload_n 3, 1) := by decide +kernel
theorem d_Mo_take_16 : decode prog_7_method_8_code 16 = .ok (.iadd, 1) := by decide +kernel
theorem d_Mo_take_17 : decode prog_7_method_8_code 17 = .ok (.iaload, 1) := by decide +kernel
theorem d_Mo_take_18 : decode prog_7_method_8_code 18 = .ok (.aload_n 0, 1) := by decide +kernel
theorem d_Mo_take_19 : decode prog_7_method_8_code 19 = .ok (.aload_n 0, 1) := by decide +kernel
theorem d_Mo_take_20 : decode prog_7_method_8_code 20 = .ok (.getfield 55, 3) := by decide +kernel
theorem d_Mo_take_23 : decode prog_7_method_8_code 23 = .ok (.bipush 12, 2) := by decide +kernel
theorem d_Mo_take_25 : decode prog_7_method_8_code 25 = .ok (.iload_n 2, 1) := by decide +kernel
theorem d_Mo_take_26 : decode prog_7_method_8_code 26 = .ok (.imul, 1) := by decide +kernel
theorem d_Mo_take_27 : decode prog_7_method_8_code 27 = .ok (.iload_n 3, 1) := by decide +kernel
theorem d_Mo_take_28 : decode prog_7_method_8_code 28 = .ok (.iadd, 1) := by decide +kernel
theorem d_Mo_take_29 : decode prog_7_method_8_code 29 = .ok (.iaload, 1) := by decide +kernel
theorem d_Mo_take_30 : decode prog_7_method_8_code 30 = .ok (.invokevirtual 61, 3) := by decide +kernel
theorem d_Mo_take_33 : decode prog_7_method_8_code 33 = .ok (.imul, 1) := by decide +kernel
theorem d_Mo_take_34 : decode prog_7_method_8_code 34 = .ok (.aload_n 0, 1) := by decide +kernel
theorem d_Mo_take_35 : decode prog_7_method_8_code 35 = .ok (.getfield 38, 3) := by decide +kernel
theorem d_Mo_take_38 : decode prog_7_method_8_code 38 = .ok (.irem, 1) := by decide +kernel
theorem d_Mo_take_39 : decode prog_7_method_8_code 39 = .ok (.istore 4, 2) := by decide +kernel
theorem d_Mo_take_41 : decode prog_7_method_8_code 41 = .ok (.iconst 0, 1) := by decide +kernel
theorem d_Mo_take_42 : decode prog_7_method_8_code 42 = .ok (.istore 5, 2) := by decide +kernel
theorem d_Mo_take_44 : decode prog_7_method_8_code 44 = .ok (.iload 5, 2) := by decide +kernel
theorem d_Mo_take_46 : decode prog_7_method_8_code 46 = .ok (.aload_n 0, 1) := by decide +kernel
theorem d_Mo_take_47 : decode prog_7_method_8_code 47 = .ok (.getfield 41, 3) := by decide +kernel
theorem d_Mo_take_50 : decode prog_7_method_8_code 50 = .ok (.if_icmp .ge 73, 3) := by decide +kernel
theorem d_Mo_take_53 : decode prog_7_method_8_code 53 = .ok (.aload_n 0, 1) := by decide +kernel
theorem d_Mo_take_54 : decode prog_7_method_8_code 54 = .ok (.getfield 55, 3) := by decide +kernel
theorem d_Mo_take_57 : decode prog_7_method_8_code 57 = .ok (.bipush 12, 2) := by decide +kernel
theorem d_Mo_take_59 : decode prog_7_method_8_code 59 = .ok (.iload_n 1, 1) := by decide +kernel
theorem d_Mo_take_60 : decode prog_7_method_8_code 60 = .ok (.imul, 1) := by decide +kernel
theorem d_Mo_take_61 : decode prog_7_method_8_code 61 = .ok (.iload 5, 2) := by decide +kernel
theorem d_Mo_take_63 : decode prog_7_method_8_code 63 = .ok (.iadd, 1) := by decide +kernel
theorem d_Mo_take_64 : decode prog_7_method_8_code 64 = .ok (.iaload, 1) := by decide +kernel
theorem d_Mo_take_65 : decode prog_7_method_8_code 65 = .ok (.iload 4, 2) := by decide +kernel
theorem d_Mo_take_67 : decode prog_7_method_8_code 67 = .ok (.aload_n 0, 1) := by decide +kernel
theorem d_Mo_take_68 : decode prog_7_method_8_code 68 = .ok (.getfield 55, 3) := by decide +kernel
theorem d_Mo_take_71 : decode prog_7_method_8_code 71 = .ok (.bipush 12, 2) := by decide +kernel
theorem d_Mo_take_73 : decode prog_7_method_8_code 73 = .ok (.iload_n 2, 1) := by decide +kernel
theorem d_Mo_take_74 : decode prog_7_method_8_code 74 = .ok (.imul, 1) := by decide +kernel
theorem d_Mo_take_75 : decode prog_7_method_8_code 75 = .ok (.iload 5, 2) := by decide +kernel
theorem d_Mo_take_77 : decode prog_7_method_8_code 77 = .ok (.iadd, 1) := by decide +kernel
theorem d_Mo_take_78 : decode prog_7_method_8_code 78 = .ok (.iaload, 1) := by decide +kernel
theorem d_Mo_take_79 : decode prog_7_method_8_code 79 = .ok (.imul, 1) := by decide +kernel
theorem d_Mo_take_80 : decode prog_7_method_8_code 80 = .ok (.aload_n 0, 1) := by decide +kernel
theorem d_Mo_take_81 : decode prog_7_method_8_code 81 = .ok (.getfield 38, 3) := by decide +kernel
theorem d_Mo_take_84 : decode prog_7_method_8_code 84 = .ok (.irem, 1) := by decide +kernel
theorem d_Mo_take_85 : decode prog_7_method_8_code 85 = .ok (.isub, 1) := by decide +kernel
theorem d_Mo_take_86 : decode prog_7_method_8_code 86 = .ok (.istore 6, 2) := by decide +kernel
theorem d_Mo_take_88 : decode prog_7_method_8_code 88 = .ok (.aload_n 0, 1) := by decide +kernel
theorem d_Mo_take_89 : decode prog_7_method_8_code 89 = .ok (.getfield 55, 3) := by decide +kernel
theorem d_Mo_take_92 : decode prog_7_method_8_code 92 = .ok (.bipush 12, 2) := by decide +kernel
theorem d_Mo_take_94 : decode prog_7_method_8_code 94 = .ok (.iload_n 1, 1) := by decide +kernel
theorem d_Mo_take_95 : decode prog_7_method_8_code 95 = .ok (.imul, 1) := by decide +kernel
theorem d_Mo_take_96 : decode prog_7_method_8_code 96 = .ok (.iload 5, 2) := by decide +kernel
theorem d_Mo_take_98 : decode prog_7_method_8_code 98 = .ok (.iadd, 1) := by decide +kernel
theorem d_Mo_take_99 : decode prog_7_method_8_code 99 = .ok (.iload 6, 2) := by decide +kernel
theorem d_Mo_take_101 : decode prog_7_method_8_code 101 = .ok (.ifCond .ge 13, 3) := by decide +kernel
theorem d_Mo_take_104 : decode prog_7_method_8_code 104 = .ok (.iload 6, 2) := by decide +kernel
theorem d_Mo_take_106 : decode prog_7_method_8_code 106 = .ok (.aload_n 0, 1) := by decide +kernel
theorem d_Mo_take_107 : decode prog_7_method_8_code 107 = .ok (.getfield 38, 3) := by decide +kernel
theorem d_Mo_take_110 : decode prog_7_method_8_code 110 = .ok (.iadd, 1) := by decide +kernel
theorem d_Mo_take_111 : decode prog_7_method_8_code 111 = .ok (.goto 5, 3) := by decide +kernel
theorem d_Mo_take_114 : decode prog_7_method_8_code 114 = .ok (.iload 6, 2) := by decide +kernel
theorem d_Mo_take_116 : decode prog_7_method_8_code 116 = .ok (.iastore, 1) := by decide +kernel
theorem d_Mo_take_117 : decode prog_7_method_8_code 117 = .ok (.iinc 5 1, 3) := by decide +kernel
theorem d_Mo_take_120 : decode prog_7_method_8_code 120 = .ok (.goto (-76), 3) := by decide +kernel
theorem d_Mo_take_123 : decode prog_7_method_8_code 123 = .ok (.return_, 1) := by decide +kernel
theorem d_Mo_take_124 : decode prog_7_method_8_code 124 = .ok (.aload_n 0, 1) := by decide +kernel
theorem d_Mo_take_125 : decode prog_7_method_8_code 125 = .ok (.getfield 65, 3) := by decide +kernel
theorem d_Mo_take_128 : decode prog_7_method_8_code 128 = .ok (.aload_n 0, 1) := by decide +kernel
theorem d_Mo_take_129 : decode prog_7_method_8_code 129 = .ok (.iload_n 2, 1) := by decide +kernel
theorem d_Mo_take_130 : decode prog_7_method_8_code 130 = .ok (.iload_n 3, 1) := by decide +kernel
theorem d_Mo_take_131 : decode prog_7_method_8_code 131 = .ok (.invokevirtual 47, 3) := by decide +kernel
theorem d_Mo_take_134 : decode prog_7_method_8_code 134 = .ok (.invokevirtual 7, 3) := by decide +kernel
theorem d_Mo_take_137 : decode prog_7_method_8_code 137 = .ok (.aload_n 0, 1) := by decide +kernel
theorem d_Mo_take_138 : decode prog_7_method_8_code 138 = .ok (.getfield 68, 3) := by decide +kernel
theorem d_Mo_take_141 : decode prog_7_method_8_code 141 = .ok (.aload_n 0, 1) := by decide +kernel
theorem d_Mo_take_142 : decode prog_7_method_8_code 142 = .ok (.iload_n 1, 1) := by decide +kernel
theorem d_Mo_take_143 : decode prog_7_method_8_code 143 = .ok (.iload_n 3, 1) := by decide +kernel
theorem d_Mo_take_144 : decode prog_7_method_8_code 144 = .ok (.invokevirtual 47, 3) := by decide +kernel
theorem d_Mo_take_147 : decode prog_7_method_8_code 147 = .ok (.invokevirtual 7, 3) := by decide +kernel
theorem d_Mo_take_150 : decode prog_7_method_8_code 150 = .ok (.iconst 0, 1) := by decide +kernel
theorem d_Mo_take_151 : decode prog_7_method_8_code 151 = .ok (.istore 4, 2) := by decide +kernel
theorem d_Mo_take_153 : decode prog_7_method_8_code 153 = .ok (.iload 4, 2) := by decide +kernel
theorem d_Mo_take_155 : decode prog_7_method_8_code 155 = .ok (.aload_n 0, 1) := by decide +kernel
theorem d_Mo_take_156 : decode prog_7_method_8_code 156 = .ok (.getfield 41, 3) := by decide +kernel
theorem d_Mo_take_159 : decode prog_7_method_8_code 159 = .ok (.if_icmp .ge 63, 3) := by decide +kernel
theorem d_Mo_take_162 : decode prog_7_method_8_code 162 = .ok (.aload_n 0, 1) := by decide +kernel
theorem d_Mo_take_163 : decode prog_7_method_8_code 163 = .ok (.getfield 58, 3) := by decide +kernel
theorem d_Mo_take_166 : decode prog_7_method_8_code 166 = .ok (.aload_n 0, 1) := by decide +kernel
theorem d_Mo_take_167 : decode prog_7_method_8_code 167 = .ok (.iload_n 1, 1) := by decide +kernel
theorem d_Mo_take_168 : decode prog_7_method_8_code 168 = .ok (.iload 4, 2) := by decide +kernel
theorem d_Mo_take_170 : decode prog_7_method_8_code 170 = .ok (.invokevirtual 47, 3) := by decide +kernel
theorem d_Mo_take_173 : decode prog_7_method_8_code 173 = .ok (.aload_n 0, 1) := by decide +kernel
theorem d_Mo_take_174 : decode prog_7_method_8_code 174 = .ok (.getfield 65, 3) := by decide +kernel
theorem d_Mo_take_177 : decode prog_7_method_8_code 177 = .ok (.invokevirtual 71, 3) := by decide +kernel
theorem d_Mo_take_180 : decode prog_7_method_8_code 180 = .ok (.aload_n 0, 1) := by decide +kernel
theorem d_Mo_take_181 : decode prog_7_method_8_code 181 = .ok (.getfield 27, 3) := by decide +kernel
theorem d_Mo_take_184 : decode prog_7_method_8_code 184 = .ok (.aload_n 0, 1) := by decide +kernel
theorem d_Mo_take_185 : decode prog_7_method_8_code 185 = .ok (.iload_n 2, 1) := by decide +kernel
theorem d_Mo_take_186 : decode prog_7_method_8_code 186 = .ok (.iload 4, 2) := by decide +kernel
theorem d_Mo_take_188 : decode prog_7_method_8_code 188 = .ok (.invokevirtual 47, 3) := by decide +kernel
theorem d_Mo_take_191 : decode prog_7_method_8_code 191 = .ok (.aload_n 0, 1) := by decide +kernel
theorem d_Mo_take_192 : decode prog_7_method_8_code 192 = .ok (.getfield 68, 3) := by decide +kernel
theorem d_Mo_take_195 : decode prog_7_method_8_code 195 = .ok (.invokevirtual 71, 3) := by decide +kernel
theorem d_Mo_take_198 : decode prog_7_method_8_code 198 = .ok (.aload_n 0, 1) := by decide +kernel
theorem d_Mo_take_199 : decode prog_7_method_8_code 199 = .ok (.iload_n 1, 1) := by decide +kernel
theorem d_Mo_take_200 : decode prog_7_method_8_code 200 = .ok (.iload 4, 2) := by decide +kernel
theorem d_Mo_take_202 : decode prog_7_method_8_code 202 = .ok (.invokevirtual 47, 3) := by decide +kernel
theorem d_Mo_take_205 : decode prog_7_method_8_code 205 = .ok (.aload_n 0, 1) := by decide +kernel
theorem d_Mo_take_206 : decode prog_7_method_8_code 206 = .ok (.getfield 58, 3) := by decide +kernel
theorem d_Mo_take_209 : decode prog_7_method_8_code 209 = .ok (.aload_n 0, 1) := by decide +kernel
theorem d_Mo_take_210 : decode prog_7_method_8_code 210 = .ok (.getfield 27, 3) := by decide +kernel
theorem d_Mo_take_213 : decode prog_7_method_8_code 213 = .ok (.invokevirtual 75, 3) := by decide +kernel
theorem d_Mo_take_216 : decode prog_7_method_8_code 216 = .ok (.iinc 4 1, 3) := by decide +kernel
theorem d_Mo_take_219 : decode prog_7_method_8_code 219 = .ok (.goto (-66), 3) := by decide +kernel
theorem d_Mo_take_222 : decode prog_7_method_8_code 222 = .ok (.aload_n 0, 1) := by decide +kernel
theorem d_Mo_take_223 : decode prog_7_method_8_code 223 = .ok (.iload_n 1, 1) := by decide +kernel
theorem d_Mo_take_224 : decode prog_7_method_8_code 224 = .ok (.invokevirtual 78, 3) := by decide +kernel
theorem d_Mo_take_227 : decode prog_7_method_8_code 227 = .ok (.return_, 1) := by decide +kernel
def f_R_take (m_columns : Int32) (m_prime : Int32) (m_small : Nat → Int32) (pn : Nat → Int32) (pm : Nat → Int32) (pd : Nat → Nat → Int32) (i0 : Int32) (k0 : Int32) (col0 : Int32) : Option ((Nat → Int32) × (Nat → Int32) × (Nat → Int32) × (Nat → Nat → Int32)) :=
  ck_if (m_prime ≤ 0) (ck_b1 (f_R_at k0 col0) <| fun r_2 => ck_p (197 ≠ r_2) <| ck_b3 (f_N_copy 160 (pd 197) (pn r_2) (pm r_2) 160 (pd r_2)) <| fun u_4 u_5 u_6 => ck_nm (upd pn 197 u_4) <| fun pn_8 => ck_nm (upd pm 197 u_5) <| fun pm_9 => ck_nm (va_up pd 197 u_6) <| fun pd_10 => ck_b1 (f_R_at i0 col0) <| fun r_18 => ck_p (198 ≠ r_18) <| ck_b3 (f_N_copy 160 (pd_10 198) (pn_8 r_18) (pm_9 r_18) 160 (pd_10 r_18)) <| fun u_20 u_21 u_22 => ck_nm (upd pn_8 198 u_20) <| fun pn_24 => ck_nm (upd pm_9 198 u_21) <| fun pm_25 => ck_nm (va_up pd_10 198 u_22) <| fun pd_26 => ck_jn (fun (pn_34 : Nat → Int32) (pm_35 : Nat → Int32) (pd_36 : Nat → Nat → Int32) => ck_b3 (f_R_shorten m_columns pn_34 pm_35 pd_36 i0) <| fun u_37 u_38 u_39 => some (m_small, u_37, u_38, u_39)) <| fun k_222 => lo4 (fun k_153 (v4_41 : Int32) (pn_42 : Nat → Int32) (pm_43 : Nat → Int32) (pd_44 : Nat → Nat → Int32) => ck_if (m_columns ≤ v4_41) (k_222 pn_42 pm_43 pd_44) (ck_b1 (f_R_at i0 v4_41) <| fun r_46 => ck_p (192 ≠ r_46 ∧ 192 ≠ 197 ∧ r_46 ≠ 197) <| ck_b3 (f_N_product 160 (pd_44 192) (pn_42 r_46) (pm_43 r_46) 160 (pd_44 r_46) (pn_42 197) (pm_43 197) 160 (pd_44 197)) <| fun u_48 u_49 u_50 => ck_nm (upd pn_42 192 u_48) <| fun pn_52 => ck_nm (upd pm_43 192 u_49) <| fun pm_53 => ck_nm (va_up pd_44 192 u_50) <| fun pd_54 => ck_b1 (f_R_at k0 v4_41) <| fun r_65 => ck_p (193 ≠ r_65 ∧ 193 ≠ 198 ∧ r_65 ≠ 198) <| ck_b3 (f_N_product 160 (pd_54 193) (pn_52 r_65) (pm_53 r_65) 160 (pd_54 r_65) (pn_52 198) (pm_53 198) 160 (pd_54 198)) <| fun u_67 u_68 u_69 => ck_nm (upd pn_52 193 u_67) <| fun pn_71 => ck_nm (upd pm_53 193 u_68) <| fun pm_72 => ck_nm (va_up pd_54 193 u_69) <| fun pd_73 => ck_b1 (f_R_at i0 v4_41) <| fun r_84 => ck_p (r_84 ≠ 192 ∧ r_84 ≠ 193 ∧ 192 ≠ 193) <| ck_b3 (f_N_less 160 (pd_73 r_84) (pn_71 192) (pm_72 192) 160 (pd_73 192) (pn_71 193) (pm_72 193) 160 (pd_73 193)) <| fun u_86 u_87 u_88 => ck_nm (upd pn_71 r_84 u_86) <| fun pn_90 => ck_nm (upd pm_72 r_84 u_87) <| fun pm_91 => ck_nm (va_up pd_73 r_84 u_88) <| fun pd_92 => ck_nm (v4_41 + 1) <| fun x_103 => k_153 x_103 pn_90 pm_91 pd_92)) ck_F 0 pn_24 pm_25 pd_26) (ck_in ((12 * i0) + col0) 156 <| ck_in ((12 * k0) + col0) 156 <| ck_b1 (f_R_inverse m_prime (m_small ((12 * k0) + col0).toNatClampNeg)) <| fun r_106 => ck_nz m_prime <| ck_nm (((m_small ((12 * i0) + col0).toNatClampNeg) * r_106) - ((m_small ((12 * i0) + col0).toNatClampNeg) * r_106) / m_prime * m_prime) <| fun x_109 => lo2 (fun k_44 (v5_110 : Int32) (w_111 : Nat → Int32) => ck_if (m_columns ≤ v5_110) (some (w_111, pn, pm, pd)) (ck_in ((12 * i0) + v5_110) 156 <| ck_in ((12 * k0) + v5_110) 156 <| ck_nz m_prime <| ck_nm ((w_111 ((12 * i0) + v5_110).toNatClampNeg) - ((x_109 * (w_111 ((12 * k0) + v5_110).toNatClampNeg)) - (x_109 * (w_111 ((12 * k0) + v5_110).toNatClampNeg)) / m_prime * m_prime)) <| fun x_116 => ck_jn (fun (s0_117 : Int32) => ck_in ((12 * i0) + v5_110) 156 <| ck_nm (v5_110 + 1) <| fun x_119 => k_44 x_119 (upd w_111 ((12 * i0) + v5_110).toNatClampNeg s0_117)) <| fun k_116 => ck_if (0 ≤ x_116) (k_116 x_116) (k_116 (x_116 + m_prime)))) ck_F 0 m_small)
set_option maxHeartbeats 4000000 in
set_option maxRecDepth 100000 in
theorem c_R_take (l : Launch) (dC : Nat → ClassId) (dI : Nat → Nat → Nat) (cI cJ cB cZ cT cN : ClassId) (sz : Nat) (ha NA ND : Nat → Nat) (m_rows : Int32) (m_columns : Int32) (m_prime : Int32) (m_small : Nat → Int32) (m_pivots : Nat → Int32) (m_freeRows : Nat → Int32) (m_freeColumns : Nat → Int32) (m_smallMinor : Nat → Int32) (m_fields : Nat → Int32) (m_rowCounts : Nat → Int32) (m_elements : Nat → Int32) (m_numbers : Nat → Int32) (m_known : Nat → Int32) (m_ranks : Nat → Int32) (m_rankOf : Nat → Int32) (m_signOf : Nat → Int32) (m_order : Nat → Int32) (m_sizes : Nat → Int32) (m_coefficients : Nat → Int64) (m_choices : Nat → Int64) (m_sorted : Nat → Int32) (pn : Nat → Int32) (pm : Nat → Int32) (pd : Nat → Nat → Int32) (i0 : Int32) (k0 : Int32) (col0 : Int32) (r : (Nat → Int32) × (Nat → Int32) × (Nat → Int32) × (Nat → Nat → Int32)) (h : f_R_take m_columns m_prime m_small pn pm pd i0 k0 col0 = some r) : Met l y_Mo_take w_Mo_take ({ frames := 5, cells := 0, slots := 0, locals := 124 } : Room) (va_Pc [.ref (ha 0), .int i0, .int k0, .int col0] (fun U => U.heap.size = sz ∧ va_P (dC, dI) cl_all (xw cI cJ cB cZ cN ha NA m_rows m_columns m_prime m_small m_pivots m_freeRows m_freeColumns m_smallMinor m_fields m_rowCounts m_elements m_numbers m_known m_ranks m_rankOf m_signOf m_order m_sizes m_coefficients m_choices m_sorted ++ po cI NA ND pn pm pd) U.heap ∧ va_K (dC, dI) cl_all [(cI, .int), (cJ, .long), (cB, .byte), (cZ, .boolean), (cT, .object "BasisWalk$Table"), (cN, .object "BasisWalkModel$Num")] U ∧ NW U ∧ va_D (fun _ => True) (xw cI cJ cB cZ cN ha NA m_rows m_columns m_prime m_small m_pivots m_freeRows m_freeColumns m_smallMinor m_fields m_rowCounts m_elements m_numbers m_known m_ranks m_rankOf m_signOf m_order m_sizes m_coefficients m_choices m_sorted ++ po cI NA ND pn pm pd))) (va_Qv (fun u : (Nat → Int32) × (Nat → Int32) × (Nat → Int32) × (Nat → Nat → Int32) => u = r) (fun (u : (Nat → Int32) × (Nat → Int32) × (Nat → Int32) × (Nat → Nat → Int32)) (t : State) => va_P (dC, dI) cl_all (xw cI cJ cB cZ cN ha NA m_rows m_columns m_prime u.1 m_pivots m_freeRows m_freeColumns m_smallMinor m_fields m_rowCounts m_elements m_numbers m_known m_ranks m_rankOf m_signOf m_order m_sizes m_coefficients m_choices m_sorted ++ po cI NA ND u.2.1 u.2.2.1 u.2.2.2) t.heap ∧ va_K (dC, dI) cl_all [(cI, .int), (cJ, .long), (cB, .byte), (cZ, .boolean), (cT, .object "BasisWalk$Table"), (cN, .object "BasisWalkModel$Num")] t ∧ va_D (va_A (xw cI cJ cB cZ cN ha NA m_rows m_columns m_prime m_small m_pivots m_freeRows m_freeColumns m_smallMinor m_fields m_rowCounts m_elements m_numbers m_known m_ranks m_rankOf m_signOf m_order m_sizes m_coefficients m_choices m_sorted ++ po cI NA ND pn pm pd) sz) (xw cI cJ cB cZ cN ha NA m_rows m_columns m_prime u.1 m_pivots m_freeRows m_freeColumns m_smallMinor m_fields m_rowCounts m_elements m_numbers m_known m_ranks m_rankOf m_signOf m_order m_sizes m_coefficients m_choices m_sorted ++ po cI NA ND u.2.1 u.2.2.1 u.2.2.2)) (va_A (xw cI cJ cB cZ cN ha NA m_rows m_columns m_prime m_small m_pivots m_freeRows m_freeColumns m_smallMinor m_fields m_rowCounts m_elements m_numbers m_known m_ranks m_rankOf m_signOf m_order m_sizes m_coefficients m_choices m_sorted ++ po cI NA ND pn pm pd) sz)) 0 0 (va_A (xw cI cJ cB cZ cN ha NA m_rows m_columns m_prime m_small m_pivots m_freeRows m_freeColumns m_smallMinor m_fields m_rowCounts m_elements m_numbers m_known m_ranks m_rankOf m_signOf m_order m_sizes m_coefficients m_choices m_sorted ++ po cI NA ND pn pm pd) sz) := by
  refine Met.ofW (cc := prog_7_method_8_code) (maxL := 7) (ret := (Option.none : Option Jvm.ClassFile.FieldType)) (by decide) rfl ?_
  intro p e s m args below meth c s₁ B hml hv
  obtain ⟨hAR, hsz, hP, hK, hN, hD0⟩ := hv
  have hx := B.exec
  have hb := B.bytes
  have hr := B.returns
  have hts := atoms_spec (ws := w_Mo_take) B.pre
  have hown : s.vm.findClass "BasisWalkModel" = some m.cls := findClass_of_methodNamed B.named
  have hlocks := B.notSynchronized
  clear B
  subst hsz
  have hD := hD0.self (sz := s.heap.size)
  generalize hAe : va_A (xw cI cJ cB cZ cN ha NA m_rows m_columns m_prime m_small m_pivots m_freeRows m_freeColumns m_smallMinor m_fields m_rowCounts m_elements m_numbers m_known m_ranks m_rankOf m_signOf m_order m_sizes m_coefficients m_choices m_sorted ++ po cI NA ND pn pm pd) s.heap.size = A at hD ⊢
  have hA : ∀ q : Nat, s.heap.size ≤ q → A q := fun q h => by rw [← hAe]; exact Or.inr h
  clear hAe hD0
  have hS : va_S A s.heap s.heap [] := va_S.rf
  have hl := lv_entry ([.ref (ha 0), .int i0, .int k0, .int col0]) (n := 7) (Nat.le_of_ble_eq_true rfl)
  subst hAR
  rw [lg_entry_eq]
  generalize (lg_sl ([.ref (ha 0), .int i0, .int k0, .int col0]) ++ List.replicate (7 - (lg_sl ([.ref (ha 0), .int i0, .int k0, .int col0])).length) Slot.unset).toArray = ls at hl ⊢
  have hl : lv_has ls 7 [(0, .ref (ha 0)), (1, .int i0), (2, .int k0), (3, .int col0)] := hl
  change W p l e ({ frames := 5, cells := 0, slots := 0, locals := 124 } : Room) s m _ below meth c s.heap [] 0 0 _ _
  generalize hARe : ([.ref (ha 0), .int i0, .int k0, .int col0] : List Value).toArray = AR at hts ⊢
  clear hARe
  generalize hQ : MQ below _ AR s 0 0 A = QQ
  have fl0 := hts _ (List.mem_cons_of_mem _ tw_367)
  have iw1 := (fun w hw => List.mem_cons_of_mem _ (in_Mo w hw) : ∀ w ∈ u_ws "BasisWalkModel" T_Mo 31, w ∈ w_Mo_take)
  have fl2 := hts _ (List.mem_cons_of_mem _ tw_360)
  have fl3 := hts _ (List.mem_cons_of_mem _ tw_361)
  have fl4 := hts _ (List.mem_cons_of_mem _ tw_366)
  have fl5 := hts _ (List.mem_cons_of_mem _ tw_355)
  have fl6 := hts _ (List.mem_cons_of_mem _ tw_356)
  have fl7 := hts _ (List.mem_cons_of_mem _ tw_364)
  obtain ⟨H, hHe⟩ : ∃ H : Heap, H = s.heap := ⟨_, rfl⟩
  rw [← hHe] at hP ⊢
  replace hS : va_S A s.heap H [] := by rw [hHe]; exact va_S.rf
  clear hHe
  unfold f_R_take at h
  refine lv_aload_n hx hb d_Mo_take_0 rfl (lv_at hl 0 rfl) ?_
  refine va_get (D := (dC, dI)) (ci := 6) (v := .int m_prime) (C := "BasisWalkModel") (T := T_Mo) (N := 31) hx hb hts iw1 hown hK hP 0 rfl rfl 12 (by decide) fl0 (fun _ h9 => h9) rfl d_Mo_take_1 ?_
  refine lv_if_le (tgt := 124) hx hb d_Mo_take_4 (by decide) (fun c_1 => ?_) (fun c_1 => ?_)
  · replace h := ck_if_t h c_1
    refine lv_aload_n hx hb d_Mo_take_124 rfl (lv_at hl 0 rfl) ?_
    refine va_get (D := (dC, dI)) (ci := 6) (v := .ref (NA 197)) (C := "BasisWalkModel") (T := T_Mo) (N := 31) hx hb hts iw1 hown hK hP 0 rfl rfl 5 (by decide) fl2 (fun _ h9 => h9) rfl d_Mo_take_125 ?_
    refine lv_aload_n hx hb d_Mo_take_128 rfl (lv_at hl 0 rfl) ?_
    refine lv_iload_n hx hb d_Mo_take_129 rfl (lv_at hl 2 rfl) ?_
    refine lv_iload_n hx hb d_Mo_take_130 rfl (lv_at hl 3 rfl) ?_
    obtain ⟨r_2, hc_3, h⟩ := ck_b1_s h
    have hPc := hP
    have hDc := hD
    have hFc := pw_free hDc hS hA
    refine va_callr (va_runV (As := [.int k0, .int col0]) (rest := [.ref (NA 197)]) ⟨hx, hb, hml, hown, hts⟩ (c_R_at l dC dI cI cJ cB cZ cT cN H.size ha NA ND m_rows m_columns m_prime m_small m_pivots m_freeRows m_freeColumns m_smallMinor m_fields m_rowCounts m_elements m_numbers m_known m_ranks m_rankOf m_signOf m_order m_sizes m_coefficients m_choices m_sorted pn pm pd k0 col0 _ hc_3) (cwV 2 hts (tb_V tw_485 tw_487 tp_21 tw_6 tw_488) rfl rfl rfl (by decide +kernel) ⟨Nat.le_of_ble_eq_true rfl, Nat.le_of_ble_eq_true rfl⟩) ⟨fun a U g mk q => by obtain ⟨q0, q1, qP, qK, qN, qD⟩ := q; exact ⟨q0, q1, qP, va_K.moved (u := U) (U := U.calling g mk a) (Vm.Alike.refl U.vm) qK, qN.same rfl, qD⟩, va_recv hK hPc (ci := 6) (q0 := 0) rfl rfl, fun U hU hW => ⟨rfl, by rw [hU], by rw [hU]; exact hPc, va_K.moved hW.alike hK, hN.warm hW, hDc.weaken (fun _ _ _ _ => trivial)⟩⟩ rfl rfl hl.1 rfl (lv_room (Nat.le_of_ble_eq_true rfl)) d_Mo_take_131 ⟨Nat.zero_le _, Nat.zero_le _⟩) hS (fun q _ h => hFc q h) hFc (fun u ra t H1 locs ht hvm hw hB hz1 hk1 hS => ?_)
    replace hw := hw.symm
    subst hw
    obtain ⟨hra, hlr_2, hP1, -, hD1⟩ := hB
    subst hra
    rw [ht] at hP1
    have hP : va_P (dC, dI) cl_all (xw cI cJ cB cZ cN ha NA m_rows m_columns m_prime m_small m_pivots m_freeRows m_freeColumns m_smallMinor m_fields m_rowCounts m_elements m_numbers m_known m_ranks m_rankOf m_signOf m_order m_sizes m_coefficients m_choices m_sorted ++ po cI NA ND pn pm pd) H1 := hP1
    have hD : va_D A (xw cI cJ cB cZ cN ha NA m_rows m_columns m_prime m_small m_pivots m_freeRows m_freeColumns m_smallMinor m_fields m_rowCounts m_elements m_numbers m_known m_ranks m_rankOf m_signOf m_order m_sizes m_coefficients m_choices m_sorted ++ po cI NA ND pn pm pd) := hD1.weaken (fun _ _ _ h => hFc _ h)
    generalize H1 = H at hP hS ⊢
    have hP : va_P (dC, dI) cl_all (xw cI cJ cB cZ cN ha NA m_rows m_columns m_prime m_small m_pivots m_freeRows m_freeColumns m_smallMinor m_fields m_rowCounts m_elements m_numbers m_known m_ranks m_rankOf m_signOf m_order m_sizes m_coefficients m_choices m_sorted ++ po cI NA ND pn pm pd) H := hP
    have hD : va_D A (xw cI cJ cB cZ cN ha NA m_rows m_columns m_prime m_small m_pivots m_freeRows m_freeColumns m_smallMinor m_fields m_rowCounts m_elements m_numbers m_known m_ranks m_rankOf m_signOf m_order m_sizes m_coefficients m_choices m_sorted ++ po cI NA ND pn pm pd) := hD
    obtain ⟨n_7, h⟩ := ck_p_s h
    obtain ⟨u_4, u_5, u_6, hc_11, h⟩ := ck_b3_s h
    obtain ⟨hPc, hDc⟩ := po_cut (ks := [197, r_2]) (ks2 (by decide) hlr_2) (nd2 n_7) hP hD
    have hPc : va_P (dC, dI) cl_all [(NA 197, .inr (5, [.ref (ND 197), .int (pn 197), .int (pm 197)])), (ND 197, .inl (cI, 160, .inl (pd 197))), (NA r_2, .inr (5, [.ref (ND r_2), .int (pn r_2), .int (pm r_2)])), (ND r_2, .inl (cI, 160, .inl (pd r_2)))] H := hPc
    have hDc : va_D A [(NA 197, .inr (5, [.ref (ND 197), .int (pn 197), .int (pm 197)])), (ND 197, .inl (cI, 160, .inl (pd 197))), (NA r_2, .inr (5, [.ref (ND r_2), .int (pn r_2), .int (pm r_2)])), (ND r_2, .inl (cI, 160, .inl (pd r_2)))] := hDc
    have hFc := pw_free hDc hS hA
    refine va_callv (va_runV (As := [.ref (NA r_2)]) (rest := []) ⟨hx, hb, hml, hown, hts⟩ (c_N_copy l dC dI cI cJ cB cZ cT cN H.size (NA 197) (NA r_2) (ND 197) (ND r_2) (pn 197) (pm 197) 160 (pd 197) (pn r_2) (pm r_2) 160 (pd r_2) _ hc_11) (cwV 1 hts (tb_V tw_510 tw_511 tw_512 tw_7 tw_513) rfl rfl rfl (by decide +kernel) ⟨Nat.le_of_ble_eq_true rfl, Nat.le_of_ble_eq_true rfl⟩) ⟨fun a U g mk q => by obtain ⟨q0, q1, qP, qK, qN, qD⟩ := q; exact ⟨q0, q1, qP, va_K.moved (u := U) (U := U.calling g mk a) (Vm.Alike.refl U.vm) qK, qN.same rfl, qD⟩, va_recv hK hPc (ci := 5) (q0 := 0) rfl rfl, fun U hU hW => ⟨rfl, by rw [hU], by rw [hU]; exact hPc, va_K.moved hW.alike hK, hN.warm hW, hDc.weaken (fun _ _ _ _ => trivial)⟩⟩ rfl rfl hl.1 rfl (lv_room (Nat.le_of_ble_eq_true rfl)) d_Mo_take_134 ⟨Nat.zero_le _, Nat.zero_le _⟩) hS (fun q _ h => hFc q h) hFc (fun u t H1 locs ht hvm hw hB hz1 hk1 hS => ?_)
    replace hw := hw.symm
    subst hw
    obtain ⟨hP1, -, hD1⟩ := hB
    rw [ht] at hP1
    obtain ⟨pn_8, epn_8⟩ : ∃ y : Nat → Int32, y = (upd pn 197 u_4) := ⟨_, rfl⟩
    replace h := ck_nm_s h epn_8
    obtain ⟨pm_9, epm_9⟩ : ∃ y : Nat → Int32, y = (upd pm 197 u_5) := ⟨_, rfl⟩
    replace h := ck_nm_s h epm_9
    obtain ⟨pd_10, epd_10⟩ : ∃ y : Nat → Nat → Int32, y = (va_up pd 197 u_6) := ⟨_, rfl⟩
    replace h := ck_nm_s h epd_10
    have fq_12 : pn_8 197 = u_4 := by simp [epn_8, upd, va_up, n_7, Ne.symm n_7]
    have fq_13 : pm_9 197 = u_5 := by simp [epm_9, upd, va_up, n_7, Ne.symm n_7]
    have fq_14 : pd_10 197 = u_6 := by simp [epd_10, upd, va_up, n_7, Ne.symm n_7]
    have fq_15 : pn_8 r_2 = pn r_2 := by simp [epn_8, upd, va_up, n_7, Ne.symm n_7]
    have fq_16 : pm_9 r_2 = pm r_2 := by simp [epm_9, upd, va_up, n_7, Ne.symm n_7]
    have fq_17 : pd_10 r_2 = pd r_2 := by simp [epd_10, upd, va_up, n_7, Ne.symm n_7]
    obtain ⟨hP, hD⟩ := po_back (ks := [197, r_2]) (pn' := pn_8) (pm' := pm_9) (pd' := pd_10) (ks2 (by decide) hlr_2) hP hD hk1 (by show va_P (dC, dI) cl_all [(NA 197, .inr (5, [.ref (ND 197), .int (pn_8 197), .int (pm_9 197)])), (ND 197, .inl (cI, 160, .inl (pd_10 197))), (NA r_2, .inr (5, [.ref (ND r_2), .int (pn_8 r_2), .int (pm_9 r_2)])), (ND r_2, .inl (cI, 160, .inl (pd_10 r_2)))] H1; rw [fq_12, fq_13, fq_14, fq_15, fq_16, fq_17]; exact hP1) (fun j hj => by simp only [List.mem_cons, List.not_mem_nil, or_false, not_or] at hj; exact ⟨by simp [epn_8, upd, va_up, hj], by simp [epm_9, upd, va_up, hj], by simp [epd_10, upd, va_up, hj]⟩)
    generalize H1 = H at hP hS ⊢
    have hP : va_P (dC, dI) cl_all (xw cI cJ cB cZ cN ha NA m_rows m_columns m_prime m_small m_pivots m_freeRows m_freeColumns m_smallMinor m_fields m_rowCounts m_elements m_numbers m_known m_ranks m_rankOf m_signOf m_order m_sizes m_coefficients m_choices m_sorted ++ po cI NA ND pn_8 pm_9 pd_10) H := hP
    have hD : va_D A (xw cI cJ cB cZ cN ha NA m_rows m_columns m_prime m_small m_pivots m_freeRows m_freeColumns m_smallMinor m_fields m_rowCounts m_elements m_numbers m_known m_ranks m_rankOf m_signOf m_order m_sizes m_coefficients m_choices m_sorted ++ po cI NA ND pn_8 pm_9 pd_10) := hD
    refine lv_aload_n hx hb d_Mo_take_137 rfl (lv_at hl 0 rfl) ?_
    refine va_get (D := (dC, dI)) (ci := 6) (v := .ref (NA 198)) (C := "BasisWalkModel") (T := T_Mo) (N := 31) hx hb hts iw1 hown hK hP 0 rfl rfl 6 (by decide) fl3 (fun _ h9 => h9) rfl d_Mo_take_138 ?_
    refine lv_aload_n hx hb d_Mo_take_141 rfl (lv_at hl 0 rfl) ?_
    refine lv_iload_n hx hb d_Mo_take_142 rfl (lv_at hl 1 rfl) ?_
    refine lv_iload_n hx hb d_Mo_take_143 rfl (lv_at hl 3 rfl) ?_
    obtain ⟨r_18, hc_19, h⟩ := ck_b1_s h
    have hPc := hP
    have hDc := hD
    have hFc := pw_free hDc hS hA
    refine va_callr (va_runV (As := [.int i0, .int col0]) (rest := [.ref (NA 198)]) ⟨hx, hb, hml, hown, hts⟩ (c_R_at l dC dI cI cJ cB cZ cT cN H.size ha NA ND m_rows m_columns m_prime m_small m_pivots m_freeRows m_freeColumns m_smallMinor m_fields m_rowCounts m_elements m_numbers m_known m_ranks m_rankOf m_signOf m_order m_sizes m_coefficients m_choices m_sorted pn_8 pm_9 pd_10 i0 col0 _ hc_19) (cwV 2 hts (tb_V tw_485 tw_487 tp_21 tw_6 tw_488) rfl rfl rfl (by decide +kernel) ⟨Nat.le_of_ble_eq_true rfl, Nat.le_of_ble_eq_true rfl⟩) ⟨fun a U g mk q => by obtain ⟨q0, q1, qP, qK, qN, qD⟩ := q; exact ⟨q0, q1, qP, va_K.moved (u := U) (U := U.calling g mk a) (Vm.Alike.refl U.vm) qK, qN.same rfl, qD⟩, va_recv hK hPc (ci := 6) (q0 := 0) rfl rfl, fun U hU hW => ⟨rfl, by rw [hU], by rw [hU]; exact hPc, va_K.moved hW.alike hK, hN.warm hW, hDc.weaken (fun _ _ _ _ => trivial)⟩⟩ rfl rfl hl.1 rfl (lv_room (Nat.le_of_ble_eq_true rfl)) d_Mo_take_144 ⟨Nat.zero_le _, Nat.zero_le _⟩) hS (fun q _ h => hFc q h) hFc (fun u ra t H1 locs ht hvm hw hB hz1 hk1 hS => ?_)
    replace hw := hw.symm
    subst hw
    obtain ⟨hra, hlr_18, hP1, -, hD1⟩ := hB
    subst hra
    rw [ht] at hP1
    have hP : va_P (dC, dI) cl_all (xw cI cJ cB cZ cN ha NA m_rows m_columns m_prime m_small m_pivots m_freeRows m_freeColumns m_smallMinor m_fields m_rowCounts m_elements m_numbers m_known m_ranks m_rankOf m_signOf m_order m_sizes m_coefficients m_choices m_sorted ++ po cI NA ND pn_8 pm_9 pd_10) H1 := hP1
    have hD : va_D A (xw cI cJ cB cZ cN ha NA m_rows m_columns m_prime m_small m_pivots m_freeRows m_freeColumns m_smallMinor m_fields m_rowCounts m_elements m_numbers m_known m_ranks m_rankOf m_signOf m_order m_sizes m_coefficients m_choices m_sorted ++ po cI NA ND pn_8 pm_9 pd_10) := hD1.weaken (fun _ _ _ h => hFc _ h)
    generalize H1 = H at hP hS ⊢
    have hP : va_P (dC, dI) cl_all (xw cI cJ cB cZ cN ha NA m_rows m_columns m_prime m_small m_pivots m_freeRows m_freeColumns m_smallMinor m_fields m_rowCounts m_elements m_numbers m_known m_ranks m_rankOf m_signOf m_order m_sizes m_coefficients m_choices m_sorted ++ po cI NA ND pn_8 pm_9 pd_10) H := hP
    have hD : va_D A (xw cI cJ cB cZ cN ha NA m_rows m_columns m_prime m_small m_pivots m_freeRows m_freeColumns m_smallMinor m_fields m_rowCounts m_elements m_numbers m_known m_ranks m_rankOf m_signOf m_order m_sizes m_coefficients m_choices m_sorted ++ po cI NA ND pn_8 pm_9 pd_10) := hD
    obtain ⟨n_23, h⟩ := ck_p_s h
    obtain ⟨u_20, u_21, u_22, hc_27, h⟩ := ck_b3_s h
    obtain ⟨hPc, hDc⟩ := po_cut (ks := [198, r_18]) (ks2 (by decide) hlr_18) (nd2 n_23) hP hD
    have hPc : va_P (dC, dI) cl_all [(NA 198, .inr (5, [.ref (ND 198), .int (pn_8 198), .int (pm_9 198)])), (ND 198, .inl (cI, 160, .inl (pd_10 198))), (NA r_18, .inr (5, [.ref (ND r_18), .int (pn_8 r_18), .int (pm_9 r_18)])), (ND r_18, .inl (cI, 160, .inl (pd_10 r_18)))] H := hPc
    have hDc : va_D A [(NA 198, .inr (5, [.ref (ND 198), .int (pn_8 198), .int (pm_9 198)])), (ND 198, .inl (cI, 160, .inl (pd_10 198))), (NA r_18, .inr (5, [.ref (ND r_18), .int (pn_8 r_18), .int (pm_9 r_18)])), (ND r_18, .inl (cI, 160, .inl (pd_10 r_18)))] := hDc
    have hFc := pw_free hDc hS hA
    refine va_callv (va_runV (As := [.ref (NA r_18)]) (rest := []) ⟨hx, hb, hml, hown, hts⟩ (c_N_copy l dC dI cI cJ cB cZ cT cN H.size (NA 198) (NA r_18) (ND 198) (ND r_18) (pn_8 198) (pm_9 198) 160 (pd_10 198) (pn_8 r_18) (pm_9 r_18) 160 (pd_10 r_18) _ hc_27) (cwV 1 hts (tb_V tw_510 tw_511 tw_512 tw_7 tw_513) rfl rfl rfl (by decide +kernel) ⟨Nat.le_of_ble_eq_true rfl, Nat.le_of_ble_eq_true rfl⟩) ⟨fun a U g mk q => by obtain ⟨q0, q1, qP, qK, qN, qD⟩ := q; exact ⟨q0, q1, qP, va_K.moved (u := U) (U := U.calling g mk a) (Vm.Alike.refl U.vm) qK, qN.same rfl, qD⟩, va_recv hK hPc (ci := 5) (q0 := 0) rfl rfl, fun U hU hW => ⟨rfl, by rw [hU], by rw [hU]; exact hPc, va_K.moved hW.alike hK, hN.warm hW, hDc.weaken (fun _ _ _ _ => trivial)⟩⟩ rfl rfl hl.1 rfl (lv_room (Nat.le_of_ble_eq_true rfl)) d_Mo_take_147 ⟨Nat.zero_le _, Nat.zero_le _⟩) hS (fun q _ h => hFc q h) hFc (fun u t H1 locs ht hvm hw hB hz1 hk1 hS => ?_)
    replace hw := hw.symm
    subst hw
    obtain ⟨hP1, -, hD1⟩ := hB
    rw [ht] at hP1
    obtain ⟨pn_24, epn_24⟩ : ∃ y : Nat → Int32, y = (upd pn_8 198 u_20) := ⟨_, rfl⟩
    replace h := ck_nm_s h epn_24
    obtain ⟨pm_25, epm_25⟩ : ∃ y : Nat → Int32, y = (upd pm_9 198 u_21) := ⟨_, rfl⟩
    replace h := ck_nm_s h epm_25
    obtain ⟨pd_26, epd_26⟩ : ∃ y : Nat → Nat → Int32, y = (va_up pd_10 198 u_22) := ⟨_, rfl⟩
    replace h := ck_nm_s h epd_26
    have fq_28 : pn_24 198 = u_20 := by simp [epn_24, upd, va_up, n_23, Ne.symm n_23]
    have fq_29 : pm_25 198 = u_21 := by simp [epm_25, upd, va_up, n_23, Ne.symm n_23]
    have fq_30 : pd_26 198 = u_22 := by simp [epd_26, upd, va_up, n_23, Ne.symm n_23]
    have fq_31 : pn_24 r_18 = pn_8 r_18 := by simp [epn_24, upd, va_up, n_23, Ne.symm n_23]
    have fq_32 : pm_25 r_18 = pm_9 r_18 := by simp [epm_25, upd, va_up, n_23, Ne.symm n_23]
    have fq_33 : pd_26 r_18 = pd_10 r_18 := by simp [epd_26, upd, va_up, n_23, Ne.symm n_23]
    obtain ⟨hP, hD⟩ := po_back (ks := [198, r_18]) (pn' := pn_24) (pm' := pm_25) (pd' := pd_26) (ks2 (by decide) hlr_18) hP hD hk1 (by show va_P (dC, dI) cl_all [(NA 198, .inr (5, [.ref (ND 198), .int (pn_24 198), .int (pm_25 198)])), (ND 198, .inl (cI, 160, .inl (pd_26 198))), (NA r_18, .inr (5, [.ref (ND r_18), .int (pn_24 r_18), .int (pm_25 r_18)])), (ND r_18, .inl (cI, 160, .inl (pd_26 r_18)))] H1; rw [fq_28, fq_29, fq_30, fq_31, fq_32, fq_33]; exact hP1) (fun j hj => by simp only [List.mem_cons, List.not_mem_nil, or_false, not_or] at hj; exact ⟨by simp [epn_24, upd, va_up, hj], by simp [epm_25, upd, va_up, hj], by simp [epd_26, upd, va_up, hj]⟩)
    generalize H1 = H at hP hS ⊢
    have hP : va_P (dC, dI) cl_all (xw cI cJ cB cZ cN ha NA m_rows m_columns m_prime m_small m_pivots m_freeRows m_freeColumns m_smallMinor m_fields m_rowCounts m_elements m_numbers m_known m_ranks m_rankOf m_signOf m_order m_sizes m_coefficients m_choices m_sorted ++ po cI NA ND pn_24 pm_25 pd_26) H := hP
    have hD : va_D A (xw cI cJ cB cZ cN ha NA m_rows m_columns m_prime m_small m_pivots m_freeRows m_freeColumns m_smallMinor m_fields m_rowCounts m_elements m_numbers m_known m_ranks m_rankOf m_signOf m_order m_sizes m_coefficients m_choices m_sorted ++ po cI NA ND pn_24 pm_25 pd_26) := hD
    refine lv_iconst (v := 0) hx hb d_Mo_take_150 (by decide) ?_
    refine lv_istore (lv' := [(4, .int 0), (0, .ref (ha 0)), (1, .int i0), (2, .int k0), (3, .int col0)]) hx hb d_Mo_take_151 hl (by decide) rfl (fun ls hl => ?_)
    refine ck_jn_W h (fun k' => ∀ (pn_34 : Nat → Int32) (pm_35 : Nat → Int32) (pd_36 : Nat → Nat → Int32), k' pn_34 pm_35 pd_36 = some r → ∀ (H : Heap) (locs : List Loc), va_P (dC, dI) cl_all (xw cI cJ cB cZ cN ha NA m_rows m_columns m_prime m_small m_pivots m_freeRows m_freeColumns m_smallMinor m_fields m_rowCounts m_elements m_numbers m_known m_ranks m_rankOf m_signOf m_order m_sizes m_coefficients m_choices m_sorted ++ po cI NA ND pn_34 pm_35 pd_36) H → va_D A (xw cI cJ cB cZ cN ha NA m_rows m_columns m_prime m_small m_pivots m_freeRows m_freeColumns m_smallMinor m_fields m_rowCounts m_elements m_numbers m_known m_ranks m_rankOf m_signOf m_order m_sizes m_coefficients m_choices m_sorted ++ po cI NA ND pn_34 pm_35 pd_36) → va_S A s.heap H locs → ∀ ls : Array Slot, lv_has ls 7 [(0, .ref (ha 0)), (1, .int i0)] → W p l e ({ frames := 5, cells := 0, slots := 0, locals := 124 } : Room) s m AR below meth c H locs 0 0 QQ (F0 m 222 ls [])) ?_ ?_
    · intro pn_34 pm_35 pd_36 h H locs hP hD hS ls hl
      refine lv_aload_n hx hb d_Mo_take_222 rfl (lv_at hl 0 rfl) ?_
      refine lv_iload_n hx hb d_Mo_take_223 rfl (lv_at hl 1 rfl) ?_
      obtain ⟨u_37, u_38, u_39, hc_40, h⟩ := ck_b3_s h
      have hPc := hP
      have hDc := hD
      have hFc := pw_free hDc hS hA
      refine va_callv (va_runV (As := [.int i0]) (rest := []) ⟨hx, hb, hml, hown, hts⟩ (c_R_shorten l dC dI cI cJ cB cZ cT cN H.size ha NA ND m_rows m_columns m_prime m_small m_pivots m_freeRows m_freeColumns m_smallMinor m_fields m_rowCounts m_elements m_numbers m_known m_ranks m_rankOf m_signOf m_order m_sizes m_coefficients m_choices m_sorted pn_34 pm_35 pd_36 i0 _ hc_40) (cwV 1 hts (tb_V tw_539 tw_541 tp_27 tw_6 tw_542) rfl rfl rfl (by decide +kernel) ⟨Nat.le_of_ble_eq_true rfl, Nat.le_of_ble_eq_true rfl⟩) ⟨fun a U g mk q => by obtain ⟨q0, q1, qP, qK, qN, qD⟩ := q; exact ⟨q0, q1, qP, va_K.moved (u := U) (U := U.calling g mk a) (Vm.Alike.refl U.vm) qK, qN.same rfl, qD⟩, va_recv hK hPc (ci := 6) (q0 := 0) rfl rfl, fun U hU hW => ⟨rfl, by rw [hU], by rw [hU]; exact hPc, va_K.moved hW.alike hK, hN.warm hW, hDc.weaken (fun _ _ _ _ => trivial)⟩⟩ rfl rfl hl.1 rfl (lv_room (Nat.le_of_ble_eq_true rfl)) d_Mo_take_224 ⟨Nat.zero_le _, Nat.zero_le _⟩) hS (fun q _ h => hFc q h) hFc (fun u t H1 locs ht hvm hw hB hz1 hk1 hS => ?_)
      replace hw := hw.symm
      subst hw
      obtain ⟨hP1, -, hD1⟩ := hB
      rw [ht] at hP1
      have hP : va_P (dC, dI) cl_all (xw cI cJ cB cZ cN ha NA m_rows m_columns m_prime m_small m_pivots m_freeRows m_freeColumns m_smallMinor m_fields m_rowCounts m_elements m_numbers m_known m_ranks m_rankOf m_signOf m_order m_sizes m_coefficients m_choices m_sorted ++ po cI NA ND u_37 u_38 u_39) H1 := hP1
      have hD : va_D A (xw cI cJ cB cZ cN ha NA m_rows m_columns m_prime m_small m_pivots m_freeRows m_freeColumns m_smallMinor m_fields m_rowCounts m_elements m_numbers m_known m_ranks m_rankOf m_signOf m_order m_sizes m_coefficients m_choices m_sorted ++ po cI NA ND u_37 u_38 u_39) := hD1.weaken (fun _ _ _ h => hFc _ h)
      generalize H1 = H at hP hS ⊢
      have hP : va_P (dC, dI) cl_all (xw cI cJ cB cZ cN ha NA m_rows m_columns m_prime m_small m_pivots m_freeRows m_freeColumns m_smallMinor m_fields m_rowCounts m_elements m_numbers m_known m_ranks m_rankOf m_signOf m_order m_sizes m_coefficients m_choices m_sorted ++ po cI NA ND u_37 u_38 u_39) H := hP
      have hD : va_D A (xw cI cJ cB cZ cN ha NA m_rows m_columns m_prime m_small m_pivots m_freeRows m_freeColumns m_smallMinor m_fields m_rowCounts m_elements m_numbers m_known m_ranks m_rankOf m_signOf m_order m_sizes m_coefficients m_choices m_sorted ++ po cI NA ND u_37 u_38 u_39) := hD
      obtain rfl := Option.some.inj h
      subst hQ
      exact W.vret hx hb hr (fun t ht hW => ⟨⟨(m_small, u_37, u_38, u_39), rfl, rfl, by rw [ht]; exact hP, va_K.moved hW.alike hK, hD⟩, hS.F ht⟩) hS.2.2 d_Mo_take_227
    · intro k_222 J_222 h
      refine lo4_W (r := r) (fun (v4_41 : Int32) (pn_42 : Nat → Int32) (pm_43 : Nat → Int32) (pd_44 : Nat → Nat → Int32) => ∀ (H : Heap) (locs : List Loc), va_P (dC, dI) cl_all (xw cI cJ cB cZ cN ha NA m_rows m_columns m_prime m_small m_pivots m_freeRows m_freeColumns m_smallMinor m_fields m_rowCounts m_elements m_numbers m_known m_ranks m_rankOf m_signOf m_order m_sizes m_coefficients m_choices m_sorted ++ po cI NA ND pn_42 pm_43 pd_44) H → va_D A (xw cI cJ cB cZ cN ha NA m_rows m_columns m_prime m_small m_pivots m_freeRows m_freeColumns m_smallMinor m_fields m_rowCounts m_elements m_numbers m_known m_ranks m_rankOf m_signOf m_order m_sizes m_coefficients m_choices m_sorted ++ po cI NA ND pn_42 pm_43 pd_44) → va_S A s.heap H locs → ∀ ls : Array Slot, lv_has ls 7 [(0, .ref (ha 0)), (1, .int i0), (2, .int k0), (4, .int v4_41)] → W p l e ({ frames := 5, cells := 0, slots := 0, locals := 124 } : Room) s m AR below meth c H locs 0 0 QQ (F0 m 153 ls [])) ?_ _ _ _ _ _ h _ _ hP hD hS _ (lv_sub hl [1, 2, 3, 0] rfl)
      intro k_153 v4_41 pn_42 pm_43 pd_44 J_153 h H locs hP hD hS ls hl
      refine lv_iload hx hb d_Mo_take_153 (lv_at hl 3 rfl) ?_
      refine lv_aload_n hx hb d_Mo_take_155 rfl (lv_at hl 0 rfl) ?_
      refine va_get (D := (dC, dI)) (ci := 6) (v := .int m_columns) (C := "BasisWalkModel") (T := T_Mo) (N := 31) hx hb hts iw1 hown hK hP 0 rfl rfl 11 (by decide) fl4 (fun _ h9 => h9) rfl d_Mo_take_156 ?_
      refine lv_icmp_ge (tgt := 222) hx hb d_Mo_take_159 (by decide) (fun c_45 => ?_) (fun c_45 => ?_)
      · replace h := ck_if_t h c_45
        exact J_222 _ _ _ h _ _ hP hD hS _ (lv_sub hl [0, 1] rfl)
      · replace h := ck_if_f h c_45
        refine lv_aload_n hx hb d_Mo_take_162 rfl (lv_at hl 0 rfl) ?_
        refine va_get (D := (dC, dI)) (ci := 6) (v := .ref (NA 192)) (C := "BasisWalkModel") (T := T_Mo) (N := 31) hx hb hts iw1 hown hK hP 0 rfl rfl 0 (by decide) fl5 (fun _ h9 => h9) rfl d_Mo_take_163 ?_
        refine lv_aload_n hx hb d_Mo_take_166 rfl (lv_at hl 0 rfl) ?_
        refine lv_iload_n hx hb d_Mo_take_167 rfl (lv_at hl 1 rfl) ?_
        refine lv_iload hx hb d_Mo_take_168 (lv_at hl 3 rfl) ?_
        obtain ⟨r_46, hc_47, h⟩ := ck_b1_s h
        have hPc := hP
        have hDc := hD
        have hFc := pw_free hDc hS hA
        refine va_callr (va_runV (As := [.int i0, .int v4_41]) (rest := [.ref (NA 192)]) ⟨hx, hb, hml, hown, hts⟩ (c_R_at l dC dI cI cJ cB cZ cT cN H.size ha NA ND m_rows m_columns m_prime m_small m_pivots m_freeRows m_freeColumns m_smallMinor m_fields m_rowCounts m_elements m_numbers m_known m_ranks m_rankOf m_signOf m_order m_sizes m_coefficients m_choices m_sorted pn_42 pm_43 pd_44 i0 v4_41 _ hc_47) (cwV 2 hts (tb_V tw_485 tw_487 tp_21 tw_6 tw_488) rfl rfl rfl (by decide +kernel) ⟨Nat.le_of_ble_eq_true rfl, Nat.le_of_ble_eq_true rfl⟩) ⟨fun a U g mk q => by obtain ⟨q0, q1, qP, qK, qN, qD⟩ := q; exact ⟨q0, q1, qP, va_K.moved (u := U) (U := U.calling g mk a) (Vm.Alike.refl U.vm) qK, qN.same rfl, qD⟩, va_recv hK hPc (ci := 6) (q0 := 0) rfl rfl, fun U hU hW => ⟨rfl, by rw [hU], by rw [hU]; exact hPc, va_K.moved hW.alike hK, hN.warm hW, hDc.weaken (fun _ _ _ _ => trivial)⟩⟩ rfl rfl hl.1 rfl (lv_room (Nat.le_of_ble_eq_true rfl)) d_Mo_take_170 ⟨Nat.zero_le _, Nat.zero_le _⟩) hS (fun q _ h => hFc q h) hFc (fun u ra t H1 locs ht hvm hw hB hz1 hk1 hS => ?_)
        replace hw := hw.symm
        subst hw
        obtain ⟨hra, hlr_46, hP1, -, hD1⟩ := hB
        subst hra
        rw [ht] at hP1
        have hP : va_P (dC, dI) cl_all (xw cI cJ cB cZ cN ha NA m_rows m_columns m_prime m_small m_pivots m_freeRows m_freeColumns m_smallMinor m_fields m_rowCounts m_elements m_numbers m_known m_ranks m_rankOf m_signOf m_order m_sizes m_coefficients m_choices m_sorted ++ po cI NA ND pn_42 pm_43 pd_44) H1 := hP1
        have hD : va_D A (xw cI cJ cB cZ cN ha NA m_rows m_columns m_prime m_small m_pivots m_freeRows m_freeColumns m_smallMinor m_fields m_rowCounts m_elements m_numbers m_known m_ranks m_rankOf m_signOf m_order m_sizes m_coefficients m_choices m_sorted ++ po cI NA ND pn_42 pm_43 pd_44) := hD1.weaken (fun _ _ _ h => hFc _ h)
        generalize H1 = H at hP hS ⊢
        have hP : va_P (dC, dI) cl_all (xw cI cJ cB cZ cN ha NA m_rows m_columns m_prime m_small m_pivots m_freeRows m_freeColumns m_smallMinor m_fields m_rowCounts m_elements m_numbers m_known m_ranks m_rankOf m_signOf m_order m_sizes m_coefficients m_choices m_sorted ++ po cI NA ND pn_42 pm_43 pd_44) H := hP
        have hD : va_D A (xw cI cJ cB cZ cN ha NA m_rows m_columns m_prime m_small m_pivots m_freeRows m_freeColumns m_smallMinor m_fields m_rowCounts m_elements m_numbers m_known m_ranks m_rankOf m_signOf m_order m_sizes m_coefficients m_choices m_sorted ++ po cI NA ND pn_42 pm_43 pd_44) := hD
        refine lv_aload_n hx hb d_Mo_take_173 rfl (lv_at hl 0 rfl) ?_
        refine va_get (D := (dC, dI)) (ci := 6) (v := .ref (NA 197)) (C := "BasisWalkModel") (T := T_Mo) (N := 31) hx hb hts iw1 hown hK hP 0 rfl rfl 5 (by decide) fl2 (fun _ h9 => h9) rfl d_Mo_take_174 ?_
        obtain ⟨n_51, h⟩ := ck_p_s h
        obtain ⟨u_48, u_49, u_50, hc_55, h⟩ := ck_b3_s h
        obtain ⟨hPc, hDc⟩ := po_cut (ks := [192, r_46, 197]) (ks3 (by decide) hlr_46 (by decide)) (nd3 n_51) hP hD
        have hPc : va_P (dC, dI) cl_all [(NA 192, .inr (5, [.ref (ND 192), .int (pn_42 192), .int (pm_43 192)])), (ND 192, .inl (cI, 160, .inl (pd_44 192))), (NA r_46, .inr (5, [.ref (ND r_46), .int (pn_42 r_46), .int (pm_43 r_46)])), (ND r_46, .inl (cI, 160, .inl (pd_44 r_46))), (NA 197, .inr (5, [.ref (ND 197), .int (pn_42 197), .int (pm_43 197)])), (ND 197, .inl (cI, 160, .inl (pd_44 197)))] H := hPc
        have hDc : va_D A [(NA 192, .inr (5, [.ref (ND 192), .int (pn_42 192), .int (pm_43 192)])), (ND 192, .inl (cI, 160, .inl (pd_44 192))), (NA r_46, .inr (5, [.ref (ND r_46), .int (pn_42 r_46), .int (pm_43 r_46)])), (ND r_46, .inl (cI, 160, .inl (pd_44 r_46))), (NA 197, .inr (5, [.ref (ND 197), .int (pn_42 197), .int (pm_43 197)])), (ND 197, .inl (cI, 160, .inl (pd_44 197)))] := hDc
        have hFc := pw_free hDc hS hA
        refine va_callv (va_runV (As := [.ref (NA r_46), .ref (NA 197)]) (rest := []) ⟨hx, hb, hml, hown, hts⟩ (c_N_product l dC dI cI cJ cB cZ cT cN H.size (NA 192) (NA r_46) (NA 197) (ND 192) (ND r_46) (ND 197) (pn_42 192) (pm_43 192) 160 (pd_44 192) (pn_42 r_46) (pm_43 r_46) 160 (pd_44 r_46) (pn_42 197) (pm_43 197) 160 (pd_44 197) _ hc_55) (cwV 2 hts (tb_V tw_522 tw_523 tw_524 tw_7 tw_525) rfl rfl rfl (by decide +kernel) ⟨Nat.le_of_ble_eq_true rfl, Nat.le_of_ble_eq_true rfl⟩) ⟨fun a U g mk q => by obtain ⟨q0, q1, qP, qK, qN, qD⟩ := q; exact ⟨q0, q1, qP, va_K.moved (u := U) (U := U.calling g mk a) (Vm.Alike.refl U.vm) qK, qN.same rfl, qD⟩, va_recv hK hPc (ci := 5) (q0 := 0) rfl rfl, fun U hU hW => ⟨rfl, by rw [hU], by rw [hU]; exact hPc, va_K.moved hW.alike hK, hN.warm hW, hDc.weaken (fun _ _ _ _ => trivial)⟩⟩ rfl rfl hl.1 rfl (lv_room (Nat.le_of_ble_eq_true rfl)) d_Mo_take_177 ⟨Nat.zero_le _, Nat.zero_le _⟩) hS (fun q _ h => hFc q h) hFc (fun u t H1 locs ht hvm hw hB hz1 hk1 hS => ?_)
        replace hw := hw.symm
        subst hw
        obtain ⟨hP1, -, hD1⟩ := hB
        rw [ht] at hP1
        obtain ⟨pn_52, epn_52⟩ : ∃ y : Nat → Int32, y = (upd pn_42 192 u_48) := ⟨_, rfl⟩
        replace h := ck_nm_s h epn_52
        obtain ⟨pm_53, epm_53⟩ : ∃ y : Nat → Int32, y = (upd pm_43 192 u_49) := ⟨_, rfl⟩
        replace h := ck_nm_s h epm_53
        obtain ⟨pd_54, epd_54⟩ : ∃ y : Nat → Nat → Int32, y = (va_up pd_44 192 u_50) := ⟨_, rfl⟩
        replace h := ck_nm_s h epd_54
        have fq_56 : pn_52 192 = u_48 := by simp [epn_52, upd, va_up, n_51.1, Ne.symm n_51.1, n_51.2.1, Ne.symm n_51.2.1, n_51.2.2, Ne.symm n_51.2.2]
        have fq_57 : pm_53 192 = u_49 := by simp [epm_53, upd, va_up, n_51.1, Ne.symm n_51.1, n_51.2.1, Ne.symm n_51.2.1, n_51.2.2, Ne.symm n_51.2.2]
        have fq_58 : pd_54 192 = u_50 := by simp [epd_54, upd, va_up, n_51.1, Ne.symm n_51.1, n_51.2.1, Ne.symm n_51.2.1, n_51.2.2, Ne.symm n_51.2.2]
        have fq_59 : pn_52 r_46 = pn_42 r_46 := by simp [epn_52, upd, va_up, n_51.1, Ne.symm n_51.1, n_51.2.1, Ne.symm n_51.2.1, n_51.2.2, Ne.symm n_51.2.2]
        have fq_60 : pm_53 r_46 = pm_43 r_46 := by simp [epm_53, upd, va_up, n_51.1, Ne.symm n_51.1, n_51.2.1, Ne.symm n_51.2.1, n_51.2.2, Ne.symm n_51.2.2]
        have fq_61 : pd_54 r_46 = pd_44 r_46 := by simp [epd_54, upd, va_up, n_51.1, Ne.symm n_51.1, n_51.2.1, Ne.symm n_51.2.1, n_51.2.2, Ne.symm n_51.2.2]
        have fq_62 : pn_52 197 = pn_42 197 := by simp [epn_52, upd, va_up, n_51.1, Ne.symm n_51.1, n_51.2.1, Ne.symm n_51.2.1, n_51.2.2, Ne.symm n_51.2.2]
        have fq_63 : pm_53 197 = pm_43 197 := by simp [epm_53, upd, va_up, n_51.1, Ne.symm n_51.1, n_51.2.1, Ne.symm n_51.2.1, n_51.2.2, Ne.symm n_51.2.2]
        have fq_64 : pd_54 197 = pd_44 197 := by simp [epd_54, upd, va_up, n_51.1, Ne.symm n_51.1, n_51.2.1, Ne.symm n_51.2.1, n_51.2.2, Ne.symm n_51.2.2]
        obtain ⟨hP, hD⟩ := po_back (ks := [192, r_46, 197]) (pn' := pn_52) (pm' := pm_53) (pd' := pd_54) (ks3 (by decide) hlr_46 (by decide)) hP hD hk1 (by show va_P (dC, dI) cl_all [(NA 192, .inr (5, [.ref (ND 192), .int (pn_52 192), .int (pm_53 192)])), (ND 192, .inl (cI, 160, .inl (pd_54 192))), (NA r_46, .inr (5, [.ref (ND r_46), .int (pn_52 r_46), .int (pm_53 r_46)])), (ND r_46, .inl (cI, 160, .inl (pd_54 r_46))), (NA 197, .inr (5, [.ref (ND 197), .int (pn_52 197), .int (pm_53 197)])), (ND 197, .inl (cI, 160, .inl (pd_54 197)))] H1; rw [fq_56, fq_57, fq_58, fq_59, fq_60, fq_61, fq_62, fq_63, fq_64]; exact hP1) (fun j hj => by simp only [List.mem_cons, List.not_mem_nil, or_false, not_or] at hj; exact ⟨by simp [epn_52, upd, va_up, hj], by simp [epm_53, upd, va_up, hj], by simp [epd_54, upd, va_up, hj]⟩)
        generalize H1 = H at hP hS ⊢
        have hP : va_P (dC, dI) cl_all (xw cI cJ cB cZ cN ha NA m_rows m_columns m_prime m_small m_pivots m_freeRows m_freeColumns m_smallMinor m_fields m_rowCounts m_elements m_numbers m_known m_ranks m_rankOf m_signOf m_order m_sizes m_coefficients m_choices m_sorted ++ po cI NA ND pn_52 pm_53 pd_54) H := hP
        have hD : va_D A (xw cI cJ cB cZ cN ha NA m_rows m_columns m_prime m_small m_pivots m_freeRows m_freeColumns m_smallMinor m_fields m_rowCounts m_elements m_numbers m_known m_ranks m_rankOf m_signOf m_order m_sizes m_coefficients m_choices m_sorted ++ po cI NA ND pn_52 pm_53 pd_54) := hD
        refine lv_aload_n hx hb d_Mo_take_180 rfl (lv_at hl 0 rfl) ?_
        refine va_get (D := (dC, dI)) (ci := 6) (v := .ref (NA 193)) (C := "BasisWalkModel") (T := T_Mo) (N := 31) hx hb hts iw1 hown hK hP 0 rfl rfl 1 (by decide) fl6 (fun _ h9 => h9) rfl d_Mo_take_181 ?_
        refine lv_aload_n hx hb d_Mo_take_184 rfl (lv_at hl 0 rfl) ?_
        refine lv_iload_n hx hb d_Mo_take_185 rfl (lv_at hl 2 rfl) ?_
        refine lv_iload hx hb d_Mo_take_186 (lv_at hl 3 rfl) ?_
        obtain ⟨r_65, hc_66, h⟩ := ck_b1_s h
        have hPc := hP
        have hDc := hD
        have hFc := pw_free hDc hS hA
        refine va_callr (va_runV (As := [.int k0, .int v4_41]) (rest := [.ref (NA 193)]) ⟨hx, hb, hml, hown, hts⟩ (c_R_at l dC dI cI cJ cB cZ cT cN H.size ha NA ND m_rows m_columns m_prime m_small m_pivots m_freeRows m_freeColumns m_smallMinor m_fields m_rowCounts m_elements m_numbers m_known m_ranks m_rankOf m_signOf m_order m_sizes m_coefficients m_choices m_sorted pn_52 pm_53 pd_54 k0 v4_41 _ hc_66) (cwV 2 hts (tb_V tw_485 tw_487 tp_21 tw_6 tw_488) rfl rfl rfl (by decide +kernel) ⟨Nat.le_of_ble_eq_true rfl, Nat.le_of_ble_eq_true rfl⟩) ⟨fun a U g mk q => by obtain ⟨q0, q1, qP, qK, qN, qD⟩ := q; exact ⟨q0, q1, qP, va_K.moved (u := U) (U := U.calling g mk a) (Vm.Alike.refl U.vm) qK, qN.same rfl, qD⟩, va_recv hK hPc (ci := 6) (q0 := 0) rfl rfl, fun U hU hW => ⟨rfl, by rw [hU], by rw [hU]; exact hPc, va_K.moved hW.alike hK, hN.warm hW, hDc.weaken (fun _ _ _ _ => trivial)⟩⟩ rfl rfl hl.1 rfl (lv_room (Nat.le_of_ble_eq_true rfl)) d_Mo_take_188 ⟨Nat.zero_le _, Nat.zero_le _⟩) hS (fun q _ h => hFc q h) hFc (fun u ra t H1 locs ht hvm hw hB hz1 hk1 hS => ?_)
        replace hw := hw.symm
        subst hw
        obtain ⟨hra, hlr_65, hP1, -, hD1⟩ := hB
        subst hra
        rw [ht] at hP1
        have hP : va_P (dC, dI) cl_all (xw cI cJ cB cZ cN ha NA m_rows m_columns m_prime m_small m_pivots m_freeRows m_freeColumns m_smallMinor m_fields m_rowCounts m_elements m_numbers m_known m_ranks m_rankOf m_signOf m_order m_sizes m_coefficients m_choices m_sorted ++ po cI NA ND pn_52 pm_53 pd_54) H1 := hP1
        have hD : va_D A (xw cI cJ cB cZ cN ha NA m_rows m_columns m_prime m_small m_pivots m_freeRows m_freeColumns m_smallMinor m_fields m_rowCounts m_elements m_numbers m_known m_ranks m_rankOf m_signOf m_order m_sizes m_coefficients m_choices m_sorted ++ po cI NA ND pn_52 pm_53 pd_54) := hD1.weaken (fun _ _ _ h => hFc _ h)
        generalize H1 = H at hP hS ⊢
        have hP : va_P (dC, dI) cl_all (xw cI cJ cB cZ cN ha NA m_rows m_columns m_prime m_small m_pivots m_freeRows m_freeColumns m_smallMinor m_fields m_rowCounts m_elements m_numbers m_known m_ranks m_rankOf m_signOf m_order m_sizes m_coefficients m_choices m_sorted ++ po cI NA ND pn_52 pm_53 pd_54) H := hP
        have hD : va_D A (xw cI cJ cB cZ cN ha NA m_rows m_columns m_prime m_small m_pivots m_freeRows m_freeColumns m_smallMinor m_fields m_rowCounts m_elements m_numbers m_known m_ranks m_rankOf m_signOf m_order m_sizes m_coefficients m_choices m_sorted ++ po cI NA ND pn_52 pm_53 pd_54) := hD
        refine lv_aload_n hx hb d_Mo_take_191 rfl (lv_at hl 0 rfl) ?_
        refine va_get (D := (dC, dI)) (ci := 6) (v := .ref (NA 198)) (C := "BasisWalkModel") (T := T_Mo) (N := 31) hx hb hts iw1 hown hK hP 0 rfl rfl 6 (by decide) fl3 (fun _ h9 => h9) rfl d_Mo_take_192 ?_
        obtain ⟨n_70, h⟩ := ck_p_s h
        obtain ⟨u_67, u_68, u_69, hc_74, h⟩ := ck_b3_s h
        obtain ⟨hPc, hDc⟩ := po_cut (ks := [193, r_65, 198]) (ks3 (by decide) hlr_65 (by decide)) (nd3 n_70) hP hD
        have hPc : va_P (dC, dI) cl_all [(NA 193, .inr (5, [.ref (ND 193), .int (pn_52 193), .int (pm_53 193)])), (ND 193, .inl (cI, 160, .inl (pd_54 193))), (NA r_65, .inr (5, [.ref (ND r_65), .int (pn_52 r_65), .int (pm_53 r_65)])), (ND r_65, .inl (cI, 160, .inl (pd_54 r_65))), (NA 198, .inr (5, [.ref (ND 198), .int (pn_52 198), .int (pm_53 198)])), (ND 198, .inl (cI, 160, .inl (pd_54 198)))] H := hPc
        have hDc : va_D A [(NA 193, .inr (5, [.ref (ND 193), .int (pn_52 193), .int (pm_53 193)])), (ND 193, .inl (cI, 160, .inl (pd_54 193))), (NA r_65, .inr (5, [.ref (ND r_65), .int (pn_52 r_65), .int (pm_53 r_65)])), (ND r_65, .inl (cI, 160, .inl (pd_54 r_65))), (NA 198, .inr (5, [.ref (ND 198), .int (pn_52 198), .int (pm_53 198)])), (ND 198, .inl (cI, 160, .inl (pd_54 198)))] := hDc
        have hFc := pw_free hDc hS hA
        refine va_callv (va_runV (As := [.ref (NA r_65), .ref (NA 198)]) (rest := []) ⟨hx, hb, hml, hown, hts⟩ (c_N_product l dC dI cI cJ cB cZ cT cN H.size (NA 193) (NA r_65) (NA 198) (ND 193) (ND r_65) (ND 198) (pn_52 193) (pm_53 193) 160 (pd_54 193) (pn_52 r_65) (pm_53 r_65) 160 (pd_54 r_65) (pn_52 198) (pm_53 198) 160 (pd_54 198) _ hc_74) (cwV 2 hts (tb_V tw_522 tw_523 tw_524 tw_7 tw_525) rfl rfl rfl (by decide +kernel) ⟨Nat.le_of_ble_eq_true rfl, Nat.le_of_ble_eq_true rfl⟩) ⟨fun a U g mk q => by obtain ⟨q0, q1, qP, qK, qN, qD⟩ := q; exact ⟨q0, q1, qP, va_K.moved (u := U) (U := U.calling g mk a) (Vm.Alike.refl U.vm) qK, qN.same rfl, qD⟩, va_recv hK hPc (ci := 5) (q0 := 0) rfl rfl, fun U hU hW => ⟨rfl, by rw [hU], by rw [hU]; exact hPc, va_K.moved hW.alike hK, hN.warm hW, hDc.weaken (fun _ _ _ _ => trivial)⟩⟩ rfl rfl hl.1 rfl (lv_room (Nat.le_of_ble_eq_true rfl)) d_Mo_take_195 ⟨Nat.zero_le _, Nat.zero_le _⟩) hS (fun q _ h => hFc q h) hFc (fun u t H1 locs ht hvm hw hB hz1 hk1 hS => ?_)
        replace hw := hw.symm
        subst hw
        obtain ⟨hP1, -, hD1⟩ := hB
        rw [ht] at hP1
        obtain ⟨pn_71, epn_71⟩ : ∃ y : Nat → Int32, y = (upd pn_52 193 u_67) := ⟨_, rfl⟩
        replace h := ck_nm_s h epn_71
        obtain ⟨pm_72, epm_72⟩ : ∃ y : Nat → Int32, y = (upd pm_53 193 u_68) := ⟨_, rfl⟩
        replace h := ck_nm_s h epm_72
        obtain ⟨pd_73, epd_73⟩ : ∃ y : Nat → Nat → Int32, y = (va_up pd_54 193 u_69) := ⟨_, rfl⟩
        replace h := ck_nm_s h epd_73
        have fq_75 : pn_71 193 = u_67 := by simp [epn_71, upd, va_up, n_70.1, Ne.symm n_70.1, n_70.2.1, Ne.symm n_70.2.1, n_70.2.2, Ne.symm n_70.2.2]
        have fq_76 : pm_72 193 = u_68 := by simp [epm_72, upd, va_up, n_70.1, Ne.symm n_70.1, n_70.2.1, Ne.symm n_70.2.1, n_70.2.2, Ne.symm n_70.2.2]
        have fq_77 : pd_73 193 = u_69 := by simp [epd_73, upd, va_up, n_70.1, Ne.symm n_70.1, n_70.2.1, Ne.symm n_70.2.1, n_70.2.2, Ne.symm n_70.2.2]
        have fq_78 : pn_71 r_65 = pn_52 r_65 := by simp [epn_71, upd, va_up, n_70.1, Ne.symm n_70.1, n_70.2.1, Ne.symm n_70.2.1, n_70.2.2, Ne.symm n_70.2.2]
        have fq_79 : pm_72 r_65 = pm_53 r_65 := by simp [epm_72, upd, va_up, n_70.1, Ne.symm n_70.1, n_70.2.1, Ne.symm n_70.2.1, n_70.2.2, Ne.symm n_70.2.2]
        have fq_80 : pd_73 r_65 = pd_54 r_65 := by simp [epd_73, upd, va_up, n_70.1, Ne.symm n_70.1, n_70.2.1, Ne.symm n_70.2.1, n_70.2.2, Ne.symm n_70.2.2]
        have fq_81 : pn_71 198 = pn_52 198 := by simp [epn_71, upd, va_up, n_70.1, Ne.symm n_70.1, n_70.2.1, Ne.symm n_70.2.1, n_70.2.2, Ne.symm n_70.2.2]
        have fq_82 : pm_72 198 = pm_53 198 := by simp [epm_72, upd, va_up, n_70.1, Ne.symm n_70.1, n_70.2.1, Ne.symm n_70.2.1, n_70.2.2, Ne.symm n_70.2.2]
        have fq_83 : pd_73 198 = pd_54 198 := by simp [epd_73, upd, va_up, n_70.1, Ne.symm n_70.1, n_70.2.1, Ne.symm n_70.2.1, n_70.2.2, Ne.symm n_70.2.2]
        obtain ⟨hP, hD⟩ := po_back (ks := [193, r_65, 198]) (pn' := pn_71) (pm' := pm_72) (pd' := pd_73) (ks3 (by decide) hlr_65 (by decide)) hP hD hk1 (by show va_P (dC, dI) cl_all [(NA 193, .inr (5, [.ref (ND 193), .int (pn_71 193), .int (pm_72 193)])), (ND 193, .inl (cI, 160, .inl (pd_73 193))), (NA r_65, .inr (5, [.ref (ND r_65), .int (pn_71 r_65), .int (pm_72 r_65)])), (ND r_65, .inl (cI, 160, .inl (pd_73 r_65))), (NA 198, .inr (5, [.ref (ND 198), .int (pn_71 198), .int (pm_72 198)])), (ND 198, .inl (cI, 160, .inl (pd_73 198)))] H1; rw [fq_75, fq_76, fq_77, fq_78, fq_79, fq_80, fq_81, fq_82, fq_83]; exact hP1) (fun j hj => by simp only [List.mem_cons, List.not_mem_nil, or_false, not_or] at hj; exact ⟨by simp [epn_71, upd, va_up, hj], by simp [epm_72, upd, va_up, hj], by simp [epd_73, upd, va_up, hj]⟩)
        generalize H1 = H at hP hS ⊢
        have hP : va_P (dC, dI) cl_all (xw cI cJ cB cZ cN ha NA m_rows m_columns m_prime m_small m_pivots m_freeRows m_freeColumns m_smallMinor m_fields m_rowCounts m_elements m_numbers m_known m_ranks m_rankOf m_signOf m_order m_sizes m_coefficients m_choices m_sorted ++ po cI NA ND pn_71 pm_72 pd_73) H := hP
        have hD : va_D A (xw cI cJ cB cZ cN ha NA m_rows m_columns m_prime m_small m_pivots m_freeRows m_freeColumns m_smallMinor m_fields m_rowCounts m_elements m_numbers m_known m_ranks m_rankOf m_signOf m_order m_sizes m_coefficients m_choices m_sorted ++ po cI NA ND pn_71 pm_72 pd_73) := hD
        refine lv_aload_n hx hb d_Mo_take_198 rfl (lv_at hl 0 rfl) ?_
        refine lv_iload_n hx hb d_Mo_take_199 rfl (lv_at hl 1 rfl) ?_
        refine lv_iload hx hb d_Mo_take_200 (lv_at hl 3 rfl) ?_
        obtain ⟨r_84, hc_85, h⟩ := ck_b1_s h
        have hPc := hP
        have hDc := hD
        have hFc := pw_free hDc hS hA
        refine va_callr (va_runV (As := [.int i0, .int v4_41]) (rest := []) ⟨hx, hb, hml, hown, hts⟩ (c_R_at l dC dI cI cJ cB cZ cT cN H.size ha NA ND m_rows m_columns m_prime m_small m_pivots m_freeRows m_freeColumns m_smallMinor m_fields m_rowCounts m_elements m_numbers m_known m_ranks m_rankOf m_signOf m_order m_sizes m_coefficients m_choices m_sorted pn_71 pm_72 pd_73 i0 v4_41 _ hc_85) (cwV 2 hts (tb_V tw_485 tw_487 tp_21 tw_6 tw_488) rfl rfl rfl (by decide +kernel) ⟨Nat.le_of_ble_eq_true rfl, Nat.le_of_ble_eq_true rfl⟩) ⟨fun a U g mk q => by obtain ⟨q0, q1, qP, qK, qN, qD⟩ := q; exact ⟨q0, q1, qP, va_K.moved (u := U) (U := U.calling g mk a) (Vm.Alike.refl U.vm) qK, qN.same rfl, qD⟩, va_recv hK hPc (ci := 6) (q0 := 0) rfl rfl, fun U hU hW => ⟨rfl, by rw [hU], by rw [hU]; exact hPc, va_K.moved hW.alike hK, hN.warm hW, hDc.weaken (fun _ _ _ _ => trivial)⟩⟩ rfl rfl hl.1 rfl (lv_room (Nat.le_of_ble_eq_true rfl)) d_Mo_take_202 ⟨Nat.zero_le _, Nat.zero_le _⟩) hS (fun q _ h => hFc q h) hFc (fun u ra t H1 locs ht hvm hw hB hz1 hk1 hS => ?_)
        replace hw := hw.symm
        subst hw
        obtain ⟨hra, hlr_84, hP1, -, hD1⟩ := hB
        subst hra
        rw [ht] at hP1
        have hP : va_P (dC, dI) cl_all (xw cI cJ cB cZ cN ha NA m_rows m_columns m_prime m_small m_pivots m_freeRows m_freeColumns m_smallMinor m_fields m_rowCounts m_elements m_numbers m_known m_ranks m_rankOf m_signOf m_order m_sizes m_coefficients m_choices m_sorted ++ po cI NA ND pn_71 pm_72 pd_73) H1 := hP1
        have hD : va_D A (xw cI cJ cB cZ cN ha NA m_rows m_columns m_prime m_small m_pivots m_freeRows m_freeColumns m_smallMinor m_fields m_rowCounts m_elements m_numbers m_known m_ranks m_rankOf m_signOf m_order m_sizes m_coefficients m_choices m_sorted ++ po cI NA ND pn_71 pm_72 pd_73) := hD1.weaken (fun _ _ _ h => hFc _ h)
        generalize H1 = H at hP hS ⊢
        have hP : va_P (dC, dI) cl_all (xw cI cJ cB cZ cN ha NA m_rows m_columns m_prime m_small m_pivots m_freeRows m_freeColumns m_smallMinor m_fields m_rowCounts m_elements m_numbers m_known m_ranks m_rankOf m_signOf m_order m_sizes m_coefficients m_choices m_sorted ++ po cI NA ND pn_71 pm_72 pd_73) H := hP
        have hD : va_D A (xw cI cJ cB cZ cN ha NA m_rows m_columns m_prime m_small m_pivots m_freeRows m_freeColumns m_smallMinor m_fields m_rowCounts m_elements m_numbers m_known m_ranks m_rankOf m_signOf m_order m_sizes m_coefficients m_choices m_sorted ++ po cI NA ND pn_71 pm_72 pd_73) := hD
        refine lv_aload_n hx hb d_Mo_take_205 rfl (lv_at hl 0 rfl) ?_
        refine va_get (D := (dC, dI)) (ci := 6) (v := .ref (NA 192)) (C := "BasisWalkModel") (T := T_Mo) (N := 31) hx hb hts iw1 hown hK hP 0 rfl rfl 0 (by decide) fl5 (fun _ h9 => h9) rfl d_Mo_take_206 ?_
        refine lv_aload_n hx hb d_Mo_take_209 rfl (lv_at hl 0 rfl) ?_
        refine va_get (D := (dC, dI)) (ci := 6) (v := .ref (NA 193)) (C := "BasisWalkModel") (T := T_Mo) (N := 31) hx hb hts iw1 hown hK hP 0 rfl rfl 1 (by decide) fl6 (fun _ h9 => h9) rfl d_Mo_take_210 ?_
        obtain ⟨n_89, h⟩ := ck_p_s h
        obtain ⟨u_86, u_87, u_88, hc_93, h⟩ := ck_b3_s h
        obtain ⟨hPc, hDc⟩ := po_cut (ks := [r_84, 192, 193]) (ks3 hlr_84 (by decide) (by decide)) (nd3 n_89) hP hD
        have hPc : va_P (dC, dI) cl_all [(NA r_84, .inr (5, [.ref (ND r_84), .int (pn_71 r_84), .int (pm_72 r_84)])), (ND r_84, .inl (cI, 160, .inl (pd_73 r_84))), (NA 192, .inr (5, [.ref (ND 192), .int (pn_71 192), .int (pm_72 192)])), (ND 192, .inl (cI, 160, .inl (pd_73 192))), (NA 193, .inr (5, [.ref (ND 193), .int (pn_71 193), .int (pm_72 193)])), (ND 193, .inl (cI, 160, .inl (pd_73 193)))] H := hPc
        have hDc : va_D A [(NA r_84, .inr (5, [.ref (ND r_84), .int (pn_71 r_84), .int (pm_72 r_84)])), (ND r_84, .inl (cI, 160, .inl (pd_73 r_84))), (NA 192, .inr (5, [.ref (ND 192), .int (pn_71 192), .int (pm_72 192)])), (ND 192, .inl (cI, 160, .inl (pd_73 192))), (NA 193, .inr (5, [.ref (ND 193), .int (pn_71 193), .int (pm_72 193)])), (ND 193, .inl (cI, 160, .inl (pd_73 193)))] := hDc
        have hFc := pw_free hDc hS hA
        refine va_callv (va_runV (As := [.ref (NA 192), .ref (NA 193)]) (rest := []) ⟨hx, hb, hml, hown, hts⟩ (c_N_less l dC dI cI cJ cB cZ cT cN H.size (NA r_84) (NA 192) (NA 193) (ND r_84) (ND 192) (ND 193) (pn_71 r_84) (pm_72 r_84) 160 (pd_73 r_84) (pn_71 192) (pm_72 192) 160 (pd_73 192) (pn_71 193) (pm_72 193) 160 (pd_73 193) _ hc_93) (cwV 2 hts (tb_V tw_530 tw_531 tw_532 tw_7 tw_533) rfl rfl rfl (by decide +kernel) ⟨Nat.le_of_ble_eq_true rfl, Nat.le_of_ble_eq_true rfl⟩) ⟨fun a U g mk q => by obtain ⟨q0, q1, qP, qK, qN, qD⟩ := q; exact ⟨q0, q1, qP, va_K.moved (u := U) (U := U.calling g mk a) (Vm.Alike.refl U.vm) qK, qN.same rfl, qD⟩, va_recv hK hPc (ci := 5) (q0 := 0) rfl rfl, fun U hU hW => ⟨rfl, by rw [hU], by rw [hU]; exact hPc, va_K.moved hW.alike hK, hN.warm hW, hDc.weaken (fun _ _ _ _ => trivial)⟩⟩ rfl rfl hl.1 rfl (lv_room (Nat.le_of_ble_eq_true rfl)) d_Mo_take_213 ⟨Nat.zero_le _, Nat.zero_le _⟩) hS (fun q _ h => hFc q h) hFc (fun u t H1 locs ht hvm hw hB hz1 hk1 hS => ?_)
        replace hw := hw.symm
        subst hw
        obtain ⟨hP1, -, hD1⟩ := hB
        rw [ht] at hP1
        obtain ⟨pn_90, epn_90⟩ : ∃ y : Nat → Int32, y = (upd pn_71 r_84 u_86) := ⟨_, rfl⟩
        replace h := ck_nm_s h epn_90
        obtain ⟨pm_91, epm_91⟩ : ∃ y : Nat → Int32, y = (upd pm_72 r_84 u_87) := ⟨_, rfl⟩
        replace h := ck_nm_s h epm_91
        obtain ⟨pd_92, epd_92⟩ : ∃ y : Nat → Nat → Int32, y = (va_up pd_73 r_84 u_88) := ⟨_, rfl⟩
        replace h := ck_nm_s h epd_92
        have fq_94 : pn_90 r_84 = u_86 := by simp [epn_90, upd, va_up, n_89.1, Ne.symm n_89.1, n_89.2.1, Ne.symm n_89.2.1, n_89.2.2, Ne.symm n_89.2.2]
        have fq_95 : pm_91 r_84 = u_87 := by simp [epm_91, upd, va_up, n_89.1, Ne.symm n_89.1, n_89.2.1, Ne.symm n_89.2.1, n_89.2.2, Ne.symm n_89.2.2]
        have fq_96 : pd_92 r_84 = u_88 := by simp [epd_92, upd, va_up, n_89.1, Ne.symm n_89.1, n_89.2.1, Ne.symm n_89.2.1, n_89.2.2, Ne.symm n_89.2.2]
        have fq_97 : pn_90 192 = pn_71 192 := by simp [epn_90, upd, va_up, n_89.1, Ne.symm n_89.1, n_89.2.1, Ne.symm n_89.2.1, n_89.2.2, Ne.symm n_89.2.2]
        have fq_98 : pm_91 192 = pm_72 192 := by simp [epm_91, upd, va_up, n_89.1, Ne.symm n_89.1, n_89.2.1, Ne.symm n_89.2.1, n_89.2.2, Ne.symm n_89.2.2]
        have fq_99 : pd_92 192 = pd_73 192 := by simp [epd_92, upd, va_up, n_89.1, Ne.symm n_89.1, n_89.2.1, Ne.symm n_89.2.1, n_89.2.2, Ne.symm n_89.2.2]
        have fq_100 : pn_90 193 = pn_71 193 := by simp [epn_90, upd, va_up, n_89.1, Ne.symm n_89.1, n_89.2.1, Ne.symm n_89.2.1, n_89.2.2, Ne.symm n_89.2.2]
        have fq_101 : pm_91 193 = pm_72 193 := by simp [epm_91, upd, va_up, n_89.1, Ne.symm n_89.1, n_89.2.1, Ne.symm n_89.2.1, n_89.2.2, Ne.symm n_89.2.2]
        have fq_102 : pd_92 193 = pd_73 193 := by simp [epd_92, upd, va_up, n_89.1, Ne.symm n_89.1, n_89.2.1, Ne.symm n_89.2.1, n_89.2.2, Ne.symm n_89.2.2]
        obtain ⟨hP, hD⟩ := po_back (ks := [r_84, 192, 193]) (pn' := pn_90) (pm' := pm_91) (pd' := pd_92) (ks3 hlr_84 (by decide) (by decide)) hP hD hk1 (by show va_P (dC, dI) cl_all [(NA r_84, .inr (5, [.ref (ND r_84), .int (pn_90 r_84), .int (pm_91 r_84)])), (ND r_84, .inl (cI, 160, .inl (pd_92 r_84))), (NA 192, .inr (5, [.ref (ND 192), .int (pn_90 192), .int (pm_91 192)])), (ND 192, .inl (cI, 160, .inl (pd_92 192))), (NA 193, .inr (5, [.ref (ND 193), .int (pn_90 193), .int (pm_91 193)])), (ND 193, .inl (cI, 160, .inl (pd_92 193)))] H1; rw [fq_94, fq_95, fq_96, fq_97, fq_98, fq_99, fq_100, fq_101, fq_102]; exact hP1) (fun j hj => by simp only [List.mem_cons, List.not_mem_nil, or_false, not_or] at hj; exact ⟨by simp [epn_90, upd, va_up, hj], by simp [epm_91, upd, va_up, hj], by simp [epd_92, upd, va_up, hj]⟩)
        generalize H1 = H at hP hS ⊢
        have hP : va_P (dC, dI) cl_all (xw cI cJ cB cZ cN ha NA m_rows m_columns m_prime m_small m_pivots m_freeRows m_freeColumns m_smallMinor m_fields m_rowCounts m_elements m_numbers m_known m_ranks m_rankOf m_signOf m_order m_sizes m_coefficients m_choices m_sorted ++ po cI NA ND pn_90 pm_91 pd_92) H := hP
        have hD : va_D A (xw cI cJ cB cZ cN ha NA m_rows m_columns m_prime m_small m_pivots m_freeRows m_freeColumns m_smallMinor m_fields m_rowCounts m_elements m_numbers m_known m_ranks m_rankOf m_signOf m_order m_sizes m_coefficients m_choices m_sorted ++ po cI NA ND pn_90 pm_91 pd_92) := hD
        obtain ⟨x_103, ex_103⟩ : ∃ y : Int32, y = v4_41 + 1 := ⟨_, rfl⟩
        replace h := ck_nm_s h ex_103
        refine lv_iinc (v := x_103) (lv' := [(4, .int x_103), (0, .ref (ha 0)), (1, .int i0), (2, .int k0)]) hx hb d_Mo_take_216 hl (k := 3) rfl (by rw [ex_103]; rfl) (by decide) rfl (fun ls hl => ?_)
        refine lv_goto (tgt := 153) hx hb d_Mo_take_219 (by decide) ?_
        exact J_153 _ _ _ _ h _ _ hP hD hS _ (lv_sub hl [1, 2, 3, 0] rfl)
  · replace h := ck_if_f h c_1
    refine lv_aload_n hx hb d_Mo_take_7 rfl (lv_at hl 0 rfl) ?_
    refine va_get (D := (dC, dI)) (ci := 6) (v := .ref (ha 2)) (C := "BasisWalkModel") (T := T_Mo) (N := 31) hx hb hts iw1 hown hK hP 0 rfl rfl 9 (by decide) fl7 (fun _ h9 => h9) rfl d_Mo_take_8 ?_
    refine lv_bipush (v := 12) hx hb d_Mo_take_11 (by decide) ?_
    refine lv_iload_n hx hb d_Mo_take_13 rfl (lv_at hl 1 rfl) ?_
    refine lv_imul hx hb d_Mo_take_14 ?_
    refine lv_iload_n hx hb d_Mo_take_15 rfl (lv_at hl 3 rfl) ?_
    refine lv_iadd hx hb d_Mo_take_16 ?_
    obtain ⟨g_104, h⟩ := ck_in_s h
    refine va_iald hx hb hK hP 2 0 rfl rfl g_104 d_Mo_take_17 ?_
    refine lv_aload_n hx hb d_Mo_take_18 rfl (lv_at hl 0 rfl) ?_
    refine lv_aload_n hx hb d_Mo_take_19 rfl (lv_at hl 0 rfl) ?_
    refine va_get (D := (dC, dI)) (ci := 6) (v := .ref (ha 2)) (C := "BasisWalkModel") (T := T_Mo) (N := 31) hx hb hts iw1 hown hK hP 0 rfl rfl 9 (by decide) fl7 (fun _ h9 => h9) rfl d_Mo_take_20 ?_
    refine lv_bipush (v := 12) hx hb d_Mo_take_23 (by decide) ?_
    refine lv_iload_n hx hb d_Mo_take_25 rfl (lv_at hl 2 rfl) ?_
    refine lv_imul hx hb d_Mo_take_26 ?_
    refine lv_iload_n hx hb d_Mo_take_27 rfl (lv_at hl 3 rfl) ?_
    refine lv_iadd hx hb d_Mo_take_28 ?_
    obtain ⟨g_105, h⟩ := ck_in_s h
    refine va_iald hx hb hK hP 2 0 rfl rfl g_105 d_Mo_take_29 ?_
    obtain ⟨r_106, hc_107, h⟩ := ck_b1_s h
    have hPc := hP.sub (ws' := [((ha 0), .inr (6, [.ref (NA 192), .ref (NA 193), .ref (NA 194), .ref (NA 195), .ref (NA 196), .ref (NA 197), .ref (NA 198), .ref (NA 199), .ref (ha 1), .ref (ha 2), .int m_rows, .int m_columns, .int m_prime, .ref (ha 3), .ref (ha 4), .ref (ha 5), .ref (ha 6), .ref (ha 7), .ref (ha 8), .ref (ha 9), .ref (ha 10), .ref (ha 11), .ref (ha 12), .ref (ha 13), .ref (ha 14), .ref (ha 15), .ref (ha 16), .ref (ha 17), .ref (ha 18), .ref (ha 19), .ref (ha 20)]))]) [0] rfl
    have hDc := hD.sub (ws' := [((ha 0), .inr (6, [.ref (NA 192), .ref (NA 193), .ref (NA 194), .ref (NA 195), .ref (NA 196), .ref (NA 197), .ref (NA 198), .ref (NA 199), .ref (ha 1), .ref (ha 2), .int m_rows, .int m_columns, .int m_prime, .ref (ha 3), .ref (ha 4), .ref (ha 5), .ref (ha 6), .ref (ha 7), .ref (ha 8), .ref (ha 9), .ref (ha 10), .ref (ha 11), .ref (ha 12), .ref (ha 13), .ref (ha 14), .ref (ha 15), .ref (ha 16), .ref (ha 17), .ref (ha 18), .ref (ha 19), .ref (ha 20)]))]) [0] (by decide) rfl
    have hFc := va_free (wc := [((ha 0), .inr (6, [.ref (NA 192), .ref (NA 193), .ref (NA 194), .ref (NA 195), .ref (NA 196), .ref (NA 197), .ref (NA 198), .ref (NA 199), .ref (ha 1), .ref (ha 2), .int m_rows, .int m_columns, .int m_prime, .ref (ha 3), .ref (ha 4), .ref (ha 5), .ref (ha 6), .ref (ha 7), .ref (ha 8), .ref (ha 9), .ref (ha 10), .ref (ha 11), .ref (ha 12), .ref (ha 13), .ref (ha 14), .ref (ha 15), .ref (ha 16), .ref (ha 17), .ref (ha 18), .ref (ha 19), .ref (ha 20)]))]) hD hS hA [0] rfl
    refine va_calli (va_runV (As := [.int (m_small ((12 * k0) + col0).toNatClampNeg)]) (rest := [.int (m_small ((12 * i0) + col0).toNatClampNeg)]) ⟨hx, hb, hml, hown, hts⟩ (c_R_inverse l dC dI cI cJ cB cZ cT cN H.size (ha 0) (NA 192) (NA 193) (NA 194) (NA 195) (NA 196) (NA 197) (NA 198) (NA 199) (ha 1) (ha 2) (ha 3) (ha 4) (ha 5) (ha 6) (ha 7) (ha 8) (ha 9) (ha 10) (ha 11) (ha 12) (ha 13) (ha 14) (ha 15) (ha 16) (ha 17) (ha 18) (ha 19) (ha 20) m_rows m_columns m_prime (m_small ((12 * k0) + col0).toNatClampNeg) _ hc_107) (cwV 1 hts (tb_V tw_518 tw_520 tp_26 tw_6 tw_521) rfl rfl rfl (by decide +kernel) ⟨Nat.le_of_ble_eq_true rfl, Nat.le_of_ble_eq_true rfl⟩) ⟨fun a U g mk q => by obtain ⟨q0, q1, qP, qK, qN, qD⟩ := q; exact ⟨q0, q1, qP, va_K.moved (u := U) (U := U.calling g mk a) (Vm.Alike.refl U.vm) qK, qN.same rfl, qD⟩, va_recv hK hPc (ci := 6) (q0 := 0) rfl rfl, fun U hU hW => ⟨rfl, by rw [hU], by rw [hU]; exact hPc, va_K.moved hW.alike hK, hN.warm hW, hDc.weaken (fun _ _ _ _ => trivial)⟩⟩ rfl rfl hl.1 rfl (lv_room (Nat.le_of_ble_eq_true rfl)) d_Mo_take_30 ⟨Nat.zero_le _, Nat.zero_le _⟩) hS (fun q _ h => hFc q h) hFc (fun rr u t H1 locs ht hvm hw hB hz1 hk1 hS => ?_)
    replace hw := hw.symm
    subst hw
    obtain ⟨hP1, -, hD1⟩ := hB
    rw [ht] at hP1
    obtain ⟨hP, hD⟩ := pw_back (ws' := (xw cI cJ cB cZ cN ha NA m_rows m_columns m_prime m_small m_pivots m_freeRows m_freeColumns m_smallMinor m_fields m_rowCounts m_elements m_numbers m_known m_ranks m_rankOf m_signOf m_order m_sizes m_coefficients m_choices m_sorted ++ po cI NA ND pn pm pd)) (w1 := [((ha 0), .inr (6, [.ref (NA 192), .ref (NA 193), .ref (NA 194), .ref (NA 195), .ref (NA 196), .ref (NA 197), .ref (NA 198), .ref (NA 199), .ref (ha 1), .ref (ha 2), .int m_rows, .int m_columns, .int m_prime, .ref (ha 3), .ref (ha 4), .ref (ha 5), .ref (ha 6), .ref (ha 7), .ref (ha 8), .ref (ha 9), .ref (ha 10), .ref (ha 11), .ref (ha 12), .ref (ha 13), .ref (ha 14), .ref (ha 15), .ref (ha 16), .ref (ha 17), .ref (ha 18), .ref (ha 19), .ref (ha 20)]))]) hP hD hk1 hP1 (fun k => match k with | 0 => rfl | 1 => rfl | 2 => rfl | 3 => rfl | 4 => rfl | 5 => rfl | 6 => rfl | 7 => rfl | 8 => rfl | 9 => rfl | 10 => rfl | 11 => rfl | 12 => rfl | 13 => rfl | 14 => rfl | 15 => rfl | 16 => rfl | 17 => rfl | 18 => rfl | 19 => rfl | 20 => rfl | q + 21 => rfl) (fun k q hq => match k, hq with | 0, hq => Or.inl ⟨0, hq⟩ | 1, hq => Or.inr ⟨hq, pw_off (k := 1) hD [0] rfl hq (by decide)⟩ | 2, hq => Or.inr ⟨hq, pw_off (k := 2) hD [0] rfl hq (by decide)⟩ | 3, hq => Or.inr ⟨hq, pw_off (k := 3) hD [0] rfl hq (by decide)⟩ | 4, hq => Or.inr ⟨hq, pw_off (k := 4) hD [0] rfl hq (by decide)⟩ | 5, hq => Or.inr ⟨hq, pw_off (k := 5) hD [0] rfl hq (by decide)⟩ | 6, hq => Or.inr ⟨hq, pw_off (k := 6) hD [0] rfl hq (by decide)⟩ | 7, hq => Or.inr ⟨hq, pw_off (k := 7) hD [0] rfl hq (by decide)⟩ | 8, hq => Or.inr ⟨hq, pw_off (k := 8) hD [0] rfl hq (by decide)⟩ | 9, hq => Or.inr ⟨hq, pw_off (k := 9) hD [0] rfl hq (by decide)⟩ | 10, hq => Or.inr ⟨hq, pw_off (k := 10) hD [0] rfl hq (by decide)⟩ | 11, hq => Or.inr ⟨hq, pw_off (k := 11) hD [0] rfl hq (by decide)⟩ | 12, hq => Or.inr ⟨hq, pw_off (k := 12) hD [0] rfl hq (by decide)⟩ | 13, hq => Or.inr ⟨hq, pw_off (k := 13) hD [0] rfl hq (by decide)⟩ | 14, hq => Or.inr ⟨hq, pw_off (k := 14) hD [0] rfl hq (by decide)⟩ | 15, hq => Or.inr ⟨hq, pw_off (k := 15) hD [0] rfl hq (by decide)⟩ | 16, hq => Or.inr ⟨hq, pw_off (k := 16) hD [0] rfl hq (by decide)⟩ | 17, hq => Or.inr ⟨hq, pw_off (k := 17) hD [0] rfl hq (by decide)⟩ | 18, hq => Or.inr ⟨hq, pw_off (k := 18) hD [0] rfl hq (by decide)⟩ | 19, hq => Or.inr ⟨hq, pw_off (k := 19) hD [0] rfl hq (by decide)⟩ | 20, hq => Or.inr ⟨hq, pw_off (k := 20) hD [0] rfl hq (by decide)⟩ | q + 21, hq => Or.inr ⟨hq, pw_off (k := q + 21) hD [0] rfl hq (by simp only [List.mem_cons, List.not_mem_nil, or_false, not_or]; omega)⟩)
    generalize H1 = H at hP hS ⊢
    have hP : va_P (dC, dI) cl_all (xw cI cJ cB cZ cN ha NA m_rows m_columns m_prime m_small m_pivots m_freeRows m_freeColumns m_smallMinor m_fields m_rowCounts m_elements m_numbers m_known m_ranks m_rankOf m_signOf m_order m_sizes m_coefficients m_choices m_sorted ++ po cI NA ND pn pm pd) H := hP
    have hD : va_D A (xw cI cJ cB cZ cN ha NA m_rows m_columns m_prime m_small m_pivots m_freeRows m_freeColumns m_smallMinor m_fields m_rowCounts m_elements m_numbers m_known m_ranks m_rankOf m_signOf m_order m_sizes m_coefficients m_choices m_sorted ++ po cI NA ND pn pm pd) := hD
    refine lv_imul hx hb d_Mo_take_33 ?_
    refine lv_aload_n hx hb d_Mo_take_34 rfl (lv_at hl 0 rfl) ?_
    refine va_get (D := (dC, dI)) (ci := 6) (v := .int m_prime) (C := "BasisWalkModel") (T := T_Mo) (N := 31) hx hb hts iw1 hown hK hP 0 rfl rfl 12 (by decide) fl0 (fun _ h9 => h9) rfl d_Mo_take_35 ?_
    obtain ⟨g_108, h⟩ := ck_nz_s h
    refine lv_irem hx hb d_Mo_take_38 g_108 ?_
    refine lv_topi (fun x_109 ex_109 => ?_)
    replace h := ck_nm_s h ex_109
    refine lv_istore (lv' := [(4, .int x_109), (0, .ref (ha 0)), (1, .int i0), (2, .int k0), (3, .int col0)]) hx hb d_Mo_take_39 hl (by decide) rfl (fun ls hl => ?_)
    refine lv_iconst (v := 0) hx hb d_Mo_take_41 (by decide) ?_
    refine lv_istore (lv' := [(5, .int 0), (4, .int x_109), (0, .ref (ha 0)), (1, .int i0), (2, .int k0), (3, .int col0)]) hx hb d_Mo_take_42 hl (by decide) rfl (fun ls hl => ?_)
    refine lo2_W (r := r) (fun (v5_110 : Int32) (w_111 : Nat → Int32) => ∀ (H : Heap) (locs : List Loc), va_P (dC, dI) cl_all (xw cI cJ cB cZ cN ha NA m_rows m_columns m_prime w_111 m_pivots m_freeRows m_freeColumns m_smallMinor m_fields m_rowCounts m_elements m_numbers m_known m_ranks m_rankOf m_signOf m_order m_sizes m_coefficients m_choices m_sorted ++ po cI NA ND pn pm pd) H → va_D A (xw cI cJ cB cZ cN ha NA m_rows m_columns m_prime w_111 m_pivots m_freeRows m_freeColumns m_smallMinor m_fields m_rowCounts m_elements m_numbers m_known m_ranks m_rankOf m_signOf m_order m_sizes m_coefficients m_choices m_sorted ++ po cI NA ND pn pm pd) → va_S A s.heap H locs → ∀ ls : Array Slot, lv_has ls 7 [(0, .ref (ha 0)), (1, .int i0), (2, .int k0), (4, .int x_109), (5, .int v5_110)] → W p l e ({ frames := 5, cells := 0, slots := 0, locals := 124 } : Room) s m AR below meth c H locs 0 0 QQ (F0 m 44 ls [])) ?_ _ _ _ h _ _ hP hD hS _ (lv_sub hl [2, 3, 4, 1, 0] rfl)
    intro k_44 v5_110 w_111 J_44 h H locs hP hD hS ls hl
    refine lv_iload hx hb d_Mo_take_44 (lv_at hl 4 rfl) ?_
    refine lv_aload_n hx hb d_Mo_take_46 rfl (lv_at hl 0 rfl) ?_
    refine va_get (D := (dC, dI)) (ci := 6) (v := .int m_columns) (C := "BasisWalkModel") (T := T_Mo) (N := 31) hx hb hts iw1 hown hK hP 0 rfl rfl 11 (by decide) fl4 (fun _ h9 => h9) rfl d_Mo_take_47 ?_
    refine lv_icmp_ge (tgt := 123) hx hb d_Mo_take_50 (by decide) (fun c_112 => ?_) (fun c_112 => ?_)
    · replace h := ck_if_t h c_112
      obtain rfl := Option.some.inj h
      subst hQ
      exact W.vret hx hb hr (fun t ht hW => ⟨⟨(w_111, pn, pm, pd), rfl, rfl, by rw [ht]; exact hP, va_K.moved hW.alike hK, hD⟩, hS.F ht⟩) hS.2.2 d_Mo_take_123
    · replace h := ck_if_f h c_112
      refine lv_aload_n hx hb d_Mo_take_53 rfl (lv_at hl 0 rfl) ?_
      refine va_get (D := (dC, dI)) (ci := 6) (v := .ref (ha 2)) (C := "BasisWalkModel") (T := T_Mo) (N := 31) hx hb hts iw1 hown hK hP 0 rfl rfl 9 (by decide) fl7 (fun _ h9 => h9) rfl d_Mo_take_54 ?_
      refine lv_bipush (v := 12) hx hb d_Mo_take_57 (by decide) ?_
      refine lv_iload_n hx hb d_Mo_take_59 rfl (lv_at hl 1 rfl) ?_
      refine lv_imul hx hb d_Mo_take_60 ?_
      refine lv_iload hx hb d_Mo_take_61 (lv_at hl 4 rfl) ?_
      refine lv_iadd hx hb d_Mo_take_63 ?_
      obtain ⟨g_113, h⟩ := ck_in_s h
      refine va_iald hx hb hK hP 2 0 rfl rfl g_113 d_Mo_take_64 ?_
      refine lv_iload hx hb d_Mo_take_65 (lv_at hl 3 rfl) ?_
      refine lv_aload_n hx hb d_Mo_take_67 rfl (lv_at hl 0 rfl) ?_
      refine va_get (D := (dC, dI)) (ci := 6) (v := .ref (ha 2)) (C := "BasisWalkModel") (T := T_Mo) (N := 31) hx hb hts iw1 hown hK hP 0 rfl rfl 9 (by decide) fl7 (fun _ h9 => h9) rfl d_Mo_take_68 ?_
      refine lv_bipush (v := 12) hx hb d_Mo_take_71 (by decide) ?_
      refine lv_iload_n hx hb d_Mo_take_73 rfl (lv_at hl 2 rfl) ?_
      refine lv_imul hx hb d_Mo_take_74 ?_
      refine lv_iload hx hb d_Mo_take_75 (lv_at hl 4 rfl) ?_
      refine lv_iadd hx hb d_Mo_take_77 ?_
      obtain ⟨g_114, h⟩ := ck_in_s h
      refine va_iald hx hb hK hP 2 0 rfl rfl g_114 d_Mo_take_78 ?_
      refine lv_imul hx hb d_Mo_take_79 ?_
      refine lv_aload_n hx hb d_Mo_take_80 rfl (lv_at hl 0 rfl) ?_
      refine va_get (D := (dC, dI)) (ci := 6) (v := .int m_prime) (C := "BasisWalkModel") (T := T_Mo) (N := 31) hx hb hts iw1 hown hK hP 0 rfl rfl 12 (by decide) fl0 (fun _ h9 => h9) rfl d_Mo_take_81 ?_
      obtain ⟨g_115, h⟩ := ck_nz_s h
      refine lv_irem hx hb d_Mo_take_84 g_115 ?_
      refine lv_isub hx hb d_Mo_take_85 ?_
      refine lv_topi (fun x_116 ex_116 => ?_)
      replace h := ck_nm_s h ex_116
      refine lv_istore (lv' := [(6, .int x_116), (0, .ref (ha 0)), (1, .int i0), (2, .int k0), (4, .int x_109), (5, .int v5_110)]) hx hb d_Mo_take_86 hl (by decide) rfl (fun ls hl => ?_)
      refine lv_aload_n hx hb d_Mo_take_88 rfl (lv_at hl 1 rfl) ?_
      refine va_get (D := (dC, dI)) (ci := 6) (v := .ref (ha 2)) (C := "BasisWalkModel") (T := T_Mo) (N := 31) hx hb hts iw1 hown hK hP 0 rfl rfl 9 (by decide) fl7 (fun _ h9 => h9) rfl d_Mo_take_89 ?_
      refine lv_bipush (v := 12) hx hb d_Mo_take_92 (by decide) ?_
      refine lv_iload_n hx hb d_Mo_take_94 rfl (lv_at hl 2 rfl) ?_
      refine lv_imul hx hb d_Mo_take_95 ?_
      refine lv_iload hx hb d_Mo_take_96 (lv_at hl 5 rfl) ?_
      refine lv_iadd hx hb d_Mo_take_98 ?_
      refine lv_iload hx hb d_Mo_take_99 (lv_at hl 0 rfl) ?_
      refine ck_jn_W h (fun k' => ∀ (s0_117 : Int32), k' s0_117 = some r → ∀ (H : Heap) (locs : List Loc), va_P (dC, dI) cl_all (xw cI cJ cB cZ cN ha NA m_rows m_columns m_prime w_111 m_pivots m_freeRows m_freeColumns m_smallMinor m_fields m_rowCounts m_elements m_numbers m_known m_ranks m_rankOf m_signOf m_order m_sizes m_coefficients m_choices m_sorted ++ po cI NA ND pn pm pd) H → va_D A (xw cI cJ cB cZ cN ha NA m_rows m_columns m_prime w_111 m_pivots m_freeRows m_freeColumns m_smallMinor m_fields m_rowCounts m_elements m_numbers m_known m_ranks m_rankOf m_signOf m_order m_sizes m_coefficients m_choices m_sorted ++ po cI NA ND pn pm pd) → va_S A s.heap H locs → ∀ ls : Array Slot, lv_has ls 7 [(0, .ref (ha 0)), (1, .int i0), (2, .int k0), (4, .int x_109), (5, .int v5_110)] → W p l e ({ frames := 5, cells := 0, slots := 0, locals := 124 } : Room) s m AR below meth c H locs 0 0 QQ (F0 m 116 ls [.int s0_117, .int ((12 * i0) + v5_110), .ref (ha 2)])) ?_ ?_
      · intro s0_117 h H locs hP hD hS ls hl
        obtain ⟨g_118, h⟩ := ck_in_s h
        refine va_iast hx hb hK hP hD hS 2 0 rfl rfl g_118 d_Mo_take_116 (fun H locs hP hD hS => ?_)
        have hP : va_P (dC, dI) cl_all (xw cI cJ cB cZ cN ha NA m_rows m_columns m_prime (upd w_111 ((12 * i0) + v5_110).toNatClampNeg s0_117) m_pivots m_freeRows m_freeColumns m_smallMinor m_fields m_rowCounts m_elements m_numbers m_known m_ranks m_rankOf m_signOf m_order m_sizes m_coefficients m_choices m_sorted ++ po cI NA ND pn pm pd) H := hP
        have hD : va_D A (xw cI cJ cB cZ cN ha NA m_rows m_columns m_prime (upd w_111 ((12 * i0) + v5_110).toNatClampNeg s0_117) m_pivots m_freeRows m_freeColumns m_smallMinor m_fields m_rowCounts m_elements m_numbers m_known m_ranks m_rankOf m_signOf m_order m_sizes m_coefficients m_choices m_sorted ++ po cI NA ND pn pm pd) := hD
        obtain ⟨x_119, ex_119⟩ : ∃ y : Int32, y = v5_110 + 1 := ⟨_, rfl⟩
        replace h := ck_nm_s h ex_119
        refine lv_iinc (v := x_119) (lv' := [(5, .int x_119), (0, .ref (ha 0)), (1, .int i0), (2, .int k0), (4, .int x_109)]) hx hb d_Mo_take_117 hl (k := 4) rfl (by rw [ex_119]; rfl) (by decide) rfl (fun ls hl => ?_)
        refine lv_goto (tgt := 44) hx hb d_Mo_take_120 (by decide) ?_
        exact J_44 _ _ h _ _ hP hD hS _ (lv_sub hl [1, 2, 3, 4, 0] rfl)
      · intro k_116 J_116 h
        refine lv_if_ge (tgt := 114) hx hb d_Mo_take_101 (by decide) (fun c_120 => ?_) (fun c_120 => ?_)
        · replace h := ck_if_t h c_120
          refine lv_iload hx hb d_Mo_take_114 (lv_at hl 0 rfl) ?_
          exact J_116 _ h _ _ hP hD hS _ (lv_sub hl [1, 2, 3, 4, 5] rfl)
        · replace h := ck_if_f h c_120
          refine lv_iload hx hb d_Mo_take_104 (lv_at hl 0 rfl) ?_
          refine lv_aload_n hx hb d_Mo_take_106 rfl (lv_at hl 1 rfl) ?_
          refine va_get (D := (dC, dI)) (ci := 6) (v := .int m_prime) (C := "BasisWalkModel") (T := T_Mo) (N := 31) hx hb hts iw1 hown hK hP 0 rfl rfl 12 (by decide) fl0 (fun _ h9 => h9) rfl d_Mo_take_107 ?_
          refine lv_iadd hx hb d_Mo_take_110 ?_
          refine lv_goto (tgt := 116) hx hb d_Mo_take_111 (by decide) ?_
          exact J_116 _ h _ _ hP hD hS _ (lv_sub hl [1, 2, 3, 4, 5] rfl)
theorem d_Mo_settle_0 : decode prog_7_method_11_code 0 = .ok (.aload_n 0, 1) := by decide +kernel
theorem d_Mo_settle_1 : decode prog_7_method_11_code 1 = .ok (.getfield 38, 3) := by decide +kernel
theorem d_Mo_settle_4 : decode prog_7_method_11_code 4 = .ok (.ifCond .le 70, 3) := by decide +kernel
theorem d_Mo_settle_7 : decode prog_7_method_11_code 7 = .ok (.aload_n 0, 1) := by decide +kernel
theorem d_Mo_settle_8 : decode prog_7_method_11_code 8 = .ok (.aload_n 0, 1) := by decide +kernel
theorem d_Mo_settle_9 : decode prog_7_method_11_code 9 = .ok (.getfield 55, 3) := by decide +kernel
theorem d_Mo_settle_12 : decode prog_7_method_11_code 12 = .ok (.bipush 12, 2) := by decide +kernel
theorem d_Mo_settle_14 : decode prog_7_method_11_code 14 = .ok (.iload_n 1, 1) := by decide +kernel
theorem d_Mo_settle_15 : decode prog_7_method_11_code 15 = .ok (.imul, 1) := by decide +kernel
theorem d_Mo_settle_16 : decode prog_7_method_11_code 16 = .ok (.aload_n 0, 1) := by decide +kernel
theorem d_Mo_settle_17 : decode prog_7_method_11_code 17 = .ok (.getfield 108, 3) := by decide +kernel
theorem d_Mo_settle_20 : decode prog_7_method_11_code 20 = .ok (.iload_n 1, 1) := by decide +kernel
theorem d_Mo_settle_21 : decode prog_7_method_11_code 21 = .ok (.iaload, 1) := by decide +kernel
theorem d_Mo_settle_22 : decode prog_7_method_11_code 22 = .ok (.iadd, 1) := by decide +kernel
theorem d_Mo_settle_23 : decode prog_7_method_11_code 23 = .ok (.iaload, 1) := by decide +kernel
theorem d_Mo_settle_24 : decode prog_7_method_11_code 24 = .ok (.invokevirtual 61, 3) := by decide +kernel
theorem d_Mo_settle_27 : decode prog_7_method_11_code 27 = .ok (.istore_n 2, 1) := by decide +kernel
theorem d_Mo_settle_28 : decode prog_7_method_11_code 28 = .ok (.iconst 0, 1) := by decide +kernel
theorem d_Mo_settle_29 : decode prog_7_method_11_code 29 = .ok (.istore_n 3, 1) := by decide +kernel
theorem d_Mo_settle_30 : decode prog_7_method_11_code 30 = .ok (.iload_n 3, 1) := by decide +kernel
theorem d_Mo_settle_31 : decode prog_7_method_11_code 31 = .ok (.aload_n 0, 1) := by decide +kernel
theorem d_Mo_settle_32 : decode prog_7_method_11_code 32 = .ok (.getfield 41, 3) := by decide +kernel
theorem d_Mo_settle_35 : decode prog_7_method_11_code 35 = .ok (.if_icmp .ge 38, 3) := by decide +kernel
theorem d_Mo_settle_38 : decode prog_7_method_11_code 38 = .ok (.aload_n 0, 1) := by decide +kernel
theorem d_Mo_settle_39 : decode prog_7_method_11_code 39 = .ok (.getfield 55, 3) := by decide +kernel
theorem d_Mo_settle_42 : decode prog_7_method_11_code 42 = .ok (.bipush 12, 2) := by decide +kernel
theorem d_Mo_settle_44 : decode prog_7_method_11_code 44 = .ok (.iload_n 1, 1) := by decide +kernel
theorem d_Mo_settle_45 : decode prog_7_method_11_code 45 = .ok (.imul, 1) := by decide +kernel
theorem d_Mo_settle_46 : decode prog_7_method_11_code 46 = .ok (.iload_n 3, 1) := by decide +kernel
theorem d_Mo_settle_47 : decode prog_7_method_11_code 47 = .ok (.iadd, 1) := by decide +kernel
theorem d_Mo_settle_48 : decode prog_7_method_11_code 48 = .ok (.aload_n 0, 1) := by decide +kernel
theorem d_Mo_settle_49 : decode prog_7_method_11_code 49 = .ok (.getfield 55, 3) := by decide +kernel
theorem d_Mo_settle_52 : decode prog_7_method_11_code 52 = .ok (.bipush 12, 2) := by decide +kernel
theorem d_Mo_settle_54 : decode prog_7_method_11_code 54 = .ok (.iload_n 1, 1) := by decide +kernel
theorem d_Mo_settle_55 : decode prog_7_method_11_code 55 = .ok (.imul, 1) := by decide +kernel
theorem d_Mo_settle_56 : decode prog_7_method_11_code 56 = .ok (.iload_n 3, 1) := by decide +kernel
theorem d_Mo_settle_57 : decode prog_7_method_11_code 57 = .ok (.iadd, 1) := by decide +kernel
theorem d_Mo_settle_58 : decode prog_7_method_11_code 58 = .ok (.iaload, 1) := by decide +kernel
theorem d_Mo_settle_59 : decode prog_7_method_11_code 59 = .ok (.iload_n 2, 1) := by decide +kernel
theorem d_Mo_settle_60 : decode prog_7_method_11_code 60 = .ok (.imul, 1) := by decide +kernel
theorem d_Mo_settle_61 : decode prog_7_method_11_code 61 = .ok (.aload_n 0, 1) := by decide +kernel
theorem d_Mo_settle_62 : decode prog_7_method_11_code 62 = .ok (.getfield 38, 3) := by decide +kernel
theorem d_Mo_settle_65 : decode prog_7_method_11_code 65 = .ok (.irem, 1) := by decide +kernel
theorem d_Mo_settle_66 : decode prog_7_method_11_code 66 = .ok (.iastore, 1) := by decide +kernel
theorem d_Mo_settle_67 : decode prog_7_method_11_code 67 = .ok (.iinc 3 1, 3) := by decide +kernel
theorem d_Mo_settle_70 : decode prog_7_method_11_code 70 = .ok (.goto (-40), 3) := by decide +kernel
theorem d_Mo_settle_73 : decode prog_7_method_11_code 73 = .ok (.return_, 1) := by decide +kernel
theorem d_Mo_settle_74 : decode prog_7_method_11_code 74 = .ok (.aload_n 0, 1) := by decide +kernel
theorem d_Mo_settle_75 : decode prog_7_method_11_code 75 = .ok (.iload_n 1, 1) := by decide +kernel
theorem d_Mo_settle_76 : decode prog_7_method_11_code 76 = .ok (.invokevirtual 78, 3) := by decide +kernel
theorem d_Mo_settle_79 : decode prog_7_method_11_code 79 = .ok (.aload_n 0, 1) := by decide +kernel
theorem d_Mo_settle_80 : decode prog_7_method_11_code 80 = .ok (.iload_n 1, 1) := by decide +kernel
theorem d_Mo_settle_81 : decode prog_7_method_11_code 81 = .ok (.aload_n 0, 1) := by decide +kernel
theorem d_Mo_settle_82 : decode prog_7_method_11_code 82 = .ok (.getfield 108, 3) := by decide +kernel
theorem d_Mo_settle_85 : decode prog_7_method_11_code 85 = .ok (.iload_n 1, 1) := by decide +kernel
theorem d_Mo_settle_86 : decode prog_7_method_11_code 86 = .ok (.iaload, 1) := by decide +kernel
theorem d_Mo_settle_87 : decode prog_7_method_11_code 87 = .ok (.invokevirtual 47, 3) := by decide +kernel
theorem d_Mo_settle_90 : decode prog_7_method_11_code 90 = .ok (.getfield 13, 3) := by decide +kernel
theorem d_Mo_settle_93 : decode prog_7_method_11_code 93 = .ok (.ifCond .eq 28, 3) := by decide +kernel
theorem d_Mo_settle_96 : decode prog_7_method_11_code 96 = .ok (.iconst 0, 1) := by decide +kernel
theorem d_Mo_settle_97 : decode prog_7_method_11_code 97 = .ok (.istore_n 2, 1) := by decide +kernel
theorem d_Mo_settle_98 : decode prog_7_method_11_code 98 = .ok (.iload_n 2, 1) := by decide +kernel
theorem d_Mo_settle_99 : decode prog_7_method_11_code 99 = .ok (.aload_n 0, 1) := by decide +kernel
theorem d_Mo_settle_100 : decode prog_7_method_11_code 100 = .ok (.getfield 41, 3) := by decide +kernel
theorem d_Mo_settle_103 : decode prog_7_method_11_code 103 = .ok (.if_icmp .ge 18, 3) := by decide +kernel
theorem d_Mo_settle_106 : decode prog_7_method_11_code 106 = .ok (.aload_n 0, 1) := by decide +kernel
theorem d_Mo_settle_107 : decode prog_7_method_11_code 107 = .ok (.iload_n 1, 1) := by decide +kernel
theorem d_Mo_settle_108 : decode prog_7_method_11_code 108 = .ok (.iload_n 2, 1) := by decide +kernel
theorem d_Mo_settle_109 : decode prog_7_method_11_code 109 = .ok (.invokevirtual 47, 3) := by decide +kernel
theorem d_Mo_settle_112 : decode prog_7_method_11_code 112 = .ok (.invokevirtual 114, 3) := by decide +kernel
theorem d_Mo_settle_115 : decode prog_7_method_11_code 115 = .ok (.iinc 2 1, 3) := by decide +kernel
theorem d_Mo_settle_118 : decode prog_7_method_11_code 118 = .ok (.goto (-20), 3) := by decide +kernel
theorem d_Mo_settle_121 : decode prog_7_method_11_code 121 = .ok (.return_, 1) := by decide +kernel
def f_R_settle (m_columns : Int32) (m_prime : Int32) (m_small : Nat → Int32) (m_pivots : Nat → Int32) (pn : Nat → Int32) (pm : Nat → Int32) (pd : Nat → Nat → Int32) (i0 : Int32) : Option ((Nat → Int32) × (Nat → Int32) × (Nat → Int32) × (Nat → Nat → Int32)) :=
  ck_if (m_prime ≤ 0) (ck_b3 (f_R_shorten m_columns pn pm pd i0) <| fun u_2 u_3 u_4 => ck_in i0 13 <| ck_b1 (f_R_at i0 (m_pivots i0.toNatClampNeg)) <| fun r_7 => ck_if ((u_3 r_7) = 0) (some (m_small, u_2, u_3, u_4)) (lo2 (fun k_98 (v2_10 : Int32) (pm_11 : Nat → Int32) => ck_if (m_columns ≤ v2_10) (some (m_small, u_2, pm_11, u_4)) (ck_b1 (f_R_at i0 v2_10) <| fun r_13 => ck_b1 (f_N_turn (u_2 r_13) (pm_11 r_13)) <| fun u_15 => ck_nm (upd pm_11 r_13 u_15) <| fun pm_16 => ck_nm (v2_10 + 1) <| fun x_19 => k_98 x_19 pm_16)) ck_F 0 u_3)) (ck_in i0 13 <| ck_in ((12 * i0) + (m_pivots i0.toNatClampNeg)) 156 <| ck_b1 (f_R_inverse m_prime (m_small ((12 * i0) + (m_pivots i0.toNatClampNeg)).toNatClampNeg)) <| fun r_22 => lo2 (fun k_30 (v3_24 : Int32) (w_25 : Nat → Int32) => ck_if (m_columns ≤ v3_24) (some (w_25, pn, pm, pd)) (ck_in ((12 * i0) + v3_24) 156 <| ck_nz m_prime <| ck_in ((12 * i0) + v3_24) 156 <| ck_nm (v3_24 + 1) <| fun x_30 => k_30 x_30 (upd w_25 ((12 * i0) + v3_24).toNatClampNeg (((w_25 ((12 * i0) + v3_24).toNatClampNeg) * r_22) - ((w_25 ((12 * i0) + v3_24).toNatClampNeg) * r_22) / m_prime * m_prime)))) ck_F 0 m_small)
set_option maxHeartbeats 4000000 in
set_option maxRecDepth 100000 in
theorem c_R_settle (l : Launch) (dC : Nat → ClassId) (dI : Nat → Nat → Nat) (cI cJ cB cZ cT cN : ClassId) (sz : Nat) (ha NA ND : Nat → Nat) (m_rows : Int32) (m_columns : Int32) (m_prime : Int32) (m_small : Nat → Int32) (m_pivots : Nat → Int32) (m_freeRows : Nat → Int32) (m_freeColumns : Nat → Int32) (m_smallMinor : Nat → Int32) (m_fields : Nat → Int32) (m_rowCounts : Nat → Int32) (m_elements : Nat → Int32) (m_numbers : Nat → Int32) (m_known : Nat → Int32) (m_ranks : Nat → Int32) (m_rankOf : Nat → Int32) (m_signOf : Nat → Int32) (m_order : Nat → Int32) (m_sizes : Nat → Int32) (m_coefficients : Nat → Int64) (m_choices : Nat → Int64) (m_sorted : Nat → Int32) (pn : Nat → Int32) (pm : Nat → Int32) (pd : Nat → Nat → Int32) (i0 : Int32) (r : (Nat → Int32) × (Nat → Int32) × (Nat → Int32) × (Nat → Nat → Int32)) (h : f_R_settle m_columns m_prime m_small m_pivots pn pm pd i0 = some r) : Met l y_Mo_settle w_Mo_settle ({ frames := 5, cells := 0, slots := 0, locals := 124 } : Room) (va_Pc [.ref (ha 0), .int i0] (fun U => U.heap.size = sz ∧ va_P (dC, dI) cl_all (xw cI cJ cB cZ cN ha NA m_rows m_columns m_prime m_small m_pivots m_freeRows m_freeColumns m_smallMinor m_fields m_rowCounts m_elements m_numbers m_known m_ranks m_rankOf m_signOf m_order m_sizes m_coefficients m_choices m_sorted ++ po cI NA ND pn pm pd) U.heap ∧ va_K (dC, dI) cl_all [(cI, .int), (cJ, .long), (cB, .byte), (cZ, .boolean), (cT, .object "BasisWalk$Table"), (cN, .object "BasisWalkModel$Num")] U ∧ NW U ∧ va_D (fun _ => True) (xw cI cJ cB cZ cN ha NA m_rows m_columns m_prime m_small m_pivots m_freeRows m_freeColumns m_smallMinor m_fields m_rowCounts m_elements m_numbers m_known m_ranks m_rankOf m_signOf m_order m_sizes m_coefficients m_choices m_sorted ++ po cI NA ND pn pm pd))) (va_Qv (fun u : (Nat → Int32) × (Nat → Int32) × (Nat → Int32) × (Nat → Nat → Int32) => u = r) (fun (u : (Nat → Int32) × (Nat → Int32) × (Nat → Int32) × (Nat → Nat → Int32)) (t : State) => va_P (dC, dI) cl_all (xw cI cJ cB cZ cN ha NA m_rows m_columns m_prime u.1 m_pivots m_freeRows m_freeColumns m_smallMinor m_fields m_rowCounts m_elements m_numbers m_known m_ranks m_rankOf m_signOf m_order m_sizes m_coefficients m_choices m_sorted ++ po cI NA ND u.2.1 u.2.2.1 u.2.2.2) t.heap ∧ va_K (dC, dI) cl_all [(cI, .int), (cJ, .long), (cB, .byte), (cZ, .boolean), (cT, .object "BasisWalk$Table"), (cN, .object "BasisWalkModel$Num")] t ∧ va_D (va_A (xw cI cJ cB cZ cN ha NA m_rows m_columns m_prime m_small m_pivots m_freeRows m_freeColumns m_smallMinor m_fields m_rowCounts m_elements m_numbers m_known m_ranks m_rankOf m_signOf m_order m_sizes m_coefficients m_choices m_sorted ++ po cI NA ND pn pm pd) sz) (xw cI cJ cB cZ cN ha NA m_rows m_columns m_prime u.1 m_pivots m_freeRows m_freeColumns m_smallMinor m_fields m_rowCounts m_elements m_numbers m_known m_ranks m_rankOf m_signOf m_order m_sizes m_coefficients m_choices m_sorted ++ po cI NA ND u.2.1 u.2.2.1 u.2.2.2)) (va_A (xw cI cJ cB cZ cN ha NA m_rows m_columns m_prime m_small m_pivots m_freeRows m_freeColumns m_smallMinor m_fields m_rowCounts m_elements m_numbers m_known m_ranks m_rankOf m_signOf m_order m_sizes m_coefficients m_choices m_sorted ++ po cI NA ND pn pm pd) sz)) 0 0 (va_A (xw cI cJ cB cZ cN ha NA m_rows m_columns m_prime m_small m_pivots m_freeRows m_freeColumns m_smallMinor m_fields m_rowCounts m_elements m_numbers m_known m_ranks m_rankOf m_signOf m_order m_sizes m_coefficients m_choices m_sorted ++ po cI NA ND pn pm pd) sz) := by
  refine Met.ofW (cc := prog_7_method_11_code) (maxL := 4) (ret := (Option.none : Option Jvm.ClassFile.FieldType)) (by decide) rfl ?_
  intro p e s m args below meth c s₁ B hml hv
  obtain ⟨hAR, hsz, hP, hK, hN, hD0⟩ := hv
  have hx := B.exec
  have hb := B.bytes
  have hr := B.returns
  have hts := atoms_spec (ws := w_Mo_settle) B.pre
  have hown : s.vm.findClass "BasisWalkModel" = some m.cls := findClass_of_methodNamed B.named
  have hlocks := B.notSynchronized
  clear B
  subst hsz
  have hD := hD0.self (sz := s.heap.size)
  generalize hAe : va_A (xw cI cJ cB cZ cN ha NA m_rows m_columns m_prime m_small m_pivots m_freeRows m_freeColumns m_smallMinor m_fields m_rowCounts m_elements m_numbers m_known m_ranks m_rankOf m_signOf m_order m_sizes m_coefficients m_choices m_sorted ++ po cI NA ND pn pm pd) s.heap.size = A at hD ⊢
  have hA : ∀ q : Nat, s.heap.size ≤ q → A q := fun q h => by rw [← hAe]; exact Or.inr h
  clear hAe hD0
  have hS : va_S A s.heap s.heap [] := va_S.rf
  have hl := lv_entry ([.ref (ha 0), .int i0]) (n := 4) (Nat.le_of_ble_eq_true rfl)
  subst hAR
  rw [lg_entry_eq]
  generalize (lg_sl ([.ref (ha 0), .int i0]) ++ List.replicate (4 - (lg_sl ([.ref (ha 0), .int i0])).length) Slot.unset).toArray = ls at hl ⊢
  have hl : lv_has ls 4 [(0, .ref (ha 0)), (1, .int i0)] := hl
  change W p l e ({ frames := 5, cells := 0, slots := 0, locals := 124 } : Room) s m _ below meth c s.heap [] 0 0 _ _
  generalize hARe : ([.ref (ha 0), .int i0] : List Value).toArray = AR at hts ⊢
  clear hARe
  generalize hQ : MQ below _ AR s 0 0 A = QQ
  have fl0 := hts _ (List.mem_cons_of_mem _ tw_367)
  have iw1 := (fun w hw => List.mem_cons_of_mem _ (in_Mo w hw) : ∀ w ∈ u_ws "BasisWalkModel" T_Mo 31, w ∈ w_Mo_settle)
  have fl2 := hts _ (List.mem_cons_of_mem _ tw_368)
  have fl3 := hts _ (List.mem_cons_of_mem _ tw_341)
  have iw4 := (fun w hw => List.mem_cons_of_mem _ (in_Nu w hw) : ∀ w ∈ u_ws "BasisWalkModel$Num" T_Nu 3, w ∈ w_Mo_settle)
  have fl5 := hts _ (List.mem_cons_of_mem _ tw_366)
  have fl6 := hts _ (List.mem_cons_of_mem _ tw_364)
  obtain ⟨H, hHe⟩ : ∃ H : Heap, H = s.heap := ⟨_, rfl⟩
  rw [← hHe] at hP ⊢
  replace hS : va_S A s.heap H [] := by rw [hHe]; exact va_S.rf
  clear hHe
  unfold f_R_settle at h
  refine lv_aload_n hx hb d_Mo_settle_0 rfl (lv_at hl 0 rfl) ?_
  refine va_get (D := (dC, dI)) (ci := 6) (v := .int m_prime) (C := "BasisWalkModel") (T := T_Mo) (N := 31) hx hb hts iw1 hown hK hP 0 rfl rfl 12 (by decide) fl0 (fun _ h9 => h9) rfl d_Mo_settle_1 ?_
  refine lv_if_le (tgt := 74) hx hb d_Mo_settle_4 (by decide) (fun c_1 => ?_) (fun c_1 => ?_)
  · replace h := ck_if_t h c_1
    refine lv_aload_n hx hb d_Mo_settle_74 rfl (lv_at hl 0 rfl) ?_
    refine lv_iload_n hx hb d_Mo_settle_75 rfl (lv_at hl 1 rfl) ?_
    obtain ⟨u_2, u_3, u_4, hc_5, h⟩ := ck_b3_s h
    have hPc := hP
    have hDc := hD
    have hFc := pw_free hDc hS hA
    refine va_callv (va_runV (As := [.int i0]) (rest := []) ⟨hx, hb, hml, hown, hts⟩ (c_R_shorten l dC dI cI cJ cB cZ cT cN H.size ha NA ND m_rows m_columns m_prime m_small m_pivots m_freeRows m_freeColumns m_smallMinor m_fields m_rowCounts m_elements m_numbers m_known m_ranks m_rankOf m_signOf m_order m_sizes m_coefficients m_choices m_sorted pn pm pd i0 _ hc_5) (cwV 1 hts (tb_V tw_539 tw_541 tp_27 tw_6 tw_542) rfl rfl rfl (by decide +kernel) ⟨Nat.le_of_ble_eq_true rfl, Nat.le_of_ble_eq_true rfl⟩) ⟨fun a U g mk q => by obtain ⟨q0, q1, qP, qK, qN, qD⟩ := q; exact ⟨q0, q1, qP, va_K.moved (u := U) (U := U.calling g mk a) (Vm.Alike.refl U.vm) qK, qN.same rfl, qD⟩, va_recv hK hPc (ci := 6) (q0 := 0) rfl rfl, fun U hU hW => ⟨rfl, by rw [hU], by rw [hU]; exact hPc, va_K.moved hW.alike hK, hN.warm hW, hDc.weaken (fun _ _ _ _ => trivial)⟩⟩ rfl rfl hl.1 rfl (lv_room (Nat.le_of_ble_eq_true rfl)) d_Mo_settle_76 ⟨Nat.zero_le _, Nat.zero_le _⟩) hS (fun q _ h => hFc q h) hFc (fun u t H1 locs ht hvm hw hB hz1 hk1 hS => ?_)
    replace hw := hw.symm
    subst hw
    obtain ⟨hP1, -, hD1⟩ := hB
    rw [ht] at hP1
    have hP : va_P (dC, dI) cl_all (xw cI cJ cB cZ cN ha NA m_rows m_columns m_prime m_small m_pivots m_freeRows m_freeColumns m_smallMinor m_fields m_rowCounts m_elements m_numbers m_known m_ranks m_rankOf m_signOf m_order m_sizes m_coefficients m_choices m_sorted ++ po cI NA ND u_2 u_3 u_4) H1 := hP1
    have hD : va_D A (xw cI cJ cB cZ cN ha NA m_rows m_columns m_prime m_small m_pivots m_freeRows m_freeColumns m_smallMinor m_fields m_rowCounts m_elements m_numbers m_known m_ranks m_rankOf m_signOf m_order m_sizes m_coefficients m_choices m_sorted ++ po cI NA ND u_2 u_3 u_4) := hD1.weaken (fun _ _ _ h => hFc _ h)
    generalize H1 = H at hP hS ⊢
    have hP : va_P (dC, dI) cl_all (xw cI cJ cB cZ cN ha NA m_rows m_columns m_prime m_small m_pivots m_freeRows m_freeColumns m_smallMinor m_fields m_rowCounts m_elements m_numbers m_known m_ranks m_rankOf m_signOf m_order m_sizes m_coefficients m_choices m_sorted ++ po cI NA ND u_2 u_3 u_4) H := hP
    have hD : va_D A (xw cI cJ cB cZ cN ha NA m_rows m_columns m_prime m_small m_pivots m_freeRows m_freeColumns m_smallMinor m_fields m_rowCounts m_elements m_numbers m_known m_ranks m_rankOf m_signOf m_order m_sizes m_coefficients m_choices m_sorted ++ po cI NA ND u_2 u_3 u_4) := hD
    refine lv_aload_n hx hb d_Mo_settle_79 rfl (lv_at hl 0 rfl) ?_
    refine lv_iload_n hx hb d_Mo_settle_80 rfl (lv_at hl 1 rfl) ?_
    refine lv_aload_n hx hb d_Mo_settle_81 rfl (lv_at hl 0 rfl) ?_
    refine va_get (D := (dC, dI)) (ci := 6) (v := .ref (ha 3)) (C := "BasisWalkModel") (T := T_Mo) (N := 31) hx hb hts iw1 hown hK hP 0 rfl rfl 13 (by decide) fl2 (fun _ h9 => h9) rfl d_Mo_settle_82 ?_
    refine lv_iload_n hx hb d_Mo_settle_85 rfl (lv_at hl 1 rfl) ?_
    obtain ⟨g_6, h⟩ := ck_in_s h
    refine va_iald hx hb hK hP 3 0 rfl rfl g_6 d_Mo_settle_86 ?_
    obtain ⟨r_7, hc_8, h⟩ := ck_b1_s h
    have hPc := hP
    have hDc := hD
    have hFc := pw_free hDc hS hA
    refine va_callr (va_runV (As := [.int i0, .int (m_pivots i0.toNatClampNeg)]) (rest := []) ⟨hx, hb, hml, hown, hts⟩ (c_R_at l dC dI cI cJ cB cZ cT cN H.size ha NA ND m_rows m_columns m_prime m_small m_pivots m_freeRows m_freeColumns m_smallMinor m_fields m_rowCounts m_elements m_numbers m_known m_ranks m_rankOf m_signOf m_order m_sizes m_coefficients m_choices m_sorted u_2 u_3 u_4 i0 (m_pivots i0.toNatClampNeg) _ hc_8) (cwV 2 hts (tb_V tw_485 tw_487 tp_21 tw_6 tw_488) rfl rfl rfl (by decide +kernel) ⟨Nat.le_of_ble_eq_true rfl, Nat.le_of_ble_eq_true rfl⟩) ⟨fun a U g mk q => by obtain ⟨q0, q1, qP, qK, qN, qD⟩ := q; exact ⟨q0, q1, qP, va_K.moved (u := U) (U := U.calling g mk a) (Vm.Alike.refl U.vm) qK, qN.same rfl, qD⟩, va_recv hK hPc (ci := 6) (q0 := 0) rfl rfl, fun U hU hW => ⟨rfl, by rw [hU], by rw [hU]; exact hPc, va_K.moved hW.alike hK, hN.warm hW, hDc.weaken (fun _ _ _ _ => trivial)⟩⟩ rfl rfl hl.1 rfl (lv_room (Nat.le_of_ble_eq_true rfl)) d_Mo_settle_87 ⟨Nat.zero_le _, Nat.zero_le _⟩) hS (fun q _ h => hFc q h) hFc (fun u ra t H1 locs ht hvm hw hB hz1 hk1 hS => ?_)
    replace hw := hw.symm
    subst hw
    obtain ⟨hra, hlr_7, hP1, -, hD1⟩ := hB
    subst hra
    rw [ht] at hP1
    have hP : va_P (dC, dI) cl_all (xw cI cJ cB cZ cN ha NA m_rows m_columns m_prime m_small m_pivots m_freeRows m_freeColumns m_smallMinor m_fields m_rowCounts m_elements m_numbers m_known m_ranks m_rankOf m_signOf m_order m_sizes m_coefficients m_choices m_sorted ++ po cI NA ND u_2 u_3 u_4) H1 := hP1
    have hD : va_D A (xw cI cJ cB cZ cN ha NA m_rows m_columns m_prime m_small m_pivots m_freeRows m_freeColumns m_smallMinor m_fields m_rowCounts m_elements m_numbers m_known m_ranks m_rankOf m_signOf m_order m_sizes m_coefficients m_choices m_sorted ++ po cI NA ND u_2 u_3 u_4) := hD1.weaken (fun _ _ _ h => hFc _ h)
    generalize H1 = H at hP hS ⊢
    have hP : va_P (dC, dI) cl_all (xw cI cJ cB cZ cN ha NA m_rows m_columns m_prime m_small m_pivots m_freeRows m_freeColumns m_smallMinor m_fields m_rowCounts m_elements m_numbers m_known m_ranks m_rankOf m_signOf m_order m_sizes m_coefficients m_choices m_sorted ++ po cI NA ND u_2 u_3 u_4) H := hP
    have hD : va_D A (xw cI cJ cB cZ cN ha NA m_rows m_columns m_prime m_small m_pivots m_freeRows m_freeColumns m_smallMinor m_fields m_rowCounts m_elements m_numbers m_known m_ranks m_rankOf m_signOf m_order m_sizes m_coefficients m_choices m_sorted ++ po cI NA ND u_2 u_3 u_4) := hD
    refine va_get (D := (dC, dI)) (ci := 5) (v := .int (u_3 r_7)) (C := "BasisWalkModel$Num") (T := T_Nu) (N := 3) hx hb hts iw4 hown hK hP _ (po_obj hlr_7) rfl 2 (by decide) fl3 (fun _ h9 => h9) rfl d_Mo_settle_90 ?_
    refine lv_if_eq (tgt := 121) hx hb d_Mo_settle_93 (by decide) (fun c_9 => ?_) (fun c_9 => ?_)
    · replace h := ck_if_t h c_9
      obtain rfl := Option.some.inj h
      subst hQ
      exact W.vret hx hb hr (fun t ht hW => ⟨⟨(m_small, u_2, u_3, u_4), rfl, rfl, by rw [ht]; exact hP, va_K.moved hW.alike hK, hD⟩, hS.F ht⟩) hS.2.2 d_Mo_settle_121
    · replace h := ck_if_f h c_9
      refine lv_iconst (v := 0) hx hb d_Mo_settle_96 (by decide) ?_
      refine lv_istore_n (lv' := [(2, .int 0), (0, .ref (ha 0)), (1, .int i0)]) hx hb d_Mo_settle_97 rfl hl (by decide) rfl (fun ls hl => ?_)
      refine lo2_W (r := r) (fun (v2_10 : Int32) (pm_11 : Nat → Int32) => ∀ (H : Heap) (locs : List Loc), va_P (dC, dI) cl_all (xw cI cJ cB cZ cN ha NA m_rows m_columns m_prime m_small m_pivots m_freeRows m_freeColumns m_smallMinor m_fields m_rowCounts m_elements m_numbers m_known m_ranks m_rankOf m_signOf m_order m_sizes m_coefficients m_choices m_sorted ++ po cI NA ND u_2 pm_11 u_4) H → va_D A (xw cI cJ cB cZ cN ha NA m_rows m_columns m_prime m_small m_pivots m_freeRows m_freeColumns m_smallMinor m_fields m_rowCounts m_elements m_numbers m_known m_ranks m_rankOf m_signOf m_order m_sizes m_coefficients m_choices m_sorted ++ po cI NA ND u_2 pm_11 u_4) → va_S A s.heap H locs → ∀ ls : Array Slot, lv_has ls 4 [(0, .ref (ha 0)), (1, .int i0), (2, .int v2_10)] → W p l e ({ frames := 5, cells := 0, slots := 0, locals := 124 } : Room) s m AR below meth c H locs 0 0 QQ (F0 m 98 ls [])) ?_ _ _ _ h _ _ hP hD hS _ (lv_sub hl [1, 2, 0] rfl)
      intro k_98 v2_10 pm_11 J_98 h H locs hP hD hS ls hl
      refine lv_iload_n hx hb d_Mo_settle_98 rfl (lv_at hl 2 rfl) ?_
      refine lv_aload_n hx hb d_Mo_settle_99 rfl (lv_at hl 0 rfl) ?_
      refine va_get (D := (dC, dI)) (ci := 6) (v := .int m_columns) (C := "BasisWalkModel") (T := T_Mo) (N := 31) hx hb hts iw1 hown hK hP 0 rfl rfl 11 (by decide) fl5 (fun _ h9 => h9) rfl d_Mo_settle_100 ?_
      refine lv_icmp_ge (tgt := 121) hx hb d_Mo_settle_103 (by decide) (fun c_12 => ?_) (fun c_12 => ?_)
      · replace h := ck_if_t h c_12
        obtain rfl := Option.some.inj h
        subst hQ
        exact W.vret hx hb hr (fun t ht hW => ⟨⟨(m_small, u_2, pm_11, u_4), rfl, rfl, by rw [ht]; exact hP, va_K.moved hW.alike hK, hD⟩, hS.F ht⟩) hS.2.2 d_Mo_settle_121
      · replace h := ck_if_f h c_12
        refine lv_aload_n hx hb d_Mo_settle_106 rfl (lv_at hl 0 rfl) ?_
        refine lv_iload_n hx hb d_Mo_settle_107 rfl (lv_at hl 1 rfl) ?_
        refine lv_iload_n hx hb d_Mo_settle_108 rfl (lv_at hl 2 rfl) ?_
        obtain ⟨r_13, hc_14, h⟩ := ck_b1_s h
        have hPc := hP
        have hDc := hD
        have hFc := pw_free hDc hS hA
        refine va_callr (va_runV (As := [.int i0, .int v2_10]) (rest := []) ⟨hx, hb, hml, hown, hts⟩ (c_R_at l dC dI cI cJ cB cZ cT cN H.size ha NA ND m_rows m_columns m_prime m_small m_pivots m_freeRows m_freeColumns m_smallMinor m_fields m_rowCounts m_elements m_numbers m_known m_ranks m_rankOf m_signOf m_order m_sizes m_coefficients m_choices m_sorted u_2 pm_11 u_4 i0 v2_10 _ hc_14) (cwV 2 hts (tb_V tw_485 tw_487 tp_21 tw_6 tw_488) rfl rfl rfl (by decide +kernel) ⟨Nat.le_of_ble_eq_true rfl, Nat.le_of_ble_eq_true rfl⟩) ⟨fun a U g mk q => by obtain ⟨q0, q1, qP, qK, qN, qD⟩ := q; exact ⟨q0, q1, qP, va_K.moved (u := U) (U := U.calling g mk a) (Vm.Alike.refl U.vm) qK, qN.same rfl, qD⟩, va_recv hK hPc (ci := 6) (q0 := 0) rfl rfl, fun U hU hW => ⟨rfl, by rw [hU], by rw [hU]; exact hPc, va_K.moved hW.alike hK, hN.warm hW, hDc.weaken (fun _ _ _ _ => trivial)⟩⟩ rfl rfl hl.1 rfl (lv_room (Nat.le_of_ble_eq_true rfl)) d_Mo_settle_109 ⟨Nat.zero_le _, Nat.zero_le _⟩) hS (fun q _ h => hFc q h) hFc (fun u ra t H1 locs ht hvm hw hB hz1 hk1 hS => ?_)
        replace hw := hw.symm
        subst hw
        obtain ⟨hra, hlr_13, hP1, -, hD1⟩ := hB
        subst hra
        rw [ht] at hP1
        have hP : va_P (dC, dI) cl_all (xw cI cJ cB cZ cN ha NA m_rows m_columns m_prime m_small m_pivots m_freeRows m_freeColumns m_smallMinor m_fields m_rowCounts m_elements m_numbers m_known m_ranks m_rankOf m_signOf m_order m_sizes m_coefficients m_choices m_sorted ++ po cI NA ND u_2 pm_11 u_4) H1 := hP1
        have hD : va_D A (xw cI cJ cB cZ cN ha NA m_rows m_columns m_prime m_small m_pivots m_freeRows m_freeColumns m_smallMinor m_fields m_rowCounts m_elements m_numbers m_known m_ranks m_rankOf m_signOf m_order m_sizes m_coefficients m_choices m_sorted ++ po cI NA ND u_2 pm_11 u_4) := hD1.weaken (fun _ _ _ h => hFc _ h)
        generalize H1 = H at hP hS ⊢
        have hP : va_P (dC, dI) cl_all (xw cI cJ cB cZ cN ha NA m_rows m_columns m_prime m_small m_pivots m_freeRows m_freeColumns m_smallMinor m_fields m_rowCounts m_elements m_numbers m_known m_ranks m_rankOf m_signOf m_order m_sizes m_coefficients m_choices m_sorted ++ po cI NA ND u_2 pm_11 u_4) H := hP
        have hD : va_D A (xw cI cJ cB cZ cN ha NA m_rows m_columns m_prime m_small m_pivots m_freeRows m_freeColumns m_smallMinor m_fields m_rowCounts m_elements m_numbers m_known m_ranks m_rankOf m_signOf m_order m_sizes m_coefficients m_choices m_sorted ++ po cI NA ND u_2 pm_11 u_4) := hD
        obtain ⟨u_15, hc_17, h⟩ := ck_b1_s h
        obtain ⟨hPc, hDc⟩ := po_cut (ks := [r_13]) (ks1 hlr_13) (nd1) hP hD
        have hPc : va_P (dC, dI) cl_all [(NA r_13, .inr (5, [.ref (ND r_13), .int (u_2 r_13), .int (pm_11 r_13)])), (ND r_13, .inl (cI, 160, .inl (u_4 r_13)))] H := hPc
        have hDc : va_D A [(NA r_13, .inr (5, [.ref (ND r_13), .int (u_2 r_13), .int (pm_11 r_13)])), (ND r_13, .inl (cI, 160, .inl (u_4 r_13)))] := hDc
        have hFc := pw_free hDc hS hA
        refine va_callv (va_runV (As := []) (rest := []) ⟨hx, hb, hml, hown, hts⟩ (c_N_turn l dC dI cI cJ cB cZ cT cN H.size (NA r_13) (ND r_13) (u_2 r_13) (pm_11 r_13) 160 (u_4 r_13) _ hc_17) (cwV 0 hts (tb_V tw_568 tw_569 tw_570 tw_7 tw_571) rfl rfl rfl (by decide +kernel) ⟨Nat.le_of_ble_eq_true rfl, Nat.le_of_ble_eq_true rfl⟩) ⟨fun a U g mk q => by obtain ⟨q0, q1, qP, qK, qN, qD⟩ := q; exact ⟨q0, q1, qP, va_K.moved (u := U) (U := U.calling g mk a) (Vm.Alike.refl U.vm) qK, qN.same rfl, qD⟩, va_recv hK hPc (ci := 5) (q0 := 0) rfl rfl, fun U hU hW => ⟨rfl, by rw [hU], by rw [hU]; exact hPc, va_K.moved hW.alike hK, hN.warm hW, hDc.weaken (fun _ _ _ _ => trivial)⟩⟩ rfl rfl hl.1 rfl (lv_room (Nat.le_of_ble_eq_true rfl)) d_Mo_settle_112 ⟨Nat.zero_le _, Nat.zero_le _⟩) hS (fun q _ h => hFc q h) hFc (fun u t H1 locs ht hvm hw hB hz1 hk1 hS => ?_)
        replace hw := hw.symm
        subst hw
        obtain ⟨hP1, -, hD1⟩ := hB
        rw [ht] at hP1
        obtain ⟨pm_16, epm_16⟩ : ∃ y : Nat → Int32, y = (upd pm_11 r_13 u_15) := ⟨_, rfl⟩
        replace h := ck_nm_s h epm_16
        have fq_18 : pm_16 r_13 = u_15 := by simp [epm_16, upd, va_up]
        obtain ⟨hP, hD⟩ := po_back (ks := [r_13]) (pn' := u_2) (pm' := pm_16) (pd' := u_4) (ks1 hlr_13) hP hD hk1 (by show va_P (dC, dI) cl_all [(NA r_13, .inr (5, [.ref (ND r_13), .int (u_2 r_13), .int (pm_16 r_13)])), (ND r_13, .inl (cI, 160, .inl (u_4 r_13)))] H1; rw [fq_18]; exact hP1) (fun j hj => by simp only [List.mem_cons, List.not_mem_nil, or_false, not_or] at hj; exact ⟨rfl, by simp [epm_16, upd, va_up, hj], rfl⟩)
        generalize H1 = H at hP hS ⊢
        have hP : va_P (dC, dI) cl_all (xw cI cJ cB cZ cN ha NA m_rows m_columns m_prime m_small m_pivots m_freeRows m_freeColumns m_smallMinor m_fields m_rowCounts m_elements m_numbers m_known m_ranks m_rankOf m_signOf m_order m_sizes m_coefficients m_choices m_sorted ++ po cI NA ND u_2 pm_16 u_4) H := hP
        have hD : va_D A (xw cI cJ cB cZ cN ha NA m_rows m_columns m_prime m_small m_pivots m_freeRows m_freeColumns m_smallMinor m_fields m_rowCounts m_elements m_numbers m_known m_ranks m_rankOf m_signOf m_order m_sizes m_coefficients m_choices m_sorted ++ po cI NA ND u_2 pm_16 u_4) := hD
        obtain ⟨x_19, ex_19⟩ : ∃ y : Int32, y = v2_10 + 1 := ⟨_, rfl⟩
        replace h := ck_nm_s h ex_19
        refine lv_iinc (v := x_19) (lv' := [(2, .int x_19), (0, .ref (ha 0)), (1, .int i0)]) hx hb d_Mo_settle_115 hl (k := 2) rfl (by rw [ex_19]; rfl) (by decide) rfl (fun ls hl => ?_)
        refine lv_goto (tgt := 98) hx hb d_Mo_settle_118 (by decide) ?_
        exact J_98 _ _ h _ _ hP hD hS _ (lv_sub hl [1, 2, 0] rfl)
  · replace h := ck_if_f h c_1
    refine lv_aload_n hx hb d_Mo_settle_7 rfl (lv_at hl 0 rfl) ?_
    refine lv_aload_n hx hb d_Mo_settle_8 rfl (lv_at hl 0 rfl) ?_
    refine va_get (D := (dC, dI)) (ci := 6) (v := .ref (ha 2)) (C := "BasisWalkModel") (T := T_Mo) (N := 31) hx hb hts iw1 hown hK hP 0 rfl rfl 9 (by decide) fl6 (fun _ h9 => h9) rfl d_Mo_settle_9 ?_
    refine lv_bipush (v := 12) hx hb d_Mo_settle_12 (by decide) ?_
    refine lv_iload_n hx hb d_Mo_settle_14 rfl (lv_at hl 1 rfl) ?_
    refine lv_imul hx hb d_Mo_settle_15 ?_
    refine lv_aload_n hx hb d_Mo_settle_16 rfl (lv_at hl 0 rfl) ?_
    refine va_get (D := (dC, dI)) (ci := 6) (v := .ref (ha 3)) (C := "BasisWalkModel") (T := T_Mo) (N := 31) hx hb hts iw1 hown hK hP 0 rfl rfl 13 (by decide) fl2 (fun _ h9 => h9) rfl d_Mo_settle_17 ?_
    refine lv_iload_n hx hb d_Mo_settle_20 rfl (lv_at hl 1 rfl) ?_
    obtain ⟨g_20, h⟩ := ck_in_s h
    refine va_iald hx hb hK hP 3 0 rfl rfl g_20 d_Mo_settle_21 ?_
    refine lv_iadd hx hb d_Mo_settle_22 ?_
    obtain ⟨g_21, h⟩ := ck_in_s h
    refine va_iald hx hb hK hP 2 0 rfl rfl g_21 d_Mo_settle_23 ?_
    obtain ⟨r_22, hc_23, h⟩ := ck_b1_s h
    have hPc := hP.sub (ws' := [((ha 0), .inr (6, [.ref (NA 192), .ref (NA 193), .ref (NA 194), .ref (NA 195), .ref (NA 196), .ref (NA 197), .ref (NA 198), .ref (NA 199), .ref (ha 1), .ref (ha 2), .int m_rows, .int m_columns, .int m_prime, .ref (ha 3), .ref (ha 4), .ref (ha 5), .ref (ha 6), .ref (ha 7), .ref (ha 8), .ref (ha 9), .ref (ha 10), .ref (ha 11), .ref (ha 12), .ref (ha 13), .ref (ha 14), .ref (ha 15), .ref (ha 16), .ref (ha 17), .ref (ha 18), .ref (ha 19), .ref (ha 20)]))]) [0] rfl
    have hDc := hD.sub (ws' := [((ha 0), .inr (6, [.ref (NA 192), .ref (NA 193), .ref (NA 194), .ref (NA 195), .ref (NA 196), .ref (NA 197), .ref (NA 198), .ref (NA 199), .ref (ha 1), .ref (ha 2), .int m_rows, .int m_columns, .int m_prime, .ref (ha 3), .ref (ha 4), .ref (ha 5), .ref (ha 6), .ref (ha 7), .ref (ha 8), .ref (ha 9), .ref (ha 10), .ref (ha 11), .ref (ha 12), .ref (ha 13), .ref (ha 14), .ref (ha 15), .ref (ha 16), .ref (ha 17), .ref (ha 18), .ref (ha 19), .ref (ha 20)]))]) [0] (by decide) rfl
    have hFc := va_free (wc := [((ha 0), .inr (6, [.ref (NA 192), .ref (NA 193), .ref (NA 194), .ref (NA 195), .ref (NA 196), .ref (NA 197), .ref (NA 198), .ref (NA 199), .ref (ha 1), .ref (ha 2), .int m_rows, .int m_columns, .int m_prime, .ref (ha 3), .ref (ha 4), .ref (ha 5), .ref (ha 6), .ref (ha 7), .ref (ha 8), .ref (ha 9), .ref (ha 10), .ref (ha 11), .ref (ha 12), .ref (ha 13), .ref (ha 14), .ref (ha 15), .ref (ha 16), .ref (ha 17), .ref (ha 18), .ref (ha 19), .ref (ha 20)]))]) hD hS hA [0] rfl
    refine va_calli (va_runV (As := [.int (m_small ((12 * i0) + (m_pivots i0.toNatClampNeg)).toNatClampNeg)]) (rest := []) ⟨hx, hb, hml, hown, hts⟩ (c_R_inverse l dC dI cI cJ cB cZ cT cN H.size (ha 0) (NA 192) (NA 193) (NA 194) (NA 195) (NA 196) (NA 197) (NA 198) (NA 199) (ha 1) (ha 2) (ha 3) (ha 4) (ha 5) (ha 6) (ha 7) (ha 8) (ha 9) (ha 10) (ha 11) (ha 12) (ha 13) (ha 14) (ha 15) (ha 16) (ha 17) (ha 18) (ha 19) (ha 20) m_rows m_columns m_prime (m_small ((12 * i0) + (m_pivots i0.toNatClampNeg)).toNatClampNeg) _ hc_23) (cwV 1 hts (tb_V tw_518 tw_520 tp_26 tw_6 tw_521) rfl rfl rfl (by decide +kernel) ⟨Nat.le_of_ble_eq_true rfl, Nat.le_of_ble_eq_true rfl⟩) ⟨fun a U g mk q => by obtain ⟨q0, q1, qP, qK, qN, qD⟩ := q; exact ⟨q0, q1, qP, va_K.moved (u := U) (U := U.calling g mk a) (Vm.Alike.refl U.vm) qK, qN.same rfl, qD⟩, va_recv hK hPc (ci := 6) (q0 := 0) rfl rfl, fun U hU hW => ⟨rfl, by rw [hU], by rw [hU]; exact hPc, va_K.moved hW.alike hK, hN.warm hW, hDc.weaken (fun _ _ _ _ => trivial)⟩⟩ rfl rfl hl.1 rfl (lv_room (Nat.le_of_ble_eq_true rfl)) d_Mo_settle_24 ⟨Nat.zero_le _, Nat.zero_le _⟩) hS (fun q _ h => hFc q h) hFc (fun rr u t H1 locs ht hvm hw hB hz1 hk1 hS => ?_)
    replace hw := hw.symm
    subst hw
    obtain ⟨hP1, -, hD1⟩ := hB
    rw [ht] at hP1
    obtain ⟨hP, hD⟩ := pw_back (ws' := (xw cI cJ cB cZ cN ha NA m_rows m_columns m_prime m_small m_pivots m_freeRows m_freeColumns m_smallMinor m_fields m_rowCounts m_elements m_numbers m_known m_ranks m_rankOf m_signOf m_order m_sizes m_coefficients m_choices m_sorted ++ po cI NA ND pn pm pd)) (w1 := [((ha 0), .inr (6, [.ref (NA 192), .ref (NA 193), .ref (NA 194), .ref (NA 195), .ref (NA 196), .ref (NA 197), .ref (NA 198), .ref (NA 199), .ref (ha 1), .ref (ha 2), .int m_rows, .int m_columns, .int m_prime, .ref (ha 3), .ref (ha 4), .ref (ha 5), .ref (ha 6), .ref (ha 7), .ref (ha 8), .ref (ha 9), .ref (ha 10), .ref (ha 11), .ref (ha 12), .ref (ha 13), .ref (ha 14), .ref (ha 15), .ref (ha 16), .ref (ha 17), .ref (ha 18), .ref (ha 19), .ref (ha 20)]))]) hP hD hk1 hP1 (fun k => match k with | 0 => rfl | 1 => rfl | 2 => rfl | 3 => rfl | 4 => rfl | 5 => rfl | 6 => rfl | 7 => rfl | 8 => rfl | 9 => rfl | 10 => rfl | 11 => rfl | 12 => rfl | 13 => rfl | 14 => rfl | 15 => rfl | 16 => rfl | 17 => rfl | 18 => rfl | 19 => rfl | 20 => rfl | q + 21 => rfl) (fun k q hq => match k, hq with | 0, hq => Or.inl ⟨0, hq⟩ | 1, hq => Or.inr ⟨hq, pw_off (k := 1) hD [0] rfl hq (by decide)⟩ | 2, hq => Or.inr ⟨hq, pw_off (k := 2) hD [0] rfl hq (by decide)⟩ | 3, hq => Or.inr ⟨hq, pw_off (k := 3) hD [0] rfl hq (by decide)⟩ | 4, hq => Or.inr ⟨hq, pw_off (k := 4) hD [0] rfl hq (by decide)⟩ | 5, hq => Or.inr ⟨hq, pw_off (k := 5) hD [0] rfl hq (by decide)⟩ | 6, hq => Or.inr ⟨hq, pw_off (k := 6) hD [0] rfl hq (by decide)⟩ | 7, hq => Or.inr ⟨hq, pw_off (k := 7) hD [0] rfl hq (by decide)⟩ | 8, hq => Or.inr ⟨hq, pw_off (k := 8) hD [0] rfl hq (by decide)⟩ | 9, hq => Or.inr ⟨hq, pw_off (k := 9) hD [0] rfl hq (by decide)⟩ | 10, hq => Or.inr ⟨hq, pw_off (k := 10) hD [0] rfl hq (by decide)⟩ | 11, hq => Or.inr ⟨hq, pw_off (k := 11) hD [0] rfl hq (by decide)⟩ | 12, hq => Or.inr ⟨hq, pw_off (k := 12) hD [0] rfl hq (by decide)⟩ | 13, hq => Or.inr ⟨hq, pw_off (k := 13) hD [0] rfl hq (by decide)⟩ | 14, hq => Or.inr ⟨hq, pw_off (k := 14) hD [0] rfl hq (by decide)⟩ | 15, hq => Or.inr ⟨hq, pw_off (k := 15) hD [0] rfl hq (by decide)⟩ | 16, hq => Or.inr ⟨hq, pw_off (k := 16) hD [0] rfl hq (by decide)⟩ | 17, hq => Or.inr ⟨hq, pw_off (k := 17) hD [0] rfl hq (by decide)⟩ | 18, hq => Or.inr ⟨hq, pw_off (k := 18) hD [0] rfl hq (by decide)⟩ | 19, hq => Or.inr ⟨hq, pw_off (k := 19) hD [0] rfl hq (by decide)⟩ | 20, hq => Or.inr ⟨hq, pw_off (k := 20) hD [0] rfl hq (by decide)⟩ | q + 21, hq => Or.inr ⟨hq, pw_off (k := q + 21) hD [0] rfl hq (by simp only [List.mem_cons, List.not_mem_nil, or_false, not_or]; omega)⟩)
    generalize H1 = H at hP hS ⊢
    have hP : va_P (dC, dI) cl_all (xw cI cJ cB cZ cN ha NA m_rows m_columns m_prime m_small m_pivots m_freeRows m_freeColumns m_smallMinor m_fields m_rowCounts m_elements m_numbers m_known m_ranks m_rankOf m_signOf m_order m_sizes m_coefficients m_choices m_sorted ++ po cI NA ND pn pm pd) H := hP
    have hD : va_D A (xw cI cJ cB cZ cN ha NA m_rows m_columns m_prime m_small m_pivots m_freeRows m_freeColumns m_smallMinor m_fields m_rowCounts m_elements m_numbers m_known m_ranks m_rankOf m_signOf m_order m_sizes m_coefficients m_choices m_sorted ++ po cI NA ND pn pm pd) := hD
    refine lv_istore_n (lv' := [(2, .int r_22), (0, .ref (ha 0)), (1, .int i0)]) hx hb d_Mo_settle_27 rfl hl (by decide) rfl (fun ls hl => ?_)
    refine lv_iconst (v := 0) hx hb d_Mo_settle_28 (by decide) ?_
    refine lv_istore_n (lv' := [(3, .int 0), (2, .int r_22), (0, .ref (ha 0)), (1, .int i0)]) hx hb d_Mo_settle_29 rfl hl (by decide) rfl (fun ls hl => ?_)
    refine lo2_W (r := r) (fun (v3_24 : Int32) (w_25 : Nat → Int32) => ∀ (H : Heap) (locs : List Loc), va_P (dC, dI) cl_all (xw cI cJ cB cZ cN ha NA m_rows m_columns m_prime w_25 m_pivots m_freeRows m_freeColumns m_smallMinor m_fields m_rowCounts m_elements m_numbers m_known m_ranks m_rankOf m_signOf m_order m_sizes m_coefficients m_choices m_sorted ++ po cI NA ND pn pm pd) H → va_D A (xw cI cJ cB cZ cN ha NA m_rows m_columns m_prime w_25 m_pivots m_freeRows m_freeColumns m_smallMinor m_fields m_rowCounts m_elements m_numbers m_known m_ranks m_rankOf m_signOf m_order m_sizes m_coefficients m_choices m_sorted ++ po cI NA ND pn pm pd) → va_S A s.heap H locs → ∀ ls : Array Slot, lv_has ls 4 [(0, .ref (ha 0)), (1, .int i0), (2, .int r_22), (3, .int v3_24)] → W p l e ({ frames := 5, cells := 0, slots := 0, locals := 124 } : Room) s m AR below meth c H locs 0 0 QQ (F0 m 30 ls [])) ?_ _ _ _ h _ _ hP hD hS _ (lv_sub hl [2, 3, 1, 0] rfl)
    intro k_30 v3_24 w_25 J_30 h H locs hP hD hS ls hl
    refine lv_iload_n hx hb d_Mo_settle_30 rfl (lv_at hl 3 rfl) ?_
    refine lv_aload_n hx hb d_Mo_settle_31 rfl (lv_at hl 0 rfl) ?_
    refine va_get (D := (dC, dI)) (ci := 6) (v := .int m_columns) (C := "BasisWalkModel") (T := T_Mo) (N := 31) hx hb hts iw1 hown hK hP 0 rfl rfl 11 (by decide) fl5 (fun _ h9 => h9) rfl d_Mo_settle_32 ?_
    refine lv_icmp_ge (tgt := 73) hx hb d_Mo_settle_35 (by decide) (fun c_26 => ?_) (fun c_26 => ?_)
    · replace h := ck_if_t h c_26
      obtain rfl := Option.some.inj h
      subst hQ
      exact W.vret hx hb hr (fun t ht hW => ⟨⟨(w_25, pn, pm, pd), rfl, rfl, by rw [ht]; exact hP, va_K.moved hW.alike hK, hD⟩, hS.F ht⟩) hS.2.2 d_Mo_settle_73
    · replace h := ck_if_f h c_26
      refine lv_aload_n hx hb d_Mo_settle_38 rfl (lv_at hl 0 rfl) ?_
      refine va_get (D := (dC, dI)) (ci := 6) (v := .ref (ha 2)) (C := "BasisWalkModel") (T := T_Mo) (N := 31) hx hb hts iw1 hown hK hP 0 rfl rfl 9 (by decide) fl6 (fun _ h9 => h9) rfl d_Mo_settle_39 ?_
      refine lv_bipush (v := 12) hx hb d_Mo_settle_42 (by decide) ?_
      refine lv_iload_n hx hb d_Mo_settle_44 rfl (lv_at hl 1 rfl) ?_
      refine lv_imul hx hb d_Mo_settle_45 ?_
      refine lv_iload_n hx hb d_Mo_settle_46 rfl (lv_at hl 3 rfl) ?_
      refine lv_iadd hx hb d_Mo_settle_47 ?_
      refine lv_aload_n hx hb d_Mo_settle_48 rfl (lv_at hl 0 rfl) ?_
      refine va_get (D := (dC, dI)) (ci := 6) (v := .ref (ha 2)) (C := "BasisWalkModel") (T := T_Mo) (N := 31) hx hb hts iw1 hown hK hP 0 rfl rfl 9 (by decide) fl6 (fun _ h9 => h9) rfl d_Mo_settle_49 ?_
      refine lv_bipush (v := 12) hx hb d_Mo_settle_52 (by decide) ?_
      refine lv_iload_n hx hb d_Mo_settle_54 rfl (lv_at hl 1 rfl) ?_
      refine lv_imul hx hb d_Mo_settle_55 ?_
      refine lv_iload_n hx hb d_Mo_settle_56 rfl (lv_at hl 3 rfl) ?_
      refine lv_iadd hx hb d_Mo_settle_57 ?_
      obtain ⟨g_27, h⟩ := ck_in_s h
      refine va_iald hx hb hK hP 2 0 rfl rfl g_27 d_Mo_settle_58 ?_
      refine lv_iload_n hx hb d_Mo_settle_59 rfl (lv_at hl 2 rfl) ?_
      refine lv_imul hx hb d_Mo_settle_60 ?_
      refine lv_aload_n hx hb d_Mo_settle_61 rfl (lv_at hl 0 rfl) ?_
      refine va_get (D := (dC, dI)) (ci := 6) (v := .int m_prime) (C := "BasisWalkModel") (T := T_Mo) (N := 31) hx hb hts iw1 hown hK hP 0 rfl rfl 12 (by decide) fl0 (fun _ h9 => h9) rfl d_Mo_settle_62 ?_
      obtain ⟨g_28, h⟩ := ck_nz_s h
      refine lv_irem hx hb d_Mo_settle_65 g_28 ?_
      obtain ⟨g_29, h⟩ := ck_in_s h
      refine va_iast hx hb hK hP hD hS 2 0 rfl rfl g_29 d_Mo_settle_66 (fun H locs hP hD hS => ?_)
      have hP : va_P (dC, dI) cl_all (xw cI cJ cB cZ cN ha NA m_rows m_columns m_prime (upd w_25 ((12 * i0) + v3_24).toNatClampNeg (((w_25 ((12 * i0) + v3_24).toNatClampNeg) * r_22) - ((w_25 ((12 * i0) + v3_24).toNatClampNeg) * r_22) / m_prime * m_prime)) m_pivots m_freeRows m_freeColumns m_smallMinor m_fields m_rowCounts m_elements m_numbers m_known m_ranks m_rankOf m_signOf m_order m_sizes m_coefficients m_choices m_sorted ++ po cI NA ND pn pm pd) H := hP
      have hD : va_D A (xw cI cJ cB cZ cN ha NA m_rows m_columns m_prime (upd w_25 ((12 * i0) + v3_24).toNatClampNeg (((w_25 ((12 * i0) + v3_24).toNatClampNeg) * r_22) - ((w_25 ((12 * i0) + v3_24).toNatClampNeg) * r_22) / m_prime * m_prime)) m_pivots m_freeRows m_freeColumns m_smallMinor m_fields m_rowCounts m_elements m_numbers m_known m_ranks m_rankOf m_signOf m_order m_sizes m_coefficients m_choices m_sorted ++ po cI NA ND pn pm pd) := hD
      obtain ⟨x_30, ex_30⟩ : ∃ y : Int32, y = v3_24 + 1 := ⟨_, rfl⟩
      replace h := ck_nm_s h ex_30
      refine lv_iinc (v := x_30) (lv' := [(3, .int x_30), (0, .ref (ha 0)), (1, .int i0), (2, .int r_22)]) hx hb d_Mo_settle_67 hl (k := 3) rfl (by rw [ex_30]; rfl) (by decide) rfl (fun ls hl => ?_)
      refine lv_goto (tgt := 30) hx hb d_Mo_settle_70 (by decide) ?_
      exact J_30 _ _ h _ _ hP hD hS _ (lv_sub hl [1, 2, 3, 0] rfl)
