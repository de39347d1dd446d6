theorem d_Mo_rank_0 : decode prog_7_method_40_code 0 = .ok (.aload_n 0, 1) := by decide +kernel
theorem d_Mo_rank_1 : decode prog_7_method_40_code 1 = .ok (.iload_n 1, 1) := by decide +kernel
theorem d_Mo_rank_2 : decode prog_7_method_40_code 2 = .ok (.invokevirtual 254, 3) := by decide +kernel
theorem d_Mo_rank_5 : decode prog_7_method_40_code 5 = .ok (.ifCond .eq 25, 3) := by decide +kernel
theorem d_Mo_rank_8 : decode prog_7_method_40_code 8 = .ok (.iload_n 2, 1) := by decide +kernel
theorem d_Mo_rank_9 : decode prog_7_method_40_code 9 = .ok (.ifCond .lt 21, 3) := by decide +kernel
theorem d_Mo_rank_12 : decode prog_7_method_40_code 12 = .ok (.iload_n 2, 1) := by decide +kernel
theorem d_Mo_rank_13 : decode prog_7_method_40_code 13 = .ok (.aload_n 0, 1) := by decide +kernel
theorem d_Mo_rank_14 : decode prog_7_method_40_code 14 = .ok (.iload_n 1, 1) := by decide +kernel
theorem d_Mo_rank_15 : decode prog_7_method_40_code 15 = .ok (.invokevirtual 226, 3) := by decide +kernel
theorem d_Mo_rank_18 : decode prog_7_method_40_code 18 = .ok (.if_icmp .gt 12, 3) := by decide +kernel
theorem d_Mo_rank_21 : decode prog_7_method_40_code 21 = .ok (.aload_n 0, 1) := by decide +kernel
theorem d_Mo_rank_22 : decode prog_7_method_40_code 22 = .ok (.iload_n 1, 1) := by decide +kernel
theorem d_Mo_rank_23 : decode prog_7_method_40_code 23 = .ok (.iload_n 2, 1) := by decide +kernel
theorem d_Mo_rank_24 : decode prog_7_method_40_code 24 = .ok (.invokevirtual 222, 3) := by decide +kernel
theorem d_Mo_rank_27 : decode prog_7_method_40_code 27 = .ok (.goto 4, 3) := by decide +kernel
theorem d_Mo_rank_30 : decode prog_7_method_40_code 30 = .ok (.iconst (-1), 1) := by decide +kernel
theorem d_Mo_rank_31 : decode prog_7_method_40_code 31 = .ok (.ireturn, 1) := by decide +kernel
def f_R_rank (m_rows : Int32) (m_columns : Int32) (m_prime : Int32) (m_small : Nat → Int32) (m_pivots : Nat → Int32) (m_freeRows : Nat → Int32) (m_freeColumns : Nat → Int32) (m_smallMinor : Nat → Int32) (m_fields : Nat → Int32) (m_rowCounts : Nat → Int32) (m_elements : Nat → Int32) (m_numbers : Nat → Int32) (m_known : Nat → Int32) (m_ranks : Nat → Int32) (m_rankOf : Nat → Int32) (m_signOf : Nat → Int32) (m_order : Nat → Int32) (m_sizes : Nat → Int32) (pn : Nat → Int32) (pm : Nat → Int32) (pd : Nat → Nat → Int32) (t0 : Int32) (set0 : Int32) : Option (Int32 × Int32 × Int32 × Int32 × (Nat → Int32) × (Nat → Int32) × (Nat → Int32) × (Nat → Int32) × (Nat → Int32) × (Nat → Int32) × (Nat → Int32) × (Nat → Int32) × (Nat → Int32) × (Nat → Int32) × (Nat → Int32) × (Nat → Nat → Int32)) :=
  ck_b16 (f_R_learn m_rows m_columns m_prime m_small m_pivots m_freeRows m_freeColumns m_smallMinor m_fields m_rowCounts m_elements m_numbers m_known m_ranks m_rankOf m_signOf m_order m_sizes pn pm pd t0) <| fun r_1 u_2 u_3 u_4 u_5 u_6 u_7 u_8 u_9 u_10 u_11 u_12 u_13 u_14 u_15 u_16 => ck_if (r_1 = 0) (some ((-1), u_2, u_3, u_4, u_5, u_6, u_7, u_8, u_9, u_10, u_11, u_12, u_13, u_14, u_15, u_16)) (ck_if (set0 < 0) (some ((-1), u_2, u_3, u_4, u_5, u_6, u_7, u_8, u_9, u_10, u_11, u_12, u_13, u_14, u_15, u_16)) (ck_b1 (f_R_whole 4 m_elements t0) <| fun r_20 => ck_if (r_20 < set0) (some ((-1), u_2, u_3, u_4, u_5, u_6, u_7, u_8, u_9, u_10, u_11, u_12, u_13, u_14, u_15, u_16)) (ck_b1 (f_R_r 16384 u_12 t0 set0) <| fun r_23 => some (r_23, u_2, u_3, u_4, u_5, u_6, u_7, u_8, u_9, u_10, u_11, u_12, u_13, u_14, u_15, u_16))))
set_option maxHeartbeats 4000000 in
set_option maxRecDepth 100000 in
theorem c_R_rank (l : Launch) (dC : Nat → ClassId) (dI : Nat → Nat → Nat) (cI cJ cB cZ cT cN : ClassId) (sz : Nat) (ha NA ND : Nat → Nat) (m_rows : Int32) (m_columns : Int32) (m_prime : Int32) (m_small : Nat → Int32) (m_pivots : Nat → Int32) (m_freeRows : Nat → Int32) (m_freeColumns : Nat → Int32) (m_smallMinor : Nat → Int32) (m_fields : Nat → Int32) (m_rowCounts : Nat → Int32) (m_elements : Nat → Int32) (m_numbers : Nat → Int32) (m_known : Nat → Int32) (m_ranks : Nat → Int32) (m_rankOf : Nat → Int32) (m_signOf : Nat → Int32) (m_order : Nat → Int32) (m_sizes : Nat → Int32) (m_coefficients : Nat → Int64) (m_choices : Nat → Int64) (m_sorted : Nat → Int32) (pn : Nat → Int32) (pm : Nat → Int32) (pd : Nat → Nat → Int32) (t0 : Int32) (set0 : Int32) (r : Int32 × Int32 × Int32 × Int32 × (Nat → Int32) × (Nat → Int32) × (Nat → Int32) × (Nat → Int32) × (Nat → Int32) × (Nat → Int32) × (Nat → Int32) × (Nat → Int32) × (Nat → Int32) × (Nat → Int32) × (Nat → Int32) × (Nat → Nat → Int32)) (h : f_R_rank m_rows m_columns m_prime m_small m_pivots m_freeRows m_freeColumns m_smallMinor m_fields m_rowCounts m_elements m_numbers m_known m_ranks m_rankOf m_signOf m_order m_sizes pn pm pd t0 set0 = some r) : Met l y_Mo_rank w_Mo_rank ({ frames := 8, cells := 0, slots := 0, locals := 197 } : Room) (va_Pc [.ref (ha 0), .int t0, .int set0] (fun U => U.heap.size = sz ∧ va_P (dC, dI) cl_all (xw cI cJ cB cZ cN ha NA m_rows m_columns m_prime m_small m_pivots m_freeRows m_freeColumns m_smallMinor m_fields m_rowCounts m_elements m_numbers m_known m_ranks m_rankOf m_signOf m_order m_sizes m_coefficients m_choices m_sorted ++ po cI NA ND pn pm pd) U.heap ∧ va_K (dC, dI) cl_all [(cI, .int), (cJ, .long), (cB, .byte), (cZ, .boolean), (cT, .object "BasisWalk$Table"), (cN, .object "BasisWalkModel$Num")] U ∧ NW U ∧ va_D (fun _ => True) (xw cI cJ cB cZ cN ha NA m_rows m_columns m_prime m_small m_pivots m_freeRows m_freeColumns m_smallMinor m_fields m_rowCounts m_elements m_numbers m_known m_ranks m_rankOf m_signOf m_order m_sizes m_coefficients m_choices m_sorted ++ po cI NA ND pn pm pd))) (va_Qi (fun (v : Int32) (u : Int32 × Int32 × Int32 × (Nat → Int32) × (Nat → Int32) × (Nat → Int32) × (Nat → Int32) × (Nat → Int32) × (Nat → Int32) × (Nat → Int32) × (Nat → Int32) × (Nat → Int32) × (Nat → Int32) × (Nat → Int32) × (Nat → Nat → Int32)) => (v, u) = r) (fun (u : Int32 × Int32 × Int32 × (Nat → Int32) × (Nat → Int32) × (Nat → Int32) × (Nat → Int32) × (Nat → Int32) × (Nat → Int32) × (Nat → Int32) × (Nat → Int32) × (Nat → Int32) × (Nat → Int32) × (Nat → Int32) × (Nat → Nat → Int32)) (t : State) => va_P (dC, dI) cl_all (xw cI cJ cB cZ cN ha NA u.1 u.2.1 u.2.2.1 u.2.2.2.1 u.2.2.2.2.1 u.2.2.2.2.2.1 u.2.2.2.2.2.2.1 u.2.2.2.2.2.2.2.1 m_fields m_rowCounts m_elements m_numbers u.2.2.2.2.2.2.2.2.1 u.2.2.2.2.2.2.2.2.2.1 u.2.2.2.2.2.2.2.2.2.2.1 u.2.2.2.2.2.2.2.2.2.2.2.1 m_order m_sizes m_coefficients m_choices m_sorted ++ po cI NA ND u.2.2.2.2.2.2.2.2.2.2.2.2.1 u.2.2.2.2.2.2.2.2.2.2.2.2.2.1 u.2.2.2.2.2.2.2.2.2.2.2.2.2.2) t.heap ∧ va_K (dC, dI) cl_all [(cI, .int), (cJ, .long), (cB, .byte), (cZ, .boolean), (cT, .object "BasisWalk$Table"), (cN, .object "BasisWalkModel$Num")] t ∧ va_D (va_A (xw cI cJ cB cZ cN ha NA m_rows m_columns m_prime m_small m_pivots m_freeRows m_freeColumns m_smallMinor m_fields m_rowCounts m_elements m_numbers m_known m_ranks m_rankOf m_signOf m_order m_sizes m_coefficients m_choices m_sorted ++ po cI NA ND pn pm pd) sz) (xw cI cJ cB cZ cN ha NA u.1 u.2.1 u.2.2.1 u.2.2.2.1 u.2.2.2.2.1 u.2.2.2.2.2.1 u.2.2.2.2.2.2.1 u.2.2.2.2.2.2.2.1 m_fields m_rowCounts m_elements m_numbers u.2.2.2.2.2.2.2.2.1 u.2.2.2.2.2.2.2.2.2.1 u.2.2.2.2.2.2.2.2.2.2.1 u.2.2.2.2.2.2.2.2.2.2.2.1 m_order m_sizes m_coefficients m_choices m_sorted ++ po cI NA ND u.2.2.2.2.2.2.2.2.2.2.2.2.1 u.2.2.2.2.2.2.2.2.2.2.2.2.2.1 u.2.2.2.2.2.2.2.2.2.2.2.2.2.2)) (va_A (xw cI cJ cB cZ cN ha NA m_rows m_columns m_prime m_small m_pivots m_freeRows m_freeColumns m_smallMinor m_fields m_rowCounts m_elements m_numbers m_known m_ranks m_rankOf m_signOf m_order m_sizes m_coefficients m_choices m_sorted ++ po cI NA ND pn pm pd) sz)) 0 0 (va_A (xw cI cJ cB cZ cN ha NA m_rows m_columns m_prime m_small m_pivots m_freeRows m_freeColumns m_smallMinor m_fields m_rowCounts m_elements m_numbers m_known m_ranks m_rankOf m_signOf m_order m_sizes m_coefficients m_choices m_sorted ++ po cI NA ND pn pm pd) sz) := by
  refine Met.ofW (cc := prog_7_method_40_code) (maxL := 3) (ret := (Option.some Jvm.ClassFile.FieldType.int)) (by decide) rfl ?_
  intro p e s m args below meth c s₁ B hml hv
  obtain ⟨hAR, hsz, hP, hK, hN, hD0⟩ := hv
  have hx := B.exec
  have hb := B.bytes
  have hr := B.returns
  have hts := atoms_spec (ws := w_Mo_rank) B.pre
  have hown : s.vm.findClass "BasisWalkModel" = some m.cls := findClass_of_methodNamed B.named
  have hlocks := B.notSynchronized
  clear B
  subst hsz
  have hD := hD0.self (sz := s.heap.size)
  generalize hAe : va_A (xw cI cJ cB cZ cN ha NA m_rows m_columns m_prime m_small m_pivots m_freeRows m_freeColumns m_smallMinor m_fields m_rowCounts m_elements m_numbers m_known m_ranks m_rankOf m_signOf m_order m_sizes m_coefficients m_choices m_sorted ++ po cI NA ND pn pm pd) s.heap.size = A at hD ⊢
  have hA : ∀ q : Nat, s.heap.size ≤ q → A q := fun q h => by rw [← hAe]; exact Or.inr h
  clear hAe hD0
  have hS : va_S A s.heap s.heap [] := va_S.rf
  have hl := lv_entry ([.ref (ha 0), .int t0, .int set0]) (n := 3) (Nat.le_of_ble_eq_true rfl)
  subst hAR
  rw [lg_entry_eq]
  generalize (lg_sl ([.ref (ha 0), .int t0, .int set0]) ++ List.replicate (3 - (lg_sl ([.ref (ha 0), .int t0, .int set0])).length) Slot.unset).toArray = ls at hl ⊢
  have hl : lv_has ls 3 [(0, .ref (ha 0)), (1, .int t0), (2, .int set0)] := hl
  change W p l e ({ frames := 8, cells := 0, slots := 0, locals := 197 } : Room) s m _ below meth c s.heap [] 0 0 _ _
  generalize hARe : ([.ref (ha 0), .int t0, .int set0] : List Value).toArray = AR at hts ⊢
  clear hARe
  generalize hQ : MQ below _ AR s 0 0 A = QQ
  obtain ⟨H, hHe⟩ : ∃ H : Heap, H = s.heap := ⟨_, rfl⟩
  rw [← hHe] at hP ⊢
  replace hS : va_S A s.heap H [] := by rw [hHe]; exact va_S.rf
  clear hHe
  unfold f_R_rank at h
  refine lv_aload_n hx hb d_Mo_rank_0 rfl (lv_at hl 0 rfl) ?_
  refine lv_iload_n hx hb d_Mo_rank_1 rfl (lv_at hl 1 rfl) ?_
  obtain ⟨r_1, u_2, u_3, u_4, u_5, u_6, u_7, u_8, u_9, u_10, u_11, u_12, u_13, u_14, u_15, u_16, hc_17, h⟩ := ck_b16_s h
  have hPc := hP
  have hDc := hD
  have hFc := pw_free hDc hS hA
  refine va_calli (va_runV (As := [.int t0]) (rest := []) ⟨hx, hb, hml, hown, hts⟩ (c_R_learn l dC dI cI cJ cB cZ cT cN H.size ha NA ND m_rows m_columns m_prime m_small m_pivots m_freeRows m_freeColumns m_smallMinor m_fields m_rowCounts m_elements m_numbers m_known m_ranks m_rankOf m_signOf m_order m_sizes m_coefficients m_choices m_sorted pn pm pd t0 _ hc_17) (cwV 1 hts (tb_V tw_473 tw_475 tp_18 tw_6 tw_476) rfl rfl rfl (by decide +kernel) ⟨Nat.le_of_ble_eq_true rfl, Nat.le_of_ble_eq_true rfl⟩) ⟨fun a U g mk q => by obtain ⟨q0, q1, qP, qK, qN, qD⟩ := q; exact ⟨q0, q1, qP, va_K.moved (u := U) (U := U.calling g mk a) (Vm.Alike.refl U.vm) qK, qN.same rfl, qD⟩, va_recv hK hPc (ci := 6) (q0 := 0) rfl rfl, fun U hU hW => ⟨rfl, by rw [hU], by rw [hU]; exact hPc, va_K.moved hW.alike hK, hN.warm hW, hDc.weaken (fun _ _ _ _ => trivial)⟩⟩ rfl rfl hl.1 rfl (lv_room (Nat.le_of_ble_eq_true rfl)) d_Mo_rank_2 ⟨Nat.zero_le _, Nat.zero_le _⟩) hS (fun q _ h => hFc q h) hFc (fun rr u t H1 locs ht hvm hw hB hz1 hk1 hS => ?_)
  obtain ⟨e1, e2⟩ := Prod.mk.inj hw
  replace e1 := e1.symm
  replace e2 := e2.symm
  subst e1
  subst e2
  obtain ⟨hP1, -, hD1⟩ := hB
  rw [ht] at hP1
  have hP : va_P (dC, dI) cl_all (xw cI cJ cB cZ cN ha NA u_2 u_3 u_4 u_5 u_6 u_7 u_8 u_9 m_fields m_rowCounts m_elements m_numbers u_10 u_11 u_12 u_13 m_order m_sizes m_coefficients m_choices m_sorted ++ po cI NA ND u_14 u_15 u_16) H1 := hP1
  have hD : va_D A (xw cI cJ cB cZ cN ha NA u_2 u_3 u_4 u_5 u_6 u_7 u_8 u_9 m_fields m_rowCounts m_elements m_numbers u_10 u_11 u_12 u_13 m_order m_sizes m_coefficients m_choices m_sorted ++ po cI NA ND u_14 u_15 u_16) := hD1.weaken (fun _ _ _ h => hFc _ h)
  generalize H1 = H at hP hS ⊢
  have hP : va_P (dC, dI) cl_all (xw cI cJ cB cZ cN ha NA u_2 u_3 u_4 u_5 u_6 u_7 u_8 u_9 m_fields m_rowCounts m_elements m_numbers u_10 u_11 u_12 u_13 m_order m_sizes m_coefficients m_choices m_sorted ++ po cI NA ND u_14 u_15 u_16) H := hP
  have hD : va_D A (xw cI cJ cB cZ cN ha NA u_2 u_3 u_4 u_5 u_6 u_7 u_8 u_9 m_fields m_rowCounts m_elements m_numbers u_10 u_11 u_12 u_13 m_order m_sizes m_coefficients m_choices m_sorted ++ po cI NA ND u_14 u_15 u_16) := hD
  refine lv_if_eq (tgt := 30) hx hb d_Mo_rank_5 (by decide) (fun c_18 => ?_) (fun c_18 => ?_)
  · replace h := ck_if_t h c_18
    refine lv_iconst (v := (-1)) hx hb d_Mo_rank_30 (by decide) ?_
    obtain rfl := Option.some.inj h
    subst hQ
    exact W.iret (v := (-1)) hx hb hr (fun t ht hW => ⟨⟨(-1), (u_2, u_3, u_4, u_5, u_6, u_7, u_8, u_9, u_10, u_11, u_12, u_13, u_14, u_15, u_16), rfl, rfl, by rw [ht]; exact hP, va_K.moved hW.alike hK, hD⟩, hS.F ht⟩) hS.2.2 d_Mo_rank_31
  · replace h := ck_if_f h c_18
    refine lv_iload_n hx hb d_Mo_rank_8 rfl (lv_at hl 2 rfl) ?_
    refine lv_if_lt (tgt := 30) hx hb d_Mo_rank_9 (by decide) (fun c_19 => ?_) (fun c_19 => ?_)
    · replace h := ck_if_t h c_19
      refine lv_iconst (v := (-1)) hx hb d_Mo_rank_30 (by decide) ?_
      obtain rfl := Option.some.inj h
      subst hQ
      exact W.iret (v := (-1)) hx hb hr (fun t ht hW => ⟨⟨(-1), (u_2, u_3, u_4, u_5, u_6, u_7, u_8, u_9, u_10, u_11, u_12, u_13, u_14, u_15, u_16), rfl, rfl, by rw [ht]; exact hP, va_K.moved hW.alike hK, hD⟩, hS.F ht⟩) hS.2.2 d_Mo_rank_31
    · replace h := ck_if_f h c_19
      refine lv_iload_n hx hb d_Mo_rank_12 rfl (lv_at hl 2 rfl) ?_
      refine lv_aload_n hx hb d_Mo_rank_13 rfl (lv_at hl 0 rfl) ?_
      refine lv_iload_n hx hb d_Mo_rank_14 rfl (lv_at hl 1 rfl) ?_
      obtain ⟨r_20, hc_21, h⟩ := ck_b1_s h
      have hPc := hP.sub (ws' := [((ha 0), .inr (6, [.ref (NA 192), .ref (NA 193), .ref (NA 194), .ref (NA 195), .ref (NA 196), .ref (NA 197), .ref (NA 198), .ref (NA 199), .ref (ha 1), .ref (ha 2), .int u_2, .int u_3, .int u_4, .ref (ha 3), .ref (ha 4), .ref (ha 5), .ref (ha 6), .ref (ha 7), .ref (ha 8), .ref (ha 9), .ref (ha 10), .ref (ha 11), .ref (ha 12), .ref (ha 13), .ref (ha 14), .ref (ha 15), .ref (ha 16), .ref (ha 17), .ref (ha 18), .ref (ha 19), .ref (ha 20)])), ((ha 10), .inl (cI, 4, .inl m_elements))]) [0, 10] rfl
      have hDc := hD.sub (ws' := [((ha 0), .inr (6, [.ref (NA 192), .ref (NA 193), .ref (NA 194), .ref (NA 195), .ref (NA 196), .ref (NA 197), .ref (NA 198), .ref (NA 199), .ref (ha 1), .ref (ha 2), .int u_2, .int u_3, .int u_4, .ref (ha 3), .ref (ha 4), .ref (ha 5), .ref (ha 6), .ref (ha 7), .ref (ha 8), .ref (ha 9), .ref (ha 10), .ref (ha 11), .ref (ha 12), .ref (ha 13), .ref (ha 14), .ref (ha 15), .ref (ha 16), .ref (ha 17), .ref (ha 18), .ref (ha 19), .ref (ha 20)])), ((ha 10), .inl (cI, 4, .inl m_elements))]) [0, 10] (by decide) rfl
      have hFc := va_free (wc := [((ha 0), .inr (6, [.ref (NA 192), .ref (NA 193), .ref (NA 194), .ref (NA 195), .ref (NA 196), .ref (NA 197), .ref (NA 198), .ref (NA 199), .ref (ha 1), .ref (ha 2), .int u_2, .int u_3, .int u_4, .ref (ha 3), .ref (ha 4), .ref (ha 5), .ref (ha 6), .ref (ha 7), .ref (ha 8), .ref (ha 9), .ref (ha 10), .ref (ha 11), .ref (ha 12), .ref (ha 13), .ref (ha 14), .ref (ha 15), .ref (ha 16), .ref (ha 17), .ref (ha 18), .ref (ha 19), .ref (ha 20)])), ((ha 10), .inl (cI, 4, .inl m_elements))]) hD hS hA [0, 10] rfl
      refine va_calli (va_runV (As := [.int t0]) (rest := [.int set0]) ⟨hx, hb, hml, hown, hts⟩ (c_R_whole l dC dI cI cJ cB cZ cT cN H.size (ha 0) (NA 192) (NA 193) (NA 194) (NA 195) (NA 196) (NA 197) (NA 198) (NA 199) (ha 1) (ha 2) (ha 3) (ha 4) (ha 5) (ha 6) (ha 7) (ha 8) (ha 9) (ha 10) (ha 11) (ha 12) (ha 13) (ha 14) (ha 15) (ha 16) (ha 17) (ha 18) (ha 19) (ha 20) u_2 u_3 u_4 4 m_elements t0 _ hc_21) (cwV 1 hts (tb_V tw_598 tw_600 tp_34 tw_6 tw_601) rfl rfl rfl (by decide +kernel) ⟨Nat.le_of_ble_eq_true rfl, Nat.le_of_ble_eq_true rfl⟩) ⟨fun a U g mk q => by obtain ⟨q0, q1, qP, qK, qN, qD⟩ := q; exact ⟨q0, q1, qP, va_K.moved (u := U) (U := U.calling g mk a) (Vm.Alike.refl U.vm) qK, qN.same rfl, qD⟩, va_recv hK hPc (ci := 6) (q0 := 0) rfl rfl, fun U hU hW => ⟨rfl, by rw [hU], by rw [hU]; exact hPc, va_K.moved hW.alike hK, hN.warm hW, hDc.weaken (fun _ _ _ _ => trivial)⟩⟩ rfl rfl hl.1 rfl (lv_room (Nat.le_of_ble_eq_true rfl)) d_Mo_rank_15 ⟨Nat.zero_le _, Nat.zero_le _⟩) hS (fun q _ h => hFc q h) hFc (fun rr u t H1 locs ht hvm hw hB hz1 hk1 hS => ?_)
      replace hw := hw.symm
      subst hw
      obtain ⟨hP1, -, hD1⟩ := hB
      rw [ht] at hP1
      obtain ⟨hP, hD⟩ := pw_back (ws' := (xw cI cJ cB cZ cN ha NA u_2 u_3 u_4 u_5 u_6 u_7 u_8 u_9 m_fields m_rowCounts m_elements m_numbers u_10 u_11 u_12 u_13 m_order m_sizes m_coefficients m_choices m_sorted ++ po cI NA ND u_14 u_15 u_16)) (w1 := [((ha 0), .inr (6, [.ref (NA 192), .ref (NA 193), .ref (NA 194), .ref (NA 195), .ref (NA 196), .ref (NA 197), .ref (NA 198), .ref (NA 199), .ref (ha 1), .ref (ha 2), .int u_2, .int u_3, .int u_4, .ref (ha 3), .ref (ha 4), .ref (ha 5), .ref (ha 6), .ref (ha 7), .ref (ha 8), .ref (ha 9), .ref (ha 10), .ref (ha 11), .ref (ha 12), .ref (ha 13), .ref (ha 14), .ref (ha 15), .ref (ha 16), .ref (ha 17), .ref (ha 18), .ref (ha 19), .ref (ha 20)])), ((ha 10), .inl (cI, 4, .inl m_elements))]) hP hD hk1 hP1 (fun k => match k with | 0 => rfl | 1 => rfl | 2 => rfl | 3 => rfl | 4 => rfl | 5 => rfl | 6 => rfl | 7 => rfl | 8 => rfl | 9 => rfl | 10 => rfl | 11 => rfl | 12 => rfl | 13 => rfl | 14 => rfl | 15 => rfl | 16 => rfl | 17 => rfl | 18 => rfl | 19 => rfl | 20 => rfl | q + 21 => rfl) (fun k q hq => match k, hq with | 0, hq => Or.inl ⟨0, hq⟩ | 1, hq => Or.inr ⟨hq, pw_off (k := 1) hD [0, 10] rfl hq (by decide)⟩ | 2, hq => Or.inr ⟨hq, pw_off (k := 2) hD [0, 10] rfl hq (by decide)⟩ | 3, hq => Or.inr ⟨hq, pw_off (k := 3) hD [0, 10] rfl hq (by decide)⟩ | 4, hq => Or.inr ⟨hq, pw_off (k := 4) hD [0, 10] rfl hq (by decide)⟩ | 5, hq => Or.inr ⟨hq, pw_off (k := 5) hD [0, 10] rfl hq (by decide)⟩ | 6, hq => Or.inr ⟨hq, pw_off (k := 6) hD [0, 10] rfl hq (by decide)⟩ | 7, hq => Or.inr ⟨hq, pw_off (k := 7) hD [0, 10] rfl hq (by decide)⟩ | 8, hq => Or.inr ⟨hq, pw_off (k := 8) hD [0, 10] rfl hq (by decide)⟩ | 9, hq => Or.inr ⟨hq, pw_off (k := 9) hD [0, 10] rfl hq (by decide)⟩ | 10, hq => Or.inl ⟨1, hq⟩ | 11, hq => Or.inr ⟨hq, pw_off (k := 11) hD [0, 10] rfl hq (by decide)⟩ | 12, hq => Or.inr ⟨hq, pw_off (k := 12) hD [0, 10] rfl hq (by decide)⟩ | 13, hq => Or.inr ⟨hq, pw_off (k := 13) hD [0, 10] rfl hq (by decide)⟩ | 14, hq => Or.inr ⟨hq, pw_off (k := 14) hD [0, 10] rfl hq (by decide)⟩ | 15, hq => Or.inr ⟨hq, pw_off (k := 15) hD [0, 10] rfl hq (by decide)⟩ | 16, hq => Or.inr ⟨hq, pw_off (k := 16) hD [0, 10] rfl hq (by decide)⟩ | 17, hq => Or.inr ⟨hq, pw_off (k := 17) hD [0, 10] rfl hq (by decide)⟩ | 18, hq => Or.inr ⟨hq, pw_off (k := 18) hD [0, 10] rfl hq (by decide)⟩ | 19, hq => Or.inr ⟨hq, pw_off (k := 19) hD [0, 10] rfl hq (by decide)⟩ | 20, hq => Or.inr ⟨hq, pw_off (k := 20) hD [0, 10] rfl hq (by decide)⟩ | q + 21, hq => Or.inr ⟨hq, pw_off (k := q + 21) hD [0, 10] rfl hq (by simp only [List.mem_cons, List.not_mem_nil, or_false, not_or]; omega)⟩)
      generalize H1 = H at hP hS ⊢
      have hP : va_P (dC, dI) cl_all (xw cI cJ cB cZ cN ha NA u_2 u_3 u_4 u_5 u_6 u_7 u_8 u_9 m_fields m_rowCounts m_elements m_numbers u_10 u_11 u_12 u_13 m_order m_sizes m_coefficients m_choices m_sorted ++ po cI NA ND u_14 u_15 u_16) H := hP
      have hD : va_D A (xw cI cJ cB cZ cN ha NA u_2 u_3 u_4 u_5 u_6 u_7 u_8 u_9 m_fields m_rowCounts m_elements m_numbers u_10 u_11 u_12 u_13 m_order m_sizes m_coefficients m_choices m_sorted ++ po cI NA ND u_14 u_15 u_16) := hD
      refine lv_icmp_gt (tgt := 30) hx hb d_Mo_rank_18 (by decide) (fun c_22 => ?_) (fun c_22 => ?_)
      · replace h := ck_if_t h c_22
        refine lv_iconst (v := (-1)) hx hb d_Mo_rank_30 (by decide) ?_
        obtain rfl := Option.some.inj h
        subst hQ
        exact W.iret (v := (-1)) hx hb hr (fun t ht hW => ⟨⟨(-1), (u_2, u_3, u_4, u_5, u_6, u_7, u_8, u_9, u_10, u_11, u_12, u_13, u_14, u_15, u_16), rfl, rfl, by rw [ht]; exact hP, va_K.moved hW.alike hK, hD⟩, hS.F ht⟩) hS.2.2 d_Mo_rank_31
      · replace h := ck_if_f h c_22
        refine lv_aload_n hx hb d_Mo_rank_21 rfl (lv_at hl 0 rfl) ?_
        refine lv_iload_n hx hb d_Mo_rank_22 rfl (lv_at hl 1 rfl) ?_
        refine lv_iload_n hx hb d_Mo_rank_23 rfl (lv_at hl 2 rfl) ?_
        obtain ⟨r_23, hc_24, h⟩ := ck_b1_s h
        have hPc := hP.sub (ws' := [((ha 0), .inr (6, [.ref (NA 192), .ref (NA 193), .ref (NA 194), .ref (NA 195), .ref (NA 196), .ref (NA 197), .ref (NA 198), .ref (NA 199), .ref (ha 1), .ref (ha 2), .int u_2, .int u_3, .int u_4, .ref (ha 3), .ref (ha 4), .ref (ha 5), .ref (ha 6), .ref (ha 7), .ref (ha 8), .ref (ha 9), .ref (ha 10), .ref (ha 11), .ref (ha 12), .ref (ha 13), .ref (ha 14), .ref (ha 15), .ref (ha 16), .ref (ha 17), .ref (ha 18), .ref (ha 19), .ref (ha 20)])), ((ha 14), .inl (cB, 16384, .inl u_12))]) [0, 14] rfl
        have hDc := hD.sub (ws' := [((ha 0), .inr (6, [.ref (NA 192), .ref (NA 193), .ref (NA 194), .ref (NA 195), .ref (NA 196), .ref (NA 197), .ref (NA 198), .ref (NA 199), .ref (ha 1), .ref (ha 2), .int u_2, .int u_3, .int u_4, .ref (ha 3), .ref (ha 4), .ref (ha 5), .ref (ha 6), .ref (ha 7), .ref (ha 8), .ref (ha 9), .ref (ha 10), .ref (ha 11), .ref (ha 12), .ref (ha 13), .ref (ha 14), .ref (ha 15), .ref (ha 16), .ref (ha 17), .ref (ha 18), .ref (ha 19), .ref (ha 20)])), ((ha 14), .inl (cB, 16384, .inl u_12))]) [0, 14] (by decide) rfl
        have hFc := va_free (wc := [((ha 0), .inr (6, [.ref (NA 192), .ref (NA 193), .ref (NA 194), .ref (NA 195), .ref (NA 196), .ref (NA 197), .ref (NA 198), .ref (NA 199), .ref (ha 1), .ref (ha 2), .int u_2, .int u_3, .int u_4, .ref (ha 3), .ref (ha 4), .ref (ha 5), .ref (ha 6), .ref (ha 7), .ref (ha 8), .ref (ha 9), .ref (ha 10), .ref (ha 11), .ref (ha 12), .ref (ha 13), .ref (ha 14), .ref (ha 15), .ref (ha 16), .ref (ha 17), .ref (ha 18), .ref (ha 19), .ref (ha 20)])), ((ha 14), .inl (cB, 16384, .inl u_12))]) hD hS hA [0, 14] rfl
        refine va_calli (va_runV (As := [.int t0, .int set0]) (rest := []) ⟨hx, hb, hml, hown, hts⟩ (c_R_r l dC dI cI cJ cB cZ cT cN H.size (ha 0) (NA 192) (NA 193) (NA 194) (NA 195) (NA 196) (NA 197) (NA 198) (NA 199) (ha 1) (ha 2) (ha 3) (ha 4) (ha 5) (ha 6) (ha 7) (ha 8) (ha 9) (ha 10) (ha 11) (ha 12) (ha 13) (ha 14) (ha 15) (ha 16) (ha 17) (ha 18) (ha 19) (ha 20) u_2 u_3 u_4 16384 u_12 t0 set0 _ hc_24) (cwV 2 hts (tb_V tw_602 tw_604 tp_35 tw_6 tw_605) rfl rfl rfl (by decide +kernel) ⟨Nat.le_of_ble_eq_true rfl, Nat.le_of_ble_eq_true rfl⟩) ⟨fun a U g mk q => by obtain ⟨q0, q1, qP, qK, qN, qD⟩ := q; exact ⟨q0, q1, qP, va_K.moved (u := U) (U := U.calling g mk a) (Vm.Alike.refl U.vm) qK, qN.same rfl, qD⟩, va_recv hK hPc (ci := 6) (q0 := 0) rfl rfl, fun U hU hW => ⟨rfl, by rw [hU], by rw [hU]; exact hPc, va_K.moved hW.alike hK, hN.warm hW, hDc.weaken (fun _ _ _ _ => trivial)⟩⟩ rfl rfl hl.1 rfl (lv_room (Nat.le_of_ble_eq_true rfl)) d_Mo_rank_24 ⟨Nat.zero_le _, Nat.zero_le _⟩) hS (fun q _ h => hFc q h) hFc (fun rr u t H1 locs ht hvm hw hB hz1 hk1 hS => ?_)
        replace hw := hw.symm
        subst hw
        obtain ⟨hP1, -, hD1⟩ := hB
        rw [ht] at hP1
        obtain ⟨hP, hD⟩ := pw_back (ws' := (xw cI cJ cB cZ cN ha NA u_2 u_3 u_4 u_5 u_6 u_7 u_8 u_9 m_fields m_rowCounts m_elements m_numbers u_10 u_11 u_12 u_13 m_order m_sizes m_coefficients m_choices m_sorted ++ po cI NA ND u_14 u_15 u_16)) (w1 := [((ha 0), .inr (6, [.ref (NA 192), .ref (NA 193), .ref (NA 194), .ref (NA 195), .ref (NA 196), .ref (NA 197), .ref (NA 198), .ref (NA 199), .ref (ha 1), .ref (ha 2), .int u_2, .int u_3, .int u_4, .ref (ha 3), .ref (ha 4), .ref (ha 5), .ref (ha 6), .ref (ha 7), .ref (ha 8), .ref (ha 9), .ref (ha 10), .ref (ha 11), .ref (ha 12), .ref (ha 13), .ref (ha 14), .ref (ha 15), .ref (ha 16), .ref (ha 17), .ref (ha 18), .ref (ha 19), .ref (ha 20)])), ((ha 14), .inl (cB, 16384, .inl u_12))]) hP hD hk1 hP1 (fun k => match k with | 0 => rfl | 1 => rfl | 2 => rfl | 3 => rfl | 4 => rfl | 5 => rfl | 6 => rfl | 7 => rfl | 8 => rfl | 9 => rfl | 10 => rfl | 11 => rfl | 12 => rfl | 13 => rfl | 14 => rfl | 15 => rfl | 16 => rfl | 17 => rfl | 18 => rfl | 19 => rfl | 20 => rfl | q + 21 => rfl) (fun k q hq => match k, hq with | 0, hq => Or.inl ⟨0, hq⟩ | 1, hq => Or.inr ⟨hq, pw_off (k := 1) hD [0, 14] rfl hq (by decide)⟩ | 2, hq => Or.inr ⟨hq, pw_off (k := 2) hD [0, 14] rfl hq (by decide)⟩ | 3, hq => Or.inr ⟨hq, pw_off (k := 3) hD [0, 14] rfl hq (by decide)⟩ | 4, hq => Or.inr ⟨hq, pw_off (k := 4) hD [0, 14] rfl hq (by decide)⟩ | 5, hq => Or.inr ⟨hq, pw_off (k := 5) hD [0, 14] rfl hq (by decide)⟩ | 6, hq => Or.inr ⟨hq, pw_off (k := 6) hD [0, 14] rfl hq (by decide)⟩ | 7, hq => Or.inr ⟨hq, pw_off (k := 7) hD [0, 14] rfl hq (by decide)⟩ | 8, hq => Or.inr ⟨hq, pw_off (k := 8) hD [0, 14] rfl hq (by decide)⟩ | 9, hq => Or.inr ⟨hq, pw_off (k := 9) hD [0, 14] rfl hq (by decide)⟩ | 10, hq => Or.inr ⟨hq, pw_off (k := 10) hD [0, 14] rfl hq (by decide)⟩ | 11, hq => Or.inr ⟨hq, pw_off (k := 11) hD [0, 14] rfl hq (by decide)⟩ | 12, hq => Or.inr ⟨hq, pw_off (k := 12) hD [0, 14] rfl hq (by decide)⟩ | 13, hq => Or.inr ⟨hq, pw_off (k := 13) hD [0, 14] rfl hq (by decide)⟩ | 14, hq => Or.inl ⟨1, hq⟩ | 15, hq => Or.inr ⟨hq, pw_off (k := 15) hD [0, 14] rfl hq (by decide)⟩ | 16, hq => Or.inr ⟨hq, pw_off (k := 16) hD [0, 14] rfl hq (by decide)⟩ | 17, hq => Or.inr ⟨hq, pw_off (k := 17) hD [0, 14] rfl hq (by decide)⟩ | 18, hq => Or.inr ⟨hq, pw_off (k := 18) hD [0, 14] rfl hq (by decide)⟩ | 19, hq => Or.inr ⟨hq, pw_off (k := 19) hD [0, 14] rfl hq (by decide)⟩ | 20, hq => Or.inr ⟨hq, pw_off (k := 20) hD [0, 14] rfl hq (by decide)⟩ | q + 21, hq => Or.inr ⟨hq, pw_off (k := q + 21) hD [0, 14] rfl hq (by simp only [List.mem_cons, List.not_mem_nil, or_false, not_or]; omega)⟩)
        generalize H1 = H at hP hS ⊢
        have hP : va_P (dC, dI) cl_all (xw cI cJ cB cZ cN ha NA u_2 u_3 u_4 u_5 u_6 u_7 u_8 u_9 m_fields m_rowCounts m_elements m_numbers u_10 u_11 u_12 u_13 m_order m_sizes m_coefficients m_choices m_sorted ++ po cI NA ND u_14 u_15 u_16) H := hP
        have hD : va_D A (xw cI cJ cB cZ cN ha NA u_2 u_3 u_4 u_5 u_6 u_7 u_8 u_9 m_fields m_rowCounts m_elements m_numbers u_10 u_11 u_12 u_13 m_order m_sizes m_coefficients m_choices m_sorted ++ po cI NA ND u_14 u_15 u_16) := hD
        refine lv_goto (tgt := 31) hx hb d_Mo_rank_27 (by decide) ?_
        obtain rfl := Option.some.inj h
        subst hQ
        exact W.iret (v := r_23) hx hb hr (fun t ht hW => ⟨⟨r_23, (u_2, u_3, u_4, u_5, u_6, u_7, u_8, u_9, u_10, u_11, u_12, u_13, u_14, u_15, u_16), rfl, rfl, by rw [ht]; exact hP, va_K.moved hW.alike hK, hD⟩, hS.F ht⟩) hS.2.2 d_Mo_rank_31
theorem d_Mo_count_0 : decode prog_7_method_41_code 0 = .ok (.aload_n 0, 1) := by decide +kernel
theorem d_Mo_count_1 : decode prog_7_method_41_code 1 = .ok (.iload_n 1, 1) := by decide +kernel
theorem d_Mo_count_2 : decode prog_7_method_41_code 2 = .ok (.invokevirtual 254, 3) := by decide +kernel
theorem d_Mo_count_5 : decode prog_7_method_41_code 5 = .ok (.ifCond .eq 21, 3) := by decide +kernel
theorem d_Mo_count_8 : decode prog_7_method_41_code 8 = .ok (.iload_n 2, 1) := by decide +kernel
theorem d_Mo_count_9 : decode prog_7_method_41_code 9 = .ok (.ifCond .lt 17, 3) := by decide +kernel
theorem d_Mo_count_12 : decode prog_7_method_41_code 12 = .ok (.iload_n 2, 1) := by decide +kernel
theorem d_Mo_count_13 : decode prog_7_method_41_code 13 = .ok (.iconst 3, 1) := by decide +kernel
theorem d_Mo_count_14 : decode prog_7_method_41_code 14 = .ok (.if_icmp .gt 12, 3) := by decide +kernel
theorem d_Mo_count_17 : decode prog_7_method_41_code 17 = .ok (.aload_n 0, 1) := by decide +kernel
theorem d_Mo_count_18 : decode prog_7_method_41_code 18 = .ok (.iload_n 1, 1) := by decide +kernel
theorem d_Mo_count_19 : decode prog_7_method_41_code 19 = .ok (.iload_n 2, 1) := by decide +kernel
theorem d_Mo_count_20 : decode prog_7_method_41_code 20 = .ok (.invokevirtual 257, 3) := by decide +kernel
theorem d_Mo_count_23 : decode prog_7_method_41_code 23 = .ok (.goto 4, 3) := by decide +kernel
theorem d_Mo_count_26 : decode prog_7_method_41_code 26 = .ok (.iconst (-1), 1) := by decide +kernel
theorem d_Mo_count_27 : decode prog_7_method_41_code 27 = .ok (.ireturn, 1) := by decide +kernel
def f_R_count (m_rows : Int32) (m_columns : Int32) (m_prime : Int32) (m_small : Nat → Int32) (m_pivots : Nat → Int32) (m_freeRows : Nat → Int32) (m_freeColumns : Nat → Int32) (m_smallMinor : Nat → Int32) (m_fields : Nat → Int32) (m_rowCounts : Nat → Int32) (m_elements : Nat → Int32) (m_numbers : Nat → Int32) (m_known : Nat → Int32) (m_ranks : Nat → Int32) (m_rankOf : Nat → Int32) (m_signOf : Nat → Int32) (m_order : Nat → Int32) (m_sizes : Nat → Int32) (pn : Nat → Int32) (pm : Nat → Int32) (pd : Nat → Nat → Int32) (t0 : Int32) (kind0 : Int32) : Option (Int32 × Int32 × Int32 × Int32 × (Nat → Int32) × (Nat → Int32) × (Nat → Int32) × (Nat → Int32) × (Nat → Int32) × (Nat → Int32) × (Nat → Int32) × (Nat → Int32) × (Nat → Int32) × (Nat → Int32) × (Nat → Int32) × (Nat → Nat → Int32)) :=
  ck_b16 (f_R_learn m_rows m_columns m_prime m_small m_pivots m_freeRows m_freeColumns m_smallMinor m_fields m_rowCounts m_elements m_numbers m_known m_ranks m_rankOf m_signOf m_order m_sizes pn pm pd t0) <| fun r_1 u_2 u_3 u_4 u_5 u_6 u_7 u_8 u_9 u_10 u_11 u_12 u_13 u_14 u_15 u_16 => ck_if (r_1 = 0) (some ((-1), u_2, u_3, u_4, u_5, u_6, u_7, u_8, u_9, u_10, u_11, u_12, u_13, u_14, u_15, u_16)) (ck_if (kind0 < 0) (some ((-1), u_2, u_3, u_4, u_5, u_6, u_7, u_8, u_9, u_10, u_11, u_12, u_13, u_14, u_15, u_16)) (ck_if (3 < kind0) (some ((-1), u_2, u_3, u_4, u_5, u_6, u_7, u_8, u_9, u_10, u_11, u_12, u_13, u_14, u_15, u_16)) (ck_b1 (f_R_howMany 16384 u_12 4096 m_sizes 4 u_11 4 m_elements t0 kind0) <| fun r_21 => some (r_21, u_2, u_3, u_4, u_5, u_6, u_7, u_8, u_9, u_10, u_11, u_12, u_13, u_14, u_15, u_16))))
set_option maxHeartbeats 4000000 in
set_option maxRecDepth 100000 in
theorem c_R_count (l : Launch) (dC : Nat → ClassId) (dI : Nat → Nat → Nat) (cI cJ cB cZ cT cN : ClassId) (sz : Nat) (ha NA ND : Nat → Nat) (m_rows : Int32) (m_columns : Int32) (m_prime : Int32) (m_small : Nat → Int32) (m_pivots : Nat → Int32) (m_freeRows : Nat → Int32) (m_freeColumns : Nat → Int32) (m_smallMinor : Nat → Int32) (m_fields : Nat → Int32) (m_rowCounts : Nat → Int32) (m_elements : Nat → Int32) (m_numbers : Nat → Int32) (m_known : Nat → Int32) (m_ranks : Nat → Int32) (m_rankOf : Nat → Int32) (m_signOf : Nat → Int32) (m_order : Nat → Int32) (m_sizes : Nat → Int32) (m_coefficients : Nat → Int64) (m_choices : Nat → Int64) (m_sorted : Nat → Int32) (pn : Nat → Int32) (pm : Nat → Int32) (pd : Nat → Nat → Int32) (t0 : Int32) (kind0 : Int32) (r : Int32 × Int32 × Int32 × Int32 × (Nat → Int32) × (Nat → Int32) × (Nat → Int32) × (Nat → Int32) × (Nat → Int32) × (Nat → Int32) × (Nat → Int32) × (Nat → Int32) × (Nat → Int32) × (Nat → Int32) × (Nat → Int32) × (Nat → Nat → Int32)) (h : f_R_count m_rows m_columns m_prime m_small m_pivots m_freeRows m_freeColumns m_smallMinor m_fields m_rowCounts m_elements m_numbers m_known m_ranks m_rankOf m_signOf m_order m_sizes pn pm pd t0 kind0 = some r) : Met l y_Mo_count w_Mo_count ({ frames := 8, cells := 0, slots := 0, locals := 197 } : Room) (va_Pc [.ref (ha 0), .int t0, .int kind0] (fun U => U.heap.size = sz ∧ va_P (dC, dI) cl_all (xw cI cJ cB cZ cN ha NA m_rows m_columns m_prime m_small m_pivots m_freeRows m_freeColumns m_smallMinor m_fields m_rowCounts m_elements m_numbers m_known m_ranks m_rankOf m_signOf m_order m_sizes m_coefficients m_choices m_sorted ++ po cI NA ND pn pm pd) U.heap ∧ va_K (dC, dI) cl_all [(cI, .int), (cJ, .long), (cB, .byte), (cZ, .boolean), (cT, .object "BasisWalk$Table"), (cN, .object "BasisWalkModel$Num")] U ∧ NW U ∧ va_D (fun _ => True) (xw cI cJ cB cZ cN ha NA m_rows m_columns m_prime m_small m_pivots m_freeRows m_freeColumns m_smallMinor m_fields m_rowCounts m_elements m_numbers m_known m_ranks m_rankOf m_signOf m_order m_sizes m_coefficients m_choices m_sorted ++ po cI NA ND pn pm pd))) (va_Qi (fun (v : Int32) (u : Int32 × Int32 × Int32 × (Nat → Int32) × (Nat → Int32) × (Nat → Int32) × (Nat → Int32) × (Nat → Int32) × (Nat → Int32) × (Nat → Int32) × (Nat → Int32) × (Nat → Int32) × (Nat → Int32) × (Nat → Int32) × (Nat → Nat → Int32)) => (v, u) = r) (fun (u : Int32 × Int32 × Int32 × (Nat → Int32) × (Nat → Int32) × (Nat → Int32) × (Nat → Int32) × (Nat → Int32) × (Nat → Int32) × (Nat → Int32) × (Nat → Int32) × (Nat → Int32) × (Nat → Int32) × (Nat → Int32) × (Nat → Nat → Int32)) (t : State) => va_P (dC, dI) cl_all (xw cI cJ cB cZ cN ha NA u.1 u.2.1 u.2.2.1 u.2.2.2.1 u.2.2.2.2.1 u.2.2.2.2.2.1 u.2.2.2.2.2.2.1 u.2.2.2.2.2.2.2.1 m_fields m_rowCounts m_elements m_numbers u.2.2.2.2.2.2.2.2.1 u.2.2.2.2.2.2.2.2.2.1 u.2.2.2.2.2.2.2.2.2.2.1 u.2.2.2.2.2.2.2.2.2.2.2.1 m_order m_sizes m_coefficients m_choices m_sorted ++ po cI NA ND u.2.2.2.2.2.2.2.2.2.2.2.2.1 u.2.2.2.2.2.2.2.2.2.2.2.2.2.1 u.2.2.2.2.2.2.2.2.2.2.2.2.2.2) t.heap ∧ va_K (dC, dI) cl_all [(cI, .int), (cJ, .long), (cB, .byte), (cZ, .boolean), (cT, .object "BasisWalk$Table"), (cN, .object "BasisWalkModel$Num")] t ∧ va_D (va_A (xw cI cJ cB cZ cN ha NA m_rows m_columns m_prime m_small m_pivots m_freeRows m_freeColumns m_smallMinor m_fields m_rowCounts m_elements m_numbers m_known m_ranks m_rankOf m_signOf m_order m_sizes m_coefficients m_choices m_sorted ++ po cI NA ND pn pm pd) sz) (xw cI cJ cB cZ cN ha NA u.1 u.2.1 u.2.2.1 u.2.2.2.1 u.2.2.2.2.1 u.2.2.2.2.2.1 u.2.2.2.2.2.2.1 u.2.2.2.2.2.2.2.1 m_fields m_rowCounts m_elements m_numbers u.2.2.2.2.2.2.2.2.1 u.2.2.2.2.2.2.2.2.2.1 u.2.2.2.2.2.2.2.2.2.2.1 u.2.2.2.2.2.2.2.2.2.2.2.1 m_order m_sizes m_coefficients m_choices m_sorted ++ po cI NA ND u.2.2.2.2.2.2.2.2.2.2.2.2.1 u.2.2.2.2.2.2.2.2.2.2.2.2.2.1 u.2.2.2.2.2.2.2.2.2.2.2.2.2.2)) (va_A (xw cI cJ cB cZ cN ha NA m_rows m_columns m_prime m_small m_pivots m_freeRows m_freeColumns m_smallMinor m_fields m_rowCounts m_elements m_numbers m_known m_ranks m_rankOf m_signOf m_order m_sizes m_coefficients m_choices m_sorted ++ po cI NA ND pn pm pd) sz)) 0 0 (va_A (xw cI cJ cB cZ cN ha NA m_rows m_columns m_prime m_small m_pivots m_freeRows m_freeColumns m_smallMinor m_fields m_rowCounts m_elements m_numbers m_known m_ranks m_rankOf m_signOf m_order m_sizes m_coefficients m_choices m_sorted ++ po cI NA ND pn pm pd) sz) := by
  refine Met.ofW (cc := prog_7_method_41_code) (maxL := 3) (ret := (Option.some Jvm.ClassFile.FieldType.int)) (by decide) rfl ?_
  intro p e s m args below meth c s₁ B hml hv
  obtain ⟨hAR, hsz, hP, hK, hN, hD0⟩ := hv
  have hx := B.exec
  have hb := B.bytes
  have hr := B.returns
  have hts := atoms_spec (ws := w_Mo_count) B.pre
  have hown : s.vm.findClass "BasisWalkModel" = some m.cls := findClass_of_methodNamed B.named
  have hlocks := B.notSynchronized
  clear B
  subst hsz
  have hD := hD0.self (sz := s.heap.size)
  generalize hAe : va_A (xw cI cJ cB cZ cN ha NA m_rows m_columns m_prime m_small m_pivots m_freeRows m_freeColumns m_smallMinor m_fields m_rowCounts m_elements m_numbers m_known m_ranks m_rankOf m_signOf m_order m_sizes m_coefficients m_choices m_sorted ++ po cI NA ND pn pm pd) s.heap.size = A at hD ⊢
  have hA : ∀ q : Nat, s.heap.size ≤ q → A q := fun q h => by rw [← hAe]; exact Or.inr h
  clear hAe hD0
  have hS : va_S A s.heap s.heap [] := va_S.rf
  have hl := lv_entry ([.ref (ha 0), .int t0, .int kind0]) (n := 3) (Nat.le_of_ble_eq_true rfl)
  subst hAR
  rw [lg_entry_eq]
  generalize (lg_sl ([.ref (ha 0), .int t0, .int kind0]) ++ List.replicate (3 - (lg_sl ([.ref (ha 0), .int t0, .int kind0])).length) Slot.unset).toArray = ls at hl ⊢
  have hl : lv_has ls 3 [(0, .ref (ha 0)), (1, .int t0), (2, .int kind0)] := hl
  change W p l e ({ frames := 8, cells := 0, slots := 0, locals := 197 } : Room) s m _ below meth c s.heap [] 0 0 _ _
  generalize hARe : ([.ref (ha 0), .int t0, .int kind0] : List Value).toArray = AR at hts ⊢
  clear hARe
  generalize hQ : MQ below _ AR s 0 0 A = QQ
  obtain ⟨H, hHe⟩ : ∃ H : Heap, H = s.heap := ⟨_, rfl⟩
  rw [← hHe] at hP ⊢
  replace hS : va_S A s.heap H [] := by rw [hHe]; exact va_S.rf
  clear hHe
  unfold f_R_count at h
  refine lv_aload_n hx hb d_Mo_count_0 rfl (lv_at hl 0 rfl) ?_
  refine lv_iload_n hx hb d_Mo_count_1 rfl (lv_at hl 1 rfl) ?_
  obtain ⟨r_1, u_2, u_3, u_4, u_5, u_6, u_7, u_8, u_9, u_10, u_11, u_12, u_13, u_14, u_15, u_16, hc_17, h⟩ := ck_b16_s h
  have hPc := hP
  have hDc := hD
  have hFc := pw_free hDc hS hA
  refine va_calli (va_runV (As := [.int t0]) (rest := []) ⟨hx, hb, hml, hown, hts⟩ (c_R_learn l dC dI cI cJ cB cZ cT cN H.size ha NA ND m_rows m_columns m_prime m_small m_pivots m_freeRows m_freeColumns m_smallMinor m_fields m_rowCounts m_elements m_numbers m_known m_ranks m_rankOf m_signOf m_order m_sizes m_coefficients m_choices m_sorted pn pm pd t0 _ hc_17) (cwV 1 hts (tb_V tw_473 tw_475 tp_18 tw_6 tw_476) rfl rfl rfl (by decide +kernel) ⟨Nat.le_of_ble_eq_true rfl, Nat.le_of_ble_eq_true rfl⟩) ⟨fun a U g mk q => by obtain ⟨q0, q1, qP, qK, qN, qD⟩ := q; exact ⟨q0, q1, qP, va_K.moved (u := U) (U := U.calling g mk a) (Vm.Alike.refl U.vm) qK, qN.same rfl, qD⟩, va_recv hK hPc (ci := 6) (q0 := 0) rfl rfl, fun U hU hW => ⟨rfl, by rw [hU], by rw [hU]; exact hPc, va_K.moved hW.alike hK, hN.warm hW, hDc.weaken (fun _ _ _ _ => trivial)⟩⟩ rfl rfl hl.1 rfl (lv_room (Nat.le_of_ble_eq_true rfl)) d_Mo_count_2 ⟨Nat.zero_le _, Nat.zero_le _⟩) hS (fun q _ h => hFc q h) hFc (fun rr u t H1 locs ht hvm hw hB hz1 hk1 hS => ?_)
  obtain ⟨e1, e2⟩ := Prod.mk.inj hw
  replace e1 := e1.symm
  replace e2 := e2.symm
  subst e1
  subst e2
  obtain ⟨hP1, -, hD1⟩ := hB
  rw [ht] at hP1
  have hP : va_P (dC, dI) cl_all (xw cI cJ cB cZ cN ha NA u_2 u_3 u_4 u_5 u_6 u_7 u_8 u_9 m_fields m_rowCounts m_elements m_numbers u_10 u_11 u_12 u_13 m_order m_sizes m_coefficients m_choices m_sorted ++ po cI NA ND u_14 u_15 u_16) H1 := hP1
  have hD : va_D A (xw cI cJ cB cZ cN ha NA u_2 u_3 u_4 u_5 u_6 u_7 u_8 u_9 m_fields m_rowCounts m_elements m_numbers u_10 u_11 u_12 u_13 m_order m_sizes m_coefficients m_choices m_sorted ++ po cI NA ND u_14 u_15 u_16) := hD1.weaken (fun _ _ _ h => hFc _ h)
  generalize H1 = H at hP hS ⊢
  have hP : va_P (dC, dI) cl_all (xw cI cJ cB cZ cN ha NA u_2 u_3 u_4 u_5 u_6 u_7 u_8 u_9 m_fields m_rowCounts m_elements m_numbers u_10 u_11 u_12 u_13 m_order m_sizes m_coefficients m_choices m_sorted ++ po cI NA ND u_14 u_15 u_16) H := hP
  have hD : va_D A (xw cI cJ cB cZ cN ha NA u_2 u_3 u_4 u_5 u_6 u_7 u_8 u_9 m_fields m_rowCounts m_elements m_numbers u_10 u_11 u_12 u_13 m_order m_sizes m_coefficients m_choices m_sorted ++ po cI NA ND u_14 u_15 u_16) := hD
  refine lv_if_eq (tgt := 26) hx hb d_Mo_count_5 (by decide) (fun c_18 => ?_) (fun c_18 => ?_)
  · replace h := ck_if_t h c_18
    refine lv_iconst (v := (-1)) hx hb d_Mo_count_26 (by decide) ?_
    obtain rfl := Option.some.inj h
    subst hQ
    exact W.iret (v := (-1)) hx hb hr (fun t ht hW => ⟨⟨(-1), (u_2, u_3, u_4, u_5, u_6, u_7, u_8, u_9, u_10, u_11, u_12, u_13, u_14, u_15, u_16), rfl, rfl, by rw [ht]; exact hP, va_K.moved hW.alike hK, hD⟩, hS.F ht⟩) hS.2.2 d_Mo_count_27
  · replace h := ck_if_f h c_18
    refine lv_iload_n hx hb d_Mo_count_8 rfl (lv_at hl 2 rfl) ?_
    refine lv_if_lt (tgt := 26) hx hb d_Mo_count_9 (by decide) (fun c_19 => ?_) (fun c_19 => ?_)
    · replace h := ck_if_t h c_19
      refine lv_iconst (v := (-1)) hx hb d_Mo_count_26 (by decide) ?_
      obtain rfl := Option.some.inj h
      subst hQ
      exact W.iret (v := (-1)) hx hb hr (fun t ht hW => ⟨⟨(-1), (u_2, u_3, u_4, u_5, u_6, u_7, u_8, u_9, u_10, u_11, u_12, u_13, u_14, u_15, u_16), rfl, rfl, by rw [ht]; exact hP, va_K.moved hW.alike hK, hD⟩, hS.F ht⟩) hS.2.2 d_Mo_count_27
    · replace h := ck_if_f h c_19
      refine lv_iload_n hx hb d_Mo_count_12 rfl (lv_at hl 2 rfl) ?_
      refine lv_iconst (v := 3) hx hb d_Mo_count_13 (by decide) ?_
      refine lv_icmp_gt (tgt := 26) hx hb d_Mo_count_14 (by decide) (fun c_20 => ?_) (fun c_20 => ?_)
      · replace h := ck_if_t h c_20
        refine lv_iconst (v := (-1)) hx hb d_Mo_count_26 (by decide) ?_
        obtain rfl := Option.some.inj h
        subst hQ
        exact W.iret (v := (-1)) hx hb hr (fun t ht hW => ⟨⟨(-1), (u_2, u_3, u_4, u_5, u_6, u_7, u_8, u_9, u_10, u_11, u_12, u_13, u_14, u_15, u_16), rfl, rfl, by rw [ht]; exact hP, va_K.moved hW.alike hK, hD⟩, hS.F ht⟩) hS.2.2 d_Mo_count_27
      · replace h := ck_if_f h c_20
        refine lv_aload_n hx hb d_Mo_count_17 rfl (lv_at hl 0 rfl) ?_
        refine lv_iload_n hx hb d_Mo_count_18 rfl (lv_at hl 1 rfl) ?_
        refine lv_iload_n hx hb d_Mo_count_19 rfl (lv_at hl 2 rfl) ?_
        obtain ⟨r_21, hc_22, h⟩ := ck_b1_s h
        have hPc := hP.sub (ws' := [((ha 0), .inr (6, [.ref (NA 192), .ref (NA 193), .ref (NA 194), .ref (NA 195), .ref (NA 196), .ref (NA 197), .ref (NA 198), .ref (NA 199), .ref (ha 1), .ref (ha 2), .int u_2, .int u_3, .int u_4, .ref (ha 3), .ref (ha 4), .ref (ha 5), .ref (ha 6), .ref (ha 7), .ref (ha 8), .ref (ha 9), .ref (ha 10), .ref (ha 11), .ref (ha 12), .ref (ha 13), .ref (ha 14), .ref (ha 15), .ref (ha 16), .ref (ha 17), .ref (ha 18), .ref (ha 19), .ref (ha 20)])), ((ha 14), .inl (cB, 16384, .inl u_12)), ((ha 17), .inl (cI, 4096, .inl m_sizes)), ((ha 13), .inl (cI, 4, .inl u_11)), ((ha 10), .inl (cI, 4, .inl m_elements))]) [0, 14, 17, 13, 10] rfl
        have hDc := hD.sub (ws' := [((ha 0), .inr (6, [.ref (NA 192), .ref (NA 193), .ref (NA 194), .ref (NA 195), .ref (NA 196), .ref (NA 197), .ref (NA 198), .ref (NA 199), .ref (ha 1), .ref (ha 2), .int u_2, .int u_3, .int u_4, .ref (ha 3), .ref (ha 4), .ref (ha 5), .ref (ha 6), .ref (ha 7), .ref (ha 8), .ref (ha 9), .ref (ha 10), .ref (ha 11), .ref (ha 12), .ref (ha 13), .ref (ha 14), .ref (ha 15), .ref (ha 16), .ref (ha 17), .ref (ha 18), .ref (ha 19), .ref (ha 20)])), ((ha 14), .inl (cB, 16384, .inl u_12)), ((ha 17), .inl (cI, 4096, .inl m_sizes)), ((ha 13), .inl (cI, 4, .inl u_11)), ((ha 10), .inl (cI, 4, .inl m_elements))]) [0, 14, 17, 13, 10] (by decide) rfl
        have hFc := va_free (wc := [((ha 0), .inr (6, [.ref (NA 192), .ref (NA 193), .ref (NA 194), .ref (NA 195), .ref (NA 196), .ref (NA 197), .ref (NA 198), .ref (NA 199), .ref (ha 1), .ref (ha 2), .int u_2, .int u_3, .int u_4, .ref (ha 3), .ref (ha 4), .ref (ha 5), .ref (ha 6), .ref (ha 7), .ref (ha 8), .ref (ha 9), .ref (ha 10), .ref (ha 11), .ref (ha 12), .ref (ha 13), .ref (ha 14), .ref (ha 15), .ref (ha 16), .ref (ha 17), .ref (ha 18), .ref (ha 19), .ref (ha 20)])), ((ha 14), .inl (cB, 16384, .inl u_12)), ((ha 17), .inl (cI, 4096, .inl m_sizes)), ((ha 13), .inl (cI, 4, .inl u_11)), ((ha 10), .inl (cI, 4, .inl m_elements))]) hD hS hA [0, 14, 17, 13, 10] rfl
        refine va_calli (va_runV (As := [.int t0, .int kind0]) (rest := []) ⟨hx, hb, hml, hown, hts⟩ (c_R_howMany l dC dI cI cJ cB cZ cT cN H.size (ha 0) (NA 192) (NA 193) (NA 194) (NA 195) (NA 196) (NA 197) (NA 198) (NA 199) (ha 1) (ha 2) (ha 3) (ha 4) (ha 5) (ha 6) (ha 7) (ha 8) (ha 9) (ha 10) (ha 11) (ha 12) (ha 13) (ha 14) (ha 15) (ha 16) (ha 17) (ha 18) (ha 19) (ha 20) u_2 u_3 u_4 16384 u_12 4096 m_sizes 4 u_11 4 m_elements t0 kind0 _ hc_22) (cwV 2 hts (tb_V tw_610 tw_612 tp_36 tw_6 tw_613) rfl rfl rfl (by decide +kernel) ⟨Nat.le_of_ble_eq_true rfl, Nat.le_of_ble_eq_true rfl⟩) ⟨fun a U g mk q => by obtain ⟨q0, q1, qP, qK, qN, qD⟩ := q; exact ⟨q0, q1, qP, va_K.moved (u := U) (U := U.calling g mk a) (Vm.Alike.refl U.vm) qK, qN.same rfl, qD⟩, va_recv hK hPc (ci := 6) (q0 := 0) rfl rfl, fun U hU hW => ⟨rfl, by rw [hU], by rw [hU]; exact hPc, va_K.moved hW.alike hK, hN.warm hW, hDc.weaken (fun _ _ _ _ => trivial)⟩⟩ rfl rfl hl.1 rfl (lv_room (Nat.le_of_ble_eq_true rfl)) d_Mo_count_20 ⟨Nat.zero_le _, Nat.zero_le _⟩) hS (fun q _ h => hFc q h) hFc (fun rr u t H1 locs ht hvm hw hB hz1 hk1 hS => ?_)
        replace hw := hw.symm
        subst hw
        obtain ⟨hP1, -, hD1⟩ := hB
        rw [ht] at hP1
        obtain ⟨hP, hD⟩ := pw_back (ws' := (xw cI cJ cB cZ cN ha NA u_2 u_3 u_4 u_5 u_6 u_7 u_8 u_9 m_fields m_rowCounts m_elements m_numbers u_10 u_11 u_12 u_13 m_order m_sizes m_coefficients m_choices m_sorted ++ po cI NA ND u_14 u_15 u_16)) (w1 := [((ha 0), .inr (6, [.ref (NA 192), .ref (NA 193), .ref (NA 194), .ref (NA 195), .ref (NA 196), .ref (NA 197), .ref (NA 198), .ref (NA 199), .ref (ha 1), .ref (ha 2), .int u_2, .int u_3, .int u_4, .ref (ha 3), .ref (ha 4), .ref (ha 5), .ref (ha 6), .ref (ha 7), .ref (ha 8), .ref (ha 9), .ref (ha 10), .ref (ha 11), .ref (ha 12), .ref (ha 13), .ref (ha 14), .ref (ha 15), .ref (ha 16), .ref (ha 17), .ref (ha 18), .ref (ha 19), .ref (ha 20)])), ((ha 14), .inl (cB, 16384, .inl u_12)), ((ha 17), .inl (cI, 4096, .inl m_sizes)), ((ha 13), .inl (cI, 4, .inl u_11)), ((ha 10), .inl (cI, 4, .inl m_elements))]) hP hD hk1 hP1 (fun k => match k with | 0 => rfl | 1 => rfl | 2 => rfl | 3 => rfl | 4 => rfl | 5 => rfl | 6 => rfl | 7 => rfl | 8 => rfl | 9 => rfl | 10 => rfl | 11 => rfl | 12 => rfl | 13 => rfl | 14 => rfl | 15 => rfl | 16 => rfl | 17 => rfl | 18 => rfl | 19 => rfl | 20 => rfl | q + 21 => rfl) (fun k q hq => match k, hq with | 0, hq => Or.inl ⟨0, hq⟩ | 1, hq => Or.inr ⟨hq, pw_off (k := 1) hD [0, 14, 17, 13, 10] rfl hq (by decide)⟩ | 2, hq => Or.inr ⟨hq, pw_off (k := 2) hD [0, 14, 17, 13, 10] rfl hq (by decide)⟩ | 3, hq => Or.inr ⟨hq, pw_off (k := 3) hD [0, 14, 17, 13, 10] rfl hq (by decide)⟩ | 4, hq => Or.inr ⟨hq, pw_off (k := 4) hD [0, 14, 17, 13, 10] rfl hq (by decide)⟩ | 5, hq => Or.inr ⟨hq, pw_off (k := 5) hD [0, 14, 17, 13, 10] rfl hq (by decide)⟩ | 6, hq => Or.inr ⟨hq, pw_off (k := 6) hD [0, 14, 17, 13, 10] rfl hq (by decide)⟩ | 7, hq => Or.inr ⟨hq, pw_off (k := 7) hD [0, 14, 17, 13, 10] rfl hq (by decide)⟩ | 8, hq => Or.inr ⟨hq, pw_off (k := 8) hD [0, 14, 17, 13, 10] rfl hq (by decide)⟩ | 9, hq => Or.inr ⟨hq, pw_off (k := 9) hD [0, 14, 17, 13, 10] rfl hq (by decide)⟩ | 10, hq => Or.inl ⟨4, hq⟩ | 11, hq => Or.inr ⟨hq, pw_off (k := 11) hD [0, 14, 17, 13, 10] rfl hq (by decide)⟩ | 12, hq => Or.inr ⟨hq, pw_off (k := 12) hD [0, 14, 17, 13, 10] rfl hq (by decide)⟩ | 13, hq => Or.inl ⟨3, hq⟩ | 14, hq => Or.inl ⟨1, hq⟩ | 15, hq => Or.inr ⟨hq, pw_off (k := 15) hD [0, 14, 17, 13, 10] rfl hq (by decide)⟩ | 16, hq => Or.inr ⟨hq, pw_off (k := 16) hD [0, 14, 17, 13, 10] rfl hq (by decide)⟩ | 17, hq => Or.inl ⟨2, hq⟩ | 18, hq => Or.inr ⟨hq, pw_off (k := 18) hD [0, 14, 17, 13, 10] rfl hq (by decide)⟩ | 19, hq => Or.inr ⟨hq, pw_off (k := 19) hD [0, 14, 17, 13, 10] rfl hq (by decide)⟩ | 20, hq => Or.inr ⟨hq, pw_off (k := 20) hD [0, 14, 17, 13, 10] rfl hq (by decide)⟩ | q + 21, hq => Or.inr ⟨hq, pw_off (k := q + 21) hD [0, 14, 17, 13, 10] rfl hq (by simp only [List.mem_cons, List.not_mem_nil, or_false, not_or]; omega)⟩)
        generalize H1 = H at hP hS ⊢
        have hP : va_P (dC, dI) cl_all (xw cI cJ cB cZ cN ha NA u_2 u_3 u_4 u_5 u_6 u_7 u_8 u_9 m_fields m_rowCounts m_elements m_numbers u_10 u_11 u_12 u_13 m_order m_sizes m_coefficients m_choices m_sorted ++ po cI NA ND u_14 u_15 u_16) H := hP
        have hD : va_D A (xw cI cJ cB cZ cN ha NA u_2 u_3 u_4 u_5 u_6 u_7 u_8 u_9 m_fields m_rowCounts m_elements m_numbers u_10 u_11 u_12 u_13 m_order m_sizes m_coefficients m_choices m_sorted ++ po cI NA ND u_14 u_15 u_16) := hD
        refine lv_goto (tgt := 27) hx hb d_Mo_count_23 (by decide) ?_
        obtain rfl := Option.some.inj h
        subst hQ
        exact W.iret (v := r_21) hx hb hr (fun t ht hW => ⟨⟨r_21, (u_2, u_3, u_4, u_5, u_6, u_7, u_8, u_9, u_10, u_11, u_12, u_13, u_14, u_15, u_16), rfl, rfl, by rw [ht]; exact hP, va_K.moved hW.alike hK, hD⟩, hS.F ht⟩) hS.2.2 d_Mo_count_27
theorem d_Mo_member_0 : decode prog_7_method_42_code 0 = .ok (.aload_n 0, 1) := by decide +kernel
theorem d_Mo_member_1 : decode prog_7_method_42_code 1 = .ok (.iload_n 1, 1) := by decide +kernel
theorem d_Mo_member_2 : decode prog_7_method_42_code 2 = .ok (.invokevirtual 254, 3) := by decide +kernel
theorem d_Mo_member_5 : decode prog_7_method_42_code 5 = .ok (.ifCond .eq 22, 3) := by decide +kernel
theorem d_Mo_member_8 : decode prog_7_method_42_code 8 = .ok (.iload_n 2, 1) := by decide +kernel
theorem d_Mo_member_9 : decode prog_7_method_42_code 9 = .ok (.ifCond .lt 18, 3) := by decide +kernel
theorem d_Mo_member_12 : decode prog_7_method_42_code 12 = .ok (.iload_n 2, 1) := by decide +kernel
theorem d_Mo_member_13 : decode prog_7_method_42_code 13 = .ok (.iconst 3, 1) := by decide +kernel
theorem d_Mo_member_14 : decode prog_7_method_42_code 14 = .ok (.if_icmp .gt 13, 3) := by decide +kernel
theorem d_Mo_member_17 : decode prog_7_method_42_code 17 = .ok (.aload_n 0, 1) := by decide +kernel
theorem d_Mo_member_18 : decode prog_7_method_42_code 18 = .ok (.iload_n 1, 1) := by decide +kernel
theorem d_Mo_member_19 : decode prog_7_method_42_code 19 = .ok (.iload_n 2, 1) := by decide +kernel
theorem d_Mo_member_20 : decode prog_7_method_42_code 20 = .ok (.iload_n 3, 1) := by decide +kernel
theorem d_Mo_member_21 : decode prog_7_method_42_code 21 = .ok (.invokevirtual 260, 3) := by decide +kernel
theorem d_Mo_member_24 : decode prog_7_method_42_code 24 = .ok (.goto 4, 3) := by decide +kernel
theorem d_Mo_member_27 : decode prog_7_method_42_code 27 = .ok (.iconst (-1), 1) := by decide +kernel
theorem d_Mo_member_28 : decode prog_7_method_42_code 28 = .ok (.ireturn, 1) := by decide +kernel
def f_R_member (m_rows : Int32) (m_columns : Int32) (m_prime : Int32) (m_small : Nat → Int32) (m_pivots : Nat → Int32) (m_freeRows : Nat → Int32) (m_freeColumns : Nat → Int32) (m_smallMinor : Nat → Int32) (m_fields : Nat → Int32) (m_rowCounts : Nat → Int32) (m_elements : Nat → Int32) (m_numbers : Nat → Int32) (m_known : Nat → Int32) (m_ranks : Nat → Int32) (m_rankOf : Nat → Int32) (m_signOf : Nat → Int32) (m_order : Nat → Int32) (m_sizes : Nat → Int32) (pn : Nat → Int32) (pm : Nat → Int32) (pd : Nat → Nat → Int32) (t0 : Int32) (kind0 : Int32) (i0 : Int32) : Option (Int32 × Int32 × Int32 × Int32 × (Nat → Int32) × (Nat → Int32) × (Nat → Int32) × (Nat → Int32) × (Nat → Int32) × (Nat → Int32) × (Nat → Int32) × (Nat → Int32) × (Nat → Int32) × (Nat → Int32) × (Nat → Int32) × (Nat → Nat → Int32)) :=
  ck_b16 (f_R_learn m_rows m_columns m_prime m_small m_pivots m_freeRows m_freeColumns m_smallMinor m_fields m_rowCounts m_elements m_numbers m_known m_ranks m_rankOf m_signOf m_order m_sizes pn pm pd t0) <| fun r_1 u_2 u_3 u_4 u_5 u_6 u_7 u_8 u_9 u_10 u_11 u_12 u_13 u_14 u_15 u_16 => ck_if (r_1 = 0) (some ((-1), u_2, u_3, u_4, u_5, u_6, u_7, u_8, u_9, u_10, u_11, u_12, u_13, u_14, u_15, u_16)) (ck_if (kind0 < 0) (some ((-1), u_2, u_3, u_4, u_5, u_6, u_7, u_8, u_9, u_10, u_11, u_12, u_13, u_14, u_15, u_16)) (ck_if (3 < kind0) (some ((-1), u_2, u_3, u_4, u_5, u_6, u_7, u_8, u_9, u_10, u_11, u_12, u_13, u_14, u_15, u_16)) (ck_b1 (f_R_theOne 16384 u_12 4096 m_sizes 4 u_11 4 m_elements 4096 m_order t0 kind0 i0) <| fun r_21 => some (r_21, u_2, u_3, u_4, u_5, u_6, u_7, u_8, u_9, u_10, u_11, u_12, u_13, u_14, u_15, u_16))))
set_option maxHeartbeats 4000000 in
set_option maxRecDepth 100000 in
theorem c_R_member (l : Launch) (dC : Nat → ClassId) (dI : Nat → Nat → Nat) (cI cJ cB cZ cT cN : ClassId) (sz : Nat) (ha NA ND : Nat → Nat) (m_rows : Int32) (m_columns : Int32) (m_prime : Int32) (m_small : Nat → Int32) (m_pivots : Nat → Int32) (m_freeRows : Nat → Int32) (m_freeColumns : Nat → Int32) (m_smallMinor : Nat → Int32) (m_fields : Nat → Int32) (m_rowCounts : Nat → Int32) (m_elements : Nat → Int32) (m_numbers : Nat → Int32) (m_known : Nat → Int32) (m_ranks : Nat → Int32) (m_rankOf : Nat → Int32) (m_signOf : Nat → Int32) (m_order : Nat → Int32) (m_sizes : Nat → Int32) (m_coefficients : Nat → Int64) (m_choices : Nat → Int64) (m_sorted : Nat → Int32) (pn : Nat → Int32) (pm : Nat → Int32) (pd : Nat → Nat → Int32) (t0 : Int32) (kind0 : Int32) (i0 : Int32) (r : Int32 × Int32 × Int32 × Int32 × (Nat → Int32) × (Nat → Int32) × (Nat → Int32) × (Nat → Int32) × (Nat → Int32) × (Nat → Int32) × (Nat → Int32) × (Nat → Int32) × (Nat → Int32) × (Nat → Int32) × (Nat → Int32) × (Nat → Nat → Int32)) (h : f_R_member m_rows m_columns m_prime m_small m_pivots m_freeRows m_freeColumns m_smallMinor m_fields m_rowCounts m_elements m_numbers m_known m_ranks m_rankOf m_signOf m_order m_sizes pn pm pd t0 kind0 i0 = some r) : Met l y_Mo_member w_Mo_member ({ frames := 8, cells := 0, slots := 0, locals := 197 } : Room) (va_Pc [.ref (ha 0), .int t0, .int kind0, .int i0] (fun U => U.heap.size = sz ∧ va_P (dC, dI) cl_all (xw cI cJ cB cZ cN ha NA m_rows m_columns m_prime m_small m_pivots m_freeRows m_freeColumns m_smallMinor m_fields m_rowCounts m_elements m_numbers m_known m_ranks m_rankOf m_signOf m_order m_sizes m_coefficients m_choices m_sorted ++ po cI NA ND pn pm pd) U.heap ∧ va_K (dC, dI) cl_all [(cI, .int), (cJ, .long), (cB, .byte), (cZ, .boolean), (cT, .object "BasisWalk$Table"), (cN, .object "BasisWalkModel$Num")] U ∧ NW U ∧ va_D (fun _ => True) (xw cI cJ cB cZ cN ha NA m_rows m_columns m_prime m_small m_pivots m_freeRows m_freeColumns m_smallMinor m_fields m_rowCounts m_elements m_numbers m_known m_ranks m_rankOf m_signOf m_order m_sizes m_coefficients m_choices m_sorted ++ po cI NA ND pn pm pd))) (va_Qi (fun (v : Int32) (u : Int32 × Int32 × Int32 × (Nat → Int32) × (Nat → Int32) × (Nat → Int32) × (Nat → Int32) × (Nat → Int32) × (Nat → Int32) × (Nat → Int32) × (Nat → Int32) × (Nat → Int32) × (Nat → Int32) × (Nat → Int32) × (Nat → Nat → Int32)) => (v, u) = r) (fun (u : Int32 × Int32 × Int32 × (Nat → Int32) × (Nat → Int32) × (Nat → Int32) × (Nat → Int32) × (Nat → Int32) × (Nat → Int32) × (Nat → Int32) × (Nat → Int32) × (Nat → Int32) × (Nat → Int32) × (Nat → Int32) × (Nat → Nat → Int32)) (t : State) => va_P (dC, dI) cl_all (xw cI cJ cB cZ cN ha NA u.1 u.2.1 u.2.2.1 u.2.2.2.1 u.2.2.2.2.1 u.2.2.2.2.2.1 u.2.2.2.2.2.2.1 u.2.2.2.2.2.2.2.1 m_fields m_rowCounts m_elements m_numbers u.2.2.2.2.2.2.2.2.1 u.2.2.2.2.2.2.2.2.2.1 u.2.2.2.2.2.2.2.2.2.2.1 u.2.2.2.2.2.2.2.2.2.2.2.1 m_order m_sizes m_coefficients m_choices m_sorted ++ po cI NA ND u.2.2.2.2.2.2.2.2.2.2.2.2.1 u.2.2.2.2.2.2.2.2.2.2.2.2.2.1 u.2.2.2.2.2.2.2.2.2.2.2.2.2.2) t.heap ∧ va_K (dC, dI) cl_all [(cI, .int), (cJ, .long), (cB, .byte), (cZ, .boolean), (cT, .object "BasisWalk$Table"), (cN, .object "BasisWalkModel$Num")] t ∧ va_D (va_A (xw cI cJ cB cZ cN ha NA m_rows m_columns m_prime m_small m_pivots m_freeRows m_freeColumns m_smallMinor m_fields m_rowCounts m_elements m_numbers m_known m_ranks m_rankOf m_signOf m_order m_sizes m_coefficients m_choices m_sorted ++ po cI NA ND pn pm pd) sz) (xw cI cJ cB cZ cN ha NA u.1 u.2.1 u.2.2.1 u.2.2.2.1 u.2.2.2.2.1 u.2.2.2.2.2.1 u.2.2.2.2.2.2.1 u.2.2.2.2.2.2.2.1 m_fields m_rowCounts m_elements m_numbers u.2.2.2.2.2.2.2.2.1 u.2.2.2.2.2.2.2.2.2.1 u.2.2.2.2.2.2.2.2.2.2.1 u.2.2.2.2.2.2.2.2.2.2.2.1 m_order m_sizes m_coefficients m_choices m_sorted ++ po cI NA ND u.2.2.2.2.2.2.2.2.2.2.2.2.1 u.2.2.2.2.2.2.2.2.2.2.2.2.2.1 u.2.2.2.2.2.2.2.2.2.2.2.2.2.2)) (va_A (xw cI cJ cB cZ cN ha NA m_rows m_columns m_prime m_small m_pivots m_freeRows m_freeColumns m_smallMinor m_fields m_rowCounts m_elements m_numbers m_known m_ranks m_rankOf m_signOf m_order m_sizes m_coefficients m_choices m_sorted ++ po cI NA ND pn pm pd) sz)) 0 0 (va_A (xw cI cJ cB cZ cN ha NA m_rows m_columns m_prime m_small m_pivots m_freeRows m_freeColumns m_smallMinor m_fields m_rowCounts m_elements m_numbers m_known m_ranks m_rankOf m_signOf m_order m_sizes m_coefficients m_choices m_sorted ++ po cI NA ND pn pm pd) sz) := by
  refine Met.ofW (cc := prog_7_method_42_code) (maxL := 4) (ret := (Option.some Jvm.ClassFile.FieldType.int)) (by decide) rfl ?_
  intro p e s m args below meth c s₁ B hml hv
  obtain ⟨hAR, hsz, hP, hK, hN, hD0⟩ := hv
  have hx := B.exec
  have hb := B.bytes
  have hr := B.returns
  have hts := atoms_spec (ws := w_Mo_member) B.pre
  have hown : s.vm.findClass "BasisWalkModel" = some m.cls := findClass_of_methodNamed B.named
  have hlocks := B.notSynchronized
  clear B
  subst hsz
  have hD := hD0.self (sz := s.heap.size)
  generalize hAe : va_A (xw cI cJ cB cZ cN ha NA m_rows m_columns m_prime m_small m_pivots m_freeRows m_freeColumns m_smallMinor m_fields m_rowCounts m_elements m_numbers m_known m_ranks m_rankOf m_signOf m_order m_sizes m_coefficients m_choices m_sorted ++ po cI NA ND pn pm pd) s.heap.size = A at hD ⊢
  have hA : ∀ q : Nat, s.heap.size ≤ q → A q := fun q h => by rw [← hAe]; exact Or.inr h
  clear hAe hD0
  have hS : va_S A s.heap s.heap [] := va_S.rf
  have hl := lv_entry ([.ref (ha 0), .int t0, .int kind0, .int i0]) (n := 4) (Nat.le_of_ble_eq_true rfl)
  subst hAR
  rw [lg_entry_eq]
  generalize (lg_sl ([.ref (ha 0), .int t0, .int kind0, .int i0]) ++ List.replicate (4 - (lg_sl ([.ref (ha 0), .int t0, .int kind0, .int i0])).length) Slot.unset).toArray = ls at hl ⊢
  have hl : lv_has ls 4 [(0, .ref (ha 0)), (1, .int t0), (2, .int kind0), (3, .int i0)] := hl
  change W p l e ({ frames := 8, cells := 0, slots := 0, locals := 197 } : Room) s m _ below meth c s.heap [] 0 0 _ _
  generalize hARe : ([.ref (ha 0), .int t0, .int kind0, .int i0] : List Value).toArray = AR at hts ⊢
  clear hARe
  generalize hQ : MQ below _ AR s 0 0 A = QQ
  obtain ⟨H, hHe⟩ : ∃ H : Heap, H = s.heap := ⟨_, rfl⟩
  rw [← hHe] at hP ⊢
  replace hS : va_S A s.heap H [] := by rw [hHe]; exact va_S.rf
  clear hHe
  unfold f_R_member at h
  refine lv_aload_n hx hb d_Mo_member_0 rfl (lv_at hl 0 rfl) ?_
  refine lv_iload_n hx hb d_Mo_member_1 rfl (lv_at hl 1 rfl) ?_
  obtain ⟨r_1, u_2, u_3, u_4, u_5, u_6, u_7, u_8, u_9, u_10, u_11, u_12, u_13, u_14, u_15, u_16, hc_17, h⟩ := ck_b16_s h
  have hPc := hP
  have hDc := hD
  have hFc := pw_free hDc hS hA
  refine va_calli (va_runV (As := [.int t0]) (rest := []) ⟨hx, hb, hml, hown, hts⟩ (c_R_learn l dC dI cI cJ cB cZ cT cN H.size ha NA ND m_rows m_columns m_prime m_small m_pivots m_freeRows m_freeColumns m_smallMinor m_fields m_rowCounts m_elements m_numbers m_known m_ranks m_rankOf m_signOf m_order m_sizes m_coefficients m_choices m_sorted pn pm pd t0 _ hc_17) (cwV 1 hts (tb_V tw_473 tw_475 tp_18 tw_6 tw_476) rfl rfl rfl (by decide +kernel) ⟨Nat.le_of_ble_eq_true rfl, Nat.le_of_ble_eq_true rfl⟩) ⟨fun a U g mk q => by obtain ⟨q0, q1, qP, qK, qN, qD⟩ := q; exact ⟨q0, q1, qP, va_K.moved (u := U) (U := U.calling g mk a) (Vm.Alike.refl U.vm) qK, qN.same rfl, qD⟩, va_recv hK hPc (ci := 6) (q0 := 0) rfl rfl, fun U hU hW => ⟨rfl, by rw [hU], by rw [hU]; exact hPc, va_K.moved hW.alike hK, hN.warm hW, hDc.weaken (fun _ _ _ _ => trivial)⟩⟩ rfl rfl hl.1 rfl (lv_room (Nat.le_of_ble_eq_true rfl)) d_Mo_member_2 ⟨Nat.zero_le _, Nat.zero_le _⟩) hS (fun q _ h => hFc q h) hFc (fun rr u t H1 locs ht hvm hw hB hz1 hk1 hS => ?_)
  obtain ⟨e1, e2⟩ := Prod.mk.inj hw
  replace e1 := e1.symm
  replace e2 := e2.symm
  subst e1
  subst e2
  obtain ⟨hP1, -, hD1⟩ := hB
  rw [ht] at hP1
  have hP : va_P (dC, dI) cl_all (xw cI cJ cB cZ cN ha NA u_2 u_3 u_4 u_5 u_6 u_7 u_8 u_9 m_fields m_rowCounts m_elements m_numbers u_10 u_11 u_12 u_13 m_order m_sizes m_coefficients m_choices m_sorted ++ po cI NA ND u_14 u_15 u_16) H1 := hP1
  have hD : va_D A (xw cI cJ cB cZ cN ha NA u_2 u_3 u_4 u_5 u_6 u_7 u_8 u_9 m_fields m_rowCounts m_elements m_numbers u_10 u_11 u_12 u_13 m_order m_sizes m_coefficients m_choices m_sorted ++ po cI NA ND u_14 u_15 u_16) := hD1.weaken (fun _ _ _ h => hFc _ h)
  generalize H1 = H at hP hS ⊢
  have hP : va_P (dC, dI) cl_all (xw cI cJ cB cZ cN ha NA u_2 u_3 u_4 u_5 u_6 u_7 u_8 u_9 m_fields m_rowCounts m_elements m_numbers u_10 u_11 u_12 u_13 m_order m_sizes m_coefficients m_choices m_sorted ++ po cI NA ND u_14 u_15 u_16) H := hP
  have hD : va_D A (xw cI cJ cB cZ cN ha NA u_2 u_3 u_4 u_5 u_6 u_7 u_8 u_9 m_fields m_rowCounts m_elements m_numbers u_10 u_11 u_12 u_13 m_order m_sizes m_coefficients m_choices m_sorted ++ po cI NA ND u_14 u_15 u_16) := hD
  refine lv_if_eq (tgt := 27) hx hb d_Mo_member_5 (by decide) (fun c_18 => ?_) (fun c_18 => ?_)
  · replace h := ck_if_t h c_18
    refine lv_iconst (v := (-1)) hx hb d_Mo_member_27 (by decide) ?_
    obtain rfl := Option.some.inj h
    subst hQ
    exact W.iret (v := (-1)) hx hb hr (fun t ht hW => ⟨⟨(-1), (u_2, u_3, u_4, u_5, u_6, u_7, u_8, u_9, u_10, u_11, u_12, u_13, u_14, u_15, u_16), rfl, rfl, by rw [ht]; exact hP, va_K.moved hW.alike hK, hD⟩, hS.F ht⟩) hS.2.2 d_Mo_member_28
  · replace h := ck_if_f h c_18
    refine lv_iload_n hx hb d_Mo_member_8 rfl (lv_at hl 2 rfl) ?_
    refine lv_if_lt (tgt := 27) hx hb d_Mo_member_9 (by decide) (fun c_19 => ?_) (fun c_19 => ?_)
    · replace h := ck_if_t h c_19
      refine lv_iconst (v := (-1)) hx hb d_Mo_member_27 (by decide) ?_
      obtain rfl := Option.some.inj h
      subst hQ
      exact W.iret (v := (-1)) hx hb hr (fun t ht hW => ⟨⟨(-1), (u_2, u_3, u_4, u_5, u_6, u_7, u_8, u_9, u_10, u_11, u_12, u_13, u_14, u_15, u_16), rfl, rfl, by rw [ht]; exact hP, va_K.moved hW.alike hK, hD⟩, hS.F ht⟩) hS.2.2 d_Mo_member_28
    · replace h := ck_if_f h c_19
      refine lv_iload_n hx hb d_Mo_member_12 rfl (lv_at hl 2 rfl) ?_
      refine lv_iconst (v := 3) hx hb d_Mo_member_13 (by decide) ?_
      refine lv_icmp_gt (tgt := 27) hx hb d_Mo_member_14 (by decide) (fun c_20 => ?_) (fun c_20 => ?_)
      · replace h := ck_if_t h c_20
        refine lv_iconst (v := (-1)) hx hb d_Mo_member_27 (by decide) ?_
        obtain rfl := Option.some.inj h
        subst hQ
        exact W.iret (v := (-1)) hx hb hr (fun t ht hW => ⟨⟨(-1), (u_2, u_3, u_4, u_5, u_6, u_7, u_8, u_9, u_10, u_11, u_12, u_13, u_14, u_15, u_16), rfl, rfl, by rw [ht]; exact hP, va_K.moved hW.alike hK, hD⟩, hS.F ht⟩) hS.2.2 d_Mo_member_28
      · replace h := ck_if_f h c_20
        refine lv_aload_n hx hb d_Mo_member_17 rfl (lv_at hl 0 rfl) ?_
        refine lv_iload_n hx hb d_Mo_member_18 rfl (lv_at hl 1 rfl) ?_
        refine lv_iload_n hx hb d_Mo_member_19 rfl (lv_at hl 2 rfl) ?_
        refine lv_iload_n hx hb d_Mo_member_20 rfl (lv_at hl 3 rfl) ?_
        obtain ⟨r_21, hc_22, h⟩ := ck_b1_s h
        have hPc := hP.sub (ws' := [((ha 0), .inr (6, [.ref (NA 192), .ref (NA 193), .ref (NA 194), .ref (NA 195), .ref (NA 196), .ref (NA 197), .ref (NA 198), .ref (NA 199), .ref (ha 1), .ref (ha 2), .int u_2, .int u_3, .int u_4, .ref (ha 3), .ref (ha 4), .ref (ha 5), .ref (ha 6), .ref (ha 7), .ref (ha 8), .ref (ha 9), .ref (ha 10), .ref (ha 11), .ref (ha 12), .ref (ha 13), .ref (ha 14), .ref (ha 15), .ref (ha 16), .ref (ha 17), .ref (ha 18), .ref (ha 19), .ref (ha 20)])), ((ha 14), .inl (cB, 16384, .inl u_12)), ((ha 17), .inl (cI, 4096, .inl m_sizes)), ((ha 13), .inl (cI, 4, .inl u_11)), ((ha 10), .inl (cI, 4, .inl m_elements)), ((ha 16), .inl (cI, 4096, .inl m_order))]) [0, 14, 17, 13, 10, 16] rfl
        have hDc := hD.sub (ws' := [((ha 0), .inr (6, [.ref (NA 192), .ref (NA 193), .ref (NA 194), .ref (NA 195), .ref (NA 196), .ref (NA 197), .ref (NA 198), .ref (NA 199), .ref (ha 1), .ref (ha 2), .int u_2, .int u_3, .int u_4, .ref (ha 3), .ref (ha 4), .ref (ha 5), .ref (ha 6), .ref (ha 7), .ref (ha 8), .ref (ha 9), .ref (ha 10), .ref (ha 11), .ref (ha 12), .ref (ha 13), .ref (ha 14), .ref (ha 15), .ref (ha 16), .ref (ha 17), .ref (ha 18), .ref (ha 19), .ref (ha 20)])), ((ha 14), .inl (cB, 16384, .inl u_12)), ((ha 17), .inl (cI, 4096, .inl m_sizes)), ((ha 13), .inl (cI, 4, .inl u_11)), ((ha 10), .inl (cI, 4, .inl m_elements)), ((ha 16), .inl (cI, 4096, .inl m_order))]) [0, 14, 17, 13, 10, 16] (by decide) rfl
        have hFc := va_free (wc := [((ha 0), .inr (6, [.ref (NA 192), .ref (NA 193), .ref (NA 194), .ref (NA 195), .ref (NA 196), .ref (NA 197), .ref (NA 198), .ref (NA 199), .ref (ha 1), .ref (ha 2), .int u_2, .int u_3, .int u_4, .ref (ha 3), .ref (ha 4), .ref (ha 5), .ref (ha 6), .ref (ha 7), .ref (ha 8), .ref (ha 9), .ref (ha 10), .ref (ha 11), .ref (ha 12), .ref (ha 13), .ref (ha 14), .ref (ha 15), .ref (ha 16), .ref (ha 17), .ref (ha 18), .ref (ha 19), .ref (ha 20)])), ((ha 14), .inl (cB, 16384, .inl u_12)), ((ha 17), .inl (cI, 4096, .inl m_sizes)), ((ha 13), .inl (cI, 4, .inl u_11)), ((ha 10), .inl (cI, 4, .inl m_elements)), ((ha 16), .inl (cI, 4096, .inl m_order))]) hD hS hA [0, 14, 17, 13, 10, 16] rfl
        refine va_calli (va_runV (As := [.int t0, .int kind0, .int i0]) (rest := []) ⟨hx, hb, hml, hown, hts⟩ (c_R_theOne l dC dI cI cJ cB cZ cT cN H.size (ha 0) (NA 192) (NA 193) (NA 194) (NA 195) (NA 196) (NA 197) (NA 198) (NA 199) (ha 1) (ha 2) (ha 3) (ha 4) (ha 5) (ha 6) (ha 7) (ha 8) (ha 9) (ha 10) (ha 11) (ha 12) (ha 13) (ha 14) (ha 15) (ha 16) (ha 17) (ha 18) (ha 19) (ha 20) u_2 u_3 u_4 16384 u_12 4096 m_sizes 4 u_11 4 m_elements 4096 m_order t0 kind0 i0 _ hc_22) (cwV 3 hts (tb_V tw_638 tw_640 tp_42 tw_6 tw_641) rfl rfl rfl (by decide +kernel) ⟨Nat.le_of_ble_eq_true rfl, Nat.le_of_ble_eq_true rfl⟩) ⟨fun a U g mk q => by obtain ⟨q0, q1, qP, qK, qN, qD⟩ := q; exact ⟨q0, q1, qP, va_K.moved (u := U) (U := U.calling g mk a) (Vm.Alike.refl U.vm) qK, qN.same rfl, qD⟩, va_recv hK hPc (ci := 6) (q0 := 0) rfl rfl, fun U hU hW => ⟨rfl, by rw [hU], by rw [hU]; exact hPc, va_K.moved hW.alike hK, hN.warm hW, hDc.weaken (fun _ _ _ _ => trivial)⟩⟩ rfl rfl hl.1 rfl (lv_room (Nat.le_of_ble_eq_true rfl)) d_Mo_member_21 ⟨Nat.zero_le _, Nat.zero_le _⟩) hS (fun q _ h => hFc q h) hFc (fun rr u t H1 locs ht hvm hw hB hz1 hk1 hS => ?_)
        replace hw := hw.symm
        subst hw
        obtain ⟨hP1, -, hD1⟩ := hB
        rw [ht] at hP1
        obtain ⟨hP, hD⟩ := pw_back (ws' := (xw cI cJ cB cZ cN ha NA u_2 u_3 u_4 u_5 u_6 u_7 u_8 u_9 m_fields m_rowCounts m_elements m_numbers u_10 u_11 u_12 u_13 m_order m_sizes m_coefficients m_choices m_sorted ++ po cI NA ND u_14 u_15 u_16)) (w1 := [((ha 0), .inr (6, [.ref (NA 192), .ref (NA 193), .ref (NA 194), .ref (NA 195), .ref (NA 196), .ref (NA 197), .ref (NA 198), .ref (NA 199), .ref (ha 1), .ref (ha 2), .int u_2, .int u_3, .int u_4, .ref (ha 3), .ref (ha 4), .ref (ha 5), .ref (ha 6), .ref (ha 7), .ref (ha 8), .ref (ha 9), .ref (ha 10), .ref (ha 11), .ref (ha 12), .ref (ha 13), .ref (ha 14), .ref (ha 15), .ref (ha 16), .ref (ha 17), .ref (ha 18), .ref (ha 19), .ref (ha 20)])), ((ha 14), .inl (cB, 16384, .inl u_12)), ((ha 17), .inl (cI, 4096, .inl m_sizes)), ((ha 13), .inl (cI, 4, .inl u_11)), ((ha 10), .inl (cI, 4, .inl m_elements)), ((ha 16), .inl (cI, 4096, .inl m_order))]) hP hD hk1 hP1 (fun k => match k with | 0 => rfl | 1 => rfl | 2 => rfl | 3 => rfl | 4 => rfl | 5 => rfl | 6 => rfl | 7 => rfl | 8 => rfl | 9 => rfl | 10 => rfl | 11 => rfl | 12 => rfl | 13 => rfl | 14 => rfl | 15 => rfl | 16 => rfl | 17 => rfl | 18 => rfl | 19 => rfl | 20 => rfl | q + 21 => rfl) (fun k q hq => match k, hq with | 0, hq => Or.inl ⟨0, hq⟩ | 1, hq => Or.inr ⟨hq, pw_off (k := 1) hD [0, 14, 17, 13, 10, 16] rfl hq (by decide)⟩ | 2, hq => Or.inr ⟨hq, pw_off (k := 2) hD [0, 14, 17, 13, 10, 16] rfl hq (by decide)⟩ | 3, hq => Or.inr ⟨hq, pw_off (k := 3) hD [0, 14, 17, 13, 10, 16] rfl hq (by decide)⟩ | 4, hq => Or.inr ⟨hq, pw_off (k := 4) hD [0, 14, 17, 13, 10, 16] rfl hq (by decide)⟩ | 5, hq => Or.inr ⟨hq, pw_off (k := 5) hD [0, 14, 17, 13, 10, 16] rfl hq (by decide)⟩ | 6, hq => Or.inr ⟨hq, pw_off (k := 6) hD [0, 14, 17, 13, 10, 16] rfl hq (by decide)⟩ | 7, hq => Or.inr ⟨hq, pw_off (k := 7) hD [0, 14, 17, 13, 10, 16] rfl hq (by decide)⟩ | 8, hq => Or.inr ⟨hq, pw_off (k := 8) hD [0, 14, 17, 13, 10, 16] rfl hq (by decide)⟩ | 9, hq => Or.inr ⟨hq, pw_off (k := 9) hD [0, 14, 17, 13, 10, 16] rfl hq (by decide)⟩ | 10, hq => Or.inl ⟨4, hq⟩ | 11, hq => Or.inr ⟨hq, pw_off (k := 11) hD [0, 14, 17, 13, 10, 16] rfl hq (by decide)⟩ | 12, hq => Or.inr ⟨hq, pw_off (k := 12) hD [0, 14, 17, 13, 10, 16] rfl hq (by decide)⟩ | 13, hq => Or.inl ⟨3, hq⟩ | 14, hq => Or.inl ⟨1, hq⟩ | 15, hq => Or.inr ⟨hq, pw_off (k := 15) hD [0, 14, 17, 13, 10, 16] rfl hq (by decide)⟩ | 16, hq => Or.inl ⟨5, hq⟩ | 17, hq => Or.inl ⟨2, hq⟩ | 18, hq => Or.inr ⟨hq, pw_off (k := 18) hD [0, 14, 17, 13, 10, 16] rfl hq (by decide)⟩ | 19, hq => Or.inr ⟨hq, pw_off (k := 19) hD [0, 14, 17, 13, 10, 16] rfl hq (by decide)⟩ | 20, hq => Or.inr ⟨hq, pw_off (k := 20) hD [0, 14, 17, 13, 10, 16] rfl hq (by decide)⟩ | q + 21, hq => Or.inr ⟨hq, pw_off (k := q + 21) hD [0, 14, 17, 13, 10, 16] rfl hq (by simp only [List.mem_cons, List.not_mem_nil, or_false, not_or]; omega)⟩)
        generalize H1 = H at hP hS ⊢
        have hP : va_P (dC, dI) cl_all (xw cI cJ cB cZ cN ha NA u_2 u_3 u_4 u_5 u_6 u_7 u_8 u_9 m_fields m_rowCounts m_elements m_numbers u_10 u_11 u_12 u_13 m_order m_sizes m_coefficients m_choices m_sorted ++ po cI NA ND u_14 u_15 u_16) H := hP
        have hD : va_D A (xw cI cJ cB cZ cN ha NA u_2 u_3 u_4 u_5 u_6 u_7 u_8 u_9 m_fields m_rowCounts m_elements m_numbers u_10 u_11 u_12 u_13 m_order m_sizes m_coefficients m_choices m_sorted ++ po cI NA ND u_14 u_15 u_16) := hD
        refine lv_goto (tgt := 28) hx hb d_Mo_member_24 (by decide) ?_
        obtain rfl := Option.some.inj h
        subst hQ
        exact W.iret (v := r_21) hx hb hr (fun t ht hW => ⟨⟨r_21, (u_2, u_3, u_4, u_5, u_6, u_7, u_8, u_9, u_10, u_11, u_12, u_13, u_14, u_15, u_16), rfl, rfl, by rw [ht]; exact hP, va_K.moved hW.alike hK, hD⟩, hS.F ht⟩) hS.2.2 d_Mo_member_28
theorem d_Mo_tutte_0 : decode prog_7_method_43_code 0 = .ok (.aload_n 0, 1) := by decide +kernel
theorem d_Mo_tutte_1 : decode prog_7_method_43_code 1 = .ok (.iload_n 1, 1) := by decide +kernel
theorem d_Mo_tutte_2 : decode prog_7_method_43_code 2 = .ok (.invokevirtual 254, 3) := by decide +kernel
theorem d_Mo_tutte_5 : decode prog_7_method_43_code 5 = .ok (.ifCond .eq 23, 3) := by decide +kernel
theorem d_Mo_tutte_8 : decode prog_7_method_43_code 8 = .ok (.iload_n 2, 1) := by decide +kernel
theorem d_Mo_tutte_9 : decode prog_7_method_43_code 9 = .ok (.ifCond .lt 19, 3) := by decide +kernel
theorem d_Mo_tutte_12 : decode prog_7_method_43_code 12 = .ok (.iload_n 3, 1) := by decide +kernel
theorem d_Mo_tutte_13 : decode prog_7_method_43_code 13 = .ok (.ifCond .lt 15, 3) := by decide +kernel
theorem d_Mo_tutte_16 : decode prog_7_method_43_code 16 = .ok (.iload_n 2, 1) := by decide +kernel
theorem d_Mo_tutte_17 : decode prog_7_method_43_code 17 = .ok (.bipush 12, 2) := by decide +kernel
theorem d_Mo_tutte_19 : decode prog_7_method_43_code 19 = .ok (.if_icmp .gt 9, 3) := by decide +kernel
theorem d_Mo_tutte_22 : decode prog_7_method_43_code 22 = .ok (.iload_n 3, 1) := by decide +kernel
theorem d_Mo_tutte_23 : decode prog_7_method_43_code 23 = .ok (.bipush 12, 2) := by decide +kernel
theorem d_Mo_tutte_25 : decode prog_7_method_43_code 25 = .ok (.if_icmp .le 5, 3) := by decide +kernel
theorem d_Mo_tutte_28 : decode prog_7_method_43_code 28 = .ok (.lconst 0, 1) := by decide +kernel
theorem d_Mo_tutte_29 : decode prog_7_method_43_code 29 = .ok (.lreturn, 1) := by decide +kernel
theorem d_Mo_tutte_30 : decode prog_7_method_43_code 30 = .ok (.aload_n 0, 1) := by decide +kernel
theorem d_Mo_tutte_31 : decode prog_7_method_43_code 31 = .ok (.iload_n 1, 1) := by decide +kernel
theorem d_Mo_tutte_32 : decode prog_7_method_43_code 32 = .ok (.invokevirtual 263, 3) := by decide +kernel
theorem d_Mo_tutte_35 : decode prog_7_method_43_code 35 = .ok (.aload_n 0, 1) := by decide +kernel
theorem d_Mo_tutte_36 : decode prog_7_method_43_code 36 = .ok (.getfield 185, 3) := by decide +kernel
theorem d_Mo_tutte_39 : decode prog_7_method_43_code 39 = .ok (.bipush 13, 2) := by decide +kernel
theorem d_Mo_tutte_41 : decode prog_7_method_43_code 41 = .ok (.iload_n 2, 1) := by decide +kernel
theorem d_Mo_tutte_42 : decode prog_7_method_43_code 42 = .ok (.imul, 1) := by decide +kernel
theorem d_Mo_tutte_43 : decode prog_7_method_43_code 43 = .ok (.iload_n 3, 1) := by decide +kernel
theorem d_Mo_tutte_44 : decode prog_7_method_43_code 44 = .ok (.iadd, 1) := by decide +kernel
theorem d_Mo_tutte_45 : decode prog_7_method_43_code 45 = .ok (.laload, 1) := by decide +kernel
theorem d_Mo_tutte_46 : decode prog_7_method_43_code 46 = .ok (.lreturn, 1) := by decide +kernel
def f_R_tutte (m_rows : Int32) (m_columns : Int32) (m_prime : Int32) (m_small : Nat → Int32) (m_pivots : Nat → Int32) (m_freeRows : Nat → Int32) (m_freeColumns : Nat → Int32) (m_smallMinor : Nat → Int32) (m_fields : Nat → Int32) (m_rowCounts : Nat → Int32) (m_elements : Nat → Int32) (m_numbers : Nat → Int32) (m_known : Nat → Int32) (m_ranks : Nat → Int32) (m_rankOf : Nat → Int32) (m_signOf : Nat → Int32) (m_order : Nat → Int32) (m_sizes : Nat → Int32) (m_coefficients : Nat → Int64) (m_choices : Nat → Int64) (pn : Nat → Int32) (pm : Nat → Int32) (pd : Nat → Nat → Int32) (t0 : Int32) (i0 : Int32) (j0 : Int32) : Option (Int64 × Int32 × Int32 × Int32 × (Nat → Int32) × (Nat → Int32) × (Nat → Int32) × (Nat → Int32) × (Nat → Int32) × (Nat → Int32) × (Nat → Int32) × (Nat → Int32) × (Nat → Int32) × (Nat → Int32) × (Nat → Int32) × (Nat → Nat → Int32) × (Nat → Int64) × (Nat → Int64)) :=
  ck_b16 (f_R_learn m_rows m_columns m_prime m_small m_pivots m_freeRows m_freeColumns m_smallMinor m_fields m_rowCounts m_elements m_numbers m_known m_ranks m_rankOf m_signOf m_order m_sizes pn pm pd t0) <| fun r_1 u_2 u_3 u_4 u_5 u_6 u_7 u_8 u_9 u_10 u_11 u_12 u_13 u_14 u_15 u_16 => ck_if (r_1 = 0) (some (0, u_2, u_3, u_4, u_5, u_6, u_7, u_8, u_9, u_10, u_11, u_12, u_13, u_14, u_15, u_16, m_coefficients, m_choices)) (ck_if (i0 < 0) (some (0, u_2, u_3, u_4, u_5, u_6, u_7, u_8, u_9, u_10, u_11, u_12, u_13, u_14, u_15, u_16, m_coefficients, m_choices)) (ck_if (j0 < 0) (some (0, u_2, u_3, u_4, u_5, u_6, u_7, u_8, u_9, u_10, u_11, u_12, u_13, u_14, u_15, u_16, m_coefficients, m_choices)) (ck_if (12 < i0) (some (0, u_2, u_3, u_4, u_5, u_6, u_7, u_8, u_9, u_10, u_11, u_12, u_13, u_14, u_15, u_16, m_coefficients, m_choices)) (ck_if (j0 ≤ 12) (ck_b2 (f_R_polynomial 16384 u_12 4096 m_sizes 4 u_11 4 m_elements 169 m_coefficients 169 m_choices t0) <| fun u_23 u_24 => ck_in ((13 * i0) + j0) 169 <| some ((u_23 ((13 * i0) + j0).toNatClampNeg), u_2, u_3, u_4, u_5, u_6, u_7, u_8, u_9, u_10, u_11, u_12, u_13, u_14, u_15, u_16, u_23, u_24)) (some (0, u_2, u_3, u_4, u_5, u_6, u_7, u_8, u_9, u_10, u_11, u_12, u_13, u_14, u_15, u_16, m_coefficients, m_choices))))))
set_option maxHeartbeats 4000000 in
set_option maxRecDepth 100000 in
theorem c_R_tutte (l : Launch) (dC : Nat → ClassId) (dI : Nat → Nat → Nat) (cI cJ cB cZ cT cN : ClassId) (sz : Nat) (ha NA ND : Nat → Nat) (m_rows : Int32) (m_columns : Int32) (m_prime : Int32) (m_small : Nat → Int32) (m_pivots : Nat → Int32) (m_freeRows : Nat → Int32) (m_freeColumns : Nat → Int32) (m_smallMinor : Nat → Int32) (m_fields : Nat → Int32) (m_rowCounts : Nat → Int32) (m_elements : Nat → Int32) (m_numbers : Nat → Int32) (m_known : Nat → Int32) (m_ranks : Nat → Int32) (m_rankOf : Nat → Int32) (m_signOf : Nat → Int32) (m_order : Nat → Int32) (m_sizes : Nat → Int32) (m_coefficients : Nat → Int64) (m_choices : Nat → Int64) (m_sorted : Nat → Int32) (pn : Nat → Int32) (pm : Nat → Int32) (pd : Nat → Nat → Int32) (t0 : Int32) (i0 : Int32) (j0 : Int32) (r : Int64 × Int32 × Int32 × Int32 × (Nat → Int32) × (Nat → Int32) × (Nat → Int32) × (Nat → Int32) × (Nat → Int32) × (Nat → Int32) × (Nat → Int32) × (Nat → Int32) × (Nat → Int32) × (Nat → Int32) × (Nat → Int32) × (Nat → Nat → Int32) × (Nat → Int64) × (Nat → Int64)) (h : f_R_tutte m_rows m_columns m_prime m_small m_pivots m_freeRows m_freeColumns m_smallMinor m_fields m_rowCounts m_elements m_numbers m_known m_ranks m_rankOf m_signOf m_order m_sizes m_coefficients m_choices pn pm pd t0 i0 j0 = some r) : Met l y_Mo_tutte w_Mo_tutte ({ frames := 8, cells := 0, slots := 0, locals := 197 } : Room) (va_Pc [.ref (ha 0), .int t0, .int i0, .int j0] (fun U => U.heap.size = sz ∧ va_P (dC, dI) cl_all (xw cI cJ cB cZ cN ha NA m_rows m_columns m_prime m_small m_pivots m_freeRows m_freeColumns m_smallMinor m_fields m_rowCounts m_elements m_numbers m_known m_ranks m_rankOf m_signOf m_order m_sizes m_coefficients m_choices m_sorted ++ po cI NA ND pn pm pd) U.heap ∧ va_K (dC, dI) cl_all [(cI, .int), (cJ, .long), (cB, .byte), (cZ, .boolean), (cT, .object "BasisWalk$Table"), (cN, .object "BasisWalkModel$Num")] U ∧ NW U ∧ va_D (fun _ => True) (xw cI cJ cB cZ cN ha NA m_rows m_columns m_prime m_small m_pivots m_freeRows m_freeColumns m_smallMinor m_fields m_rowCounts m_elements m_numbers m_known m_ranks m_rankOf m_signOf m_order m_sizes m_coefficients m_choices m_sorted ++ po cI NA ND pn pm pd))) (va_Ql (fun (v : Int64) (u : Int32 × Int32 × Int32 × (Nat → Int32) × (Nat → Int32) × (Nat → Int32) × (Nat → Int32) × (Nat → Int32) × (Nat → Int32) × (Nat → Int32) × (Nat → Int32) × (Nat → Int32) × (Nat → Int32) × (Nat → Int32) × (Nat → Nat → Int32) × (Nat → Int64) × (Nat → Int64)) => (v, u) = r) (fun (u : Int32 × Int32 × Int32 × (Nat → Int32) × (Nat → Int32) × (Nat → Int32) × (Nat → Int32) × (Nat → Int32) × (Nat → Int32) × (Nat → Int32) × (Nat → Int32) × (Nat → Int32) × (Nat → Int32) × (Nat → Int32) × (Nat → Nat → Int32) × (Nat → Int64) × (Nat → Int64)) (t : State) => va_P (dC, dI) cl_all (xw cI cJ cB cZ cN ha NA u.1 u.2.1 u.2.2.1 u.2.2.2.1 u.2.2.2.2.1 u.2.2.2.2.2.1 u.2.2.2.2.2.2.1 u.2.2.2.2.2.2.2.1 m_fields m_rowCounts m_elements m_numbers u.2.2.2.2.2.2.2.2.1 u.2.2.2.2.2.2.2.2.2.1 u.2.2.2.2.2.2.2.2.2.2.1 u.2.2.2.2.2.2.2.2.2.2.2.1 m_order m_sizes u.2.2.2.2.2.2.2.2.2.2.2.2.2.2.2.1 u.2.2.2.2.2.2.2.2.2.2.2.2.2.2.2.2 m_sorted ++ po cI NA ND u.2.2.2.2.2.2.2.2.2.2.2.2.1 u.2.2.2.2.2.2.2.2.2.2.2.2.2.1 u.2.2.2.2.2.2.2.2.2.2.2.2.2.2.1) t.heap ∧ va_K (dC, dI) cl_all [(cI, .int), (cJ, .long), (cB, .byte), (cZ, .boolean), (cT, .object "BasisWalk$Table"), (cN, .object "BasisWalkModel$Num")] t ∧ va_D (va_A (xw cI cJ cB cZ cN ha NA m_rows m_columns m_prime m_small m_pivots m_freeRows m_freeColumns m_smallMinor m_fields m_rowCounts m_elements m_numbers m_known m_ranks m_rankOf m_signOf m_order m_sizes m_coefficients m_choices m_sorted ++ po cI NA ND pn pm pd) sz) (xw cI cJ cB cZ cN ha NA u.1 u.2.1 u.2.2.1 u.2.2.2.1 u.2.2.2.2.1 u.2.2.2.2.2.1 u.2.2.2.2.2.2.1 u.2.2.2.2.2.2.2.1 m_fields m_rowCounts m_elements m_numbers u.2.2.2.2.2.2.2.2.1 u.2.2.2.2.2.2.2.2.2.1 u.2.2.2.2.2.2.2.2.2.2.1 u.2.2.2.2.2.2.2.2.2.2.2.1 m_order m_sizes u.2.2.2.2.2.2.2.2.2.2.2.2.2.2.2.1 u.2.2.2.2.2.2.2.2.2.2.2.2.2.2.2.2 m_sorted ++ po cI NA ND u.2.2.2.2.2.2.2.2.2.2.2.2.1 u.2.2.2.2.2.2.2.2.2.2.2.2.2.1 u.2.2.2.2.2.2.2.2.2.2.2.2.2.2.1)) (va_A (xw cI cJ cB cZ cN ha NA m_rows m_columns m_prime m_small m_pivots m_freeRows m_freeColumns m_smallMinor m_fields m_rowCounts m_elements m_numbers m_known m_ranks m_rankOf m_signOf m_order m_sizes m_coefficients m_choices m_sorted ++ po cI NA ND pn pm pd) sz)) 0 0 (va_A (xw cI cJ cB cZ cN ha NA m_rows m_columns m_prime m_small m_pivots m_freeRows m_freeColumns m_smallMinor m_fields m_rowCounts m_elements m_numbers m_known m_ranks m_rankOf m_signOf m_order m_sizes m_coefficients m_choices m_sorted ++ po cI NA ND pn pm pd) sz) := by
  refine Met.ofW (cc := prog_7_method_43_code) (maxL := 4) (ret := (Option.some Jvm.ClassFile.FieldType.long)) (by decide) rfl ?_
  intro p e s m args below meth c s₁ B hml hv
  obtain ⟨hAR, hsz, hP, hK, hN, hD0⟩ := hv
  have hx := B.exec
  have hb := B.bytes
  have hr := B.returns
  have hts := atoms_spec (ws := w_Mo_tutte) B.pre
  have hown : s.vm.findClass "BasisWalkModel" = some m.cls := findClass_of_methodNamed B.named
  have hlocks := B.notSynchronized
  clear B
  subst hsz
  have hD := hD0.self (sz := s.heap.size)
  generalize hAe : va_A (xw cI cJ cB cZ cN ha NA m_rows m_columns m_prime m_small m_pivots m_freeRows m_freeColumns m_smallMinor m_fields m_rowCounts m_elements m_numbers m_known m_ranks m_rankOf m_signOf m_order m_sizes m_coefficients m_choices m_sorted ++ po cI NA ND pn pm pd) s.heap.size = A at hD ⊢
  have hA : ∀ q : Nat, s.heap.size ≤ q → A q := fun q h => by rw [← hAe]; exact Or.inr h
  clear hAe hD0
  have hS : va_S A s.heap s.heap [] := va_S.rf
  have hl := lv_entry ([.ref (ha 0), .int t0, .int i0, .int j0]) (n := 4) (Nat.le_of_ble_eq_true rfl)
  subst hAR
  rw [lg_entry_eq]
  generalize (lg_sl ([.ref (ha 0), .int t0, .int i0, .int j0]) ++ List.replicate (4 - (lg_sl ([.ref (ha 0), .int t0, .int i0, .int j0])).length) Slot.unset).toArray = ls at hl ⊢
  have hl : lv_has ls 4 [(0, .ref (ha 0)), (1, .int t0), (2, .int i0), (3, .int j0)] := hl
  change W p l e ({ frames := 8, cells := 0, slots := 0, locals := 197 } : Room) s m _ below meth c s.heap [] 0 0 _ _
  generalize hARe : ([.ref (ha 0), .int t0, .int i0, .int j0] : List Value).toArray = AR at hts ⊢
  clear hARe
  generalize hQ : MQ below _ AR s 0 0 A = QQ
  have fl0 := hts _ (List.mem_cons_of_mem _ tw_383)
  have iw1 := (fun w hw => List.mem_cons_of_mem _ (in_Mo w hw) : ∀ w ∈ u_ws "BasisWalkModel" T_Mo 31, w ∈ w_Mo_tutte)
  obtain ⟨H, hHe⟩ : ∃ H : Heap, H = s.heap := ⟨_, rfl⟩
  rw [← hHe] at hP ⊢
  replace hS : va_S A s.heap H [] := by rw [hHe]; exact va_S.rf
  clear hHe
  unfold f_R_tutte at h
  refine lv_aload_n hx hb d_Mo_tutte_0 rfl (lv_at hl 0 rfl) ?_
  refine lv_iload_n hx hb d_Mo_tutte_1 rfl (lv_at hl 1 rfl) ?_
  obtain ⟨r_1, u_2, u_3, u_4, u_5, u_6, u_7, u_8, u_9, u_10, u_11, u_12, u_13, u_14, u_15, u_16, hc_17, h⟩ := ck_b16_s h
  have hPc := hP
  have hDc := hD
  have hFc := pw_free hDc hS hA
  refine va_calli (va_runV (As := [.int t0]) (rest := []) ⟨hx, hb, hml, hown, hts⟩ (c_R_learn l dC dI cI cJ cB cZ cT cN H.size ha NA ND m_rows m_columns m_prime m_small m_pivots m_freeRows m_freeColumns m_smallMinor m_fields m_rowCounts m_elements m_numbers m_known m_ranks m_rankOf m_signOf m_order m_sizes m_coefficients m_choices m_sorted pn pm pd t0 _ hc_17) (cwV 1 hts (tb_V tw_473 tw_475 tp_18 tw_6 tw_476) rfl rfl rfl (by decide +kernel) ⟨Nat.le_of_ble_eq_true rfl, Nat.le_of_ble_eq_true rfl⟩) ⟨fun a U g mk q => by obtain ⟨q0, q1, qP, qK, qN, qD⟩ := q; exact ⟨q0, q1, qP, va_K.moved (u := U) (U := U.calling g mk a) (Vm.Alike.refl U.vm) qK, qN.same rfl, qD⟩, va_recv hK hPc (ci := 6) (q0 := 0) rfl rfl, fun U hU hW => ⟨rfl, by rw [hU], by rw [hU]; exact hPc, va_K.moved hW.alike hK, hN.warm hW, hDc.weaken (fun _ _ _ _ => trivial)⟩⟩ rfl rfl hl.1 rfl (lv_room (Nat.le_of_ble_eq_true rfl)) d_Mo_tutte_2 ⟨Nat.zero_le _, Nat.zero_le _⟩) hS (fun q _ h => hFc q h) hFc (fun rr u t H1 locs ht hvm hw hB hz1 hk1 hS => ?_)
  obtain ⟨e1, e2⟩ := Prod.mk.inj hw
  replace e1 := e1.symm
  replace e2 := e2.symm
  subst e1
  subst e2
  obtain ⟨hP1, -, hD1⟩ := hB
  rw [ht] at hP1
  have hP : va_P (dC, dI) cl_all (xw cI cJ cB cZ cN ha NA u_2 u_3 u_4 u_5 u_6 u_7 u_8 u_9 m_fields m_rowCounts m_elements m_numbers u_10 u_11 u_12 u_13 m_order m_sizes m_coefficients m_choices m_sorted ++ po cI NA ND u_14 u_15 u_16) H1 := hP1
  have hD : va_D A (xw cI cJ cB cZ cN ha NA u_2 u_3 u_4 u_5 u_6 u_7 u_8 u_9 m_fields m_rowCounts m_elements m_numbers u_10 u_11 u_12 u_13 m_order m_sizes m_coefficients m_choices m_sorted ++ po cI NA ND u_14 u_15 u_16) := hD1.weaken (fun _ _ _ h => hFc _ h)
  generalize H1 = H at hP hS ⊢
  have hP : va_P (dC, dI) cl_all (xw cI cJ cB cZ cN ha NA u_2 u_3 u_4 u_5 u_6 u_7 u_8 u_9 m_fields m_rowCounts m_elements m_numbers u_10 u_11 u_12 u_13 m_order m_sizes m_coefficients m_choices m_sorted ++ po cI NA ND u_14 u_15 u_16) H := hP
  have hD : va_D A (xw cI cJ cB cZ cN ha NA u_2 u_3 u_4 u_5 u_6 u_7 u_8 u_9 m_fields m_rowCounts m_elements m_numbers u_10 u_11 u_12 u_13 m_order m_sizes m_coefficients m_choices m_sorted ++ po cI NA ND u_14 u_15 u_16) := hD
  refine lv_if_eq (tgt := 28) hx hb d_Mo_tutte_5 (by decide) (fun c_18 => ?_) (fun c_18 => ?_)
  · replace h := ck_if_t h c_18
    refine lv_lconst (v := 0) hx hb d_Mo_tutte_28 (by decide) ?_
    obtain rfl := Option.some.inj h
    subst hQ
    exact W.lret (v := 0) hx hb hr (fun t ht hW => ⟨⟨0, (u_2, u_3, u_4, u_5, u_6, u_7, u_8, u_9, u_10, u_11, u_12, u_13, u_14, u_15, u_16, m_coefficients, m_choices), rfl, rfl, by rw [ht]; exact hP, va_K.moved hW.alike hK, hD⟩, hS.F ht⟩) hS.2.2 d_Mo_tutte_29
  · replace h := ck_if_f h c_18
    refine lv_iload_n hx hb d_Mo_tutte_8 rfl (lv_at hl 2 rfl) ?_
    refine lv_if_lt (tgt := 28) hx hb d_Mo_tutte_9 (by decide) (fun c_19 => ?_) (fun c_19 => ?_)
    · replace h := ck_if_t h c_19
      refine lv_lconst (v := 0) hx hb d_Mo_tutte_28 (by decide) ?_
      obtain rfl := Option.some.inj h
      subst hQ
      exact W.lret (v := 0) hx hb hr (fun t ht hW => ⟨⟨0, (u_2, u_3, u_4, u_5, u_6, u_7, u_8, u_9, u_10, u_11, u_12, u_13, u_14, u_15, u_16, m_coefficients, m_choices), rfl, rfl, by rw [ht]; exact hP, va_K.moved hW.alike hK, hD⟩, hS.F ht⟩) hS.2.2 d_Mo_tutte_29
    · replace h := ck_if_f h c_19
      refine lv_iload_n hx hb d_Mo_tutte_12 rfl (lv_at hl 3 rfl) ?_
      refine lv_if_lt (tgt := 28) hx hb d_Mo_tutte_13 (by decide) (fun c_20 => ?_) (fun c_20 => ?_)
      · replace h := ck_if_t h c_20
        refine lv_lconst (v := 0) hx hb d_Mo_tutte_28 (by decide) ?_
        obtain rfl := Option.some.inj h
        subst hQ
        exact W.lret (v := 0) hx hb hr (fun t ht hW => ⟨⟨0, (u_2, u_3, u_4, u_5, u_6, u_7, u_8, u_9, u_10, u_11, u_12, u_13, u_14, u_15, u_16, m_coefficients, m_choices), rfl, rfl, by rw [ht]; exact hP, va_K.moved hW.alike hK, hD⟩, hS.F ht⟩) hS.2.2 d_Mo_tutte_29
      · replace h := ck_if_f h c_20
        refine lv_iload_n hx hb d_Mo_tutte_16 rfl (lv_at hl 2 rfl) ?_
        refine lv_bipush (v := 12) hx hb d_Mo_tutte_17 (by decide) ?_
        refine lv_icmp_gt (tgt := 28) hx hb d_Mo_tutte_19 (by decide) (fun c_21 => ?_) (fun c_21 => ?_)
        · replace h := ck_if_t h c_21
          refine lv_lconst (v := 0) hx hb d_Mo_tutte_28 (by decide) ?_
          obtain rfl := Option.some.inj h
          subst hQ
          exact W.lret (v := 0) hx hb hr (fun t ht hW => ⟨⟨0, (u_2, u_3, u_4, u_5, u_6, u_7, u_8, u_9, u_10, u_11, u_12, u_13, u_14, u_15, u_16, m_coefficients, m_choices), rfl, rfl, by rw [ht]; exact hP, va_K.moved hW.alike hK, hD⟩, hS.F ht⟩) hS.2.2 d_Mo_tutte_29
        · replace h := ck_if_f h c_21
          refine lv_iload_n hx hb d_Mo_tutte_22 rfl (lv_at hl 3 rfl) ?_
          refine lv_bipush (v := 12) hx hb d_Mo_tutte_23 (by decide) ?_
          refine lv_icmp_le (tgt := 30) hx hb d_Mo_tutte_25 (by decide) (fun c_22 => ?_) (fun c_22 => ?_)
          · replace h := ck_if_t h c_22
            refine lv_aload_n hx hb d_Mo_tutte_30 rfl (lv_at hl 0 rfl) ?_
            refine lv_iload_n hx hb d_Mo_tutte_31 rfl (lv_at hl 1 rfl) ?_
            obtain ⟨u_23, u_24, hc_25, h⟩ := ck_b2_s h
            have hPc := hP.sub (ws' := [((ha 0), .inr (6, [.ref (NA 192), .ref (NA 193), .ref (NA 194), .ref (NA 195), .ref (NA 196), .ref (NA 197), .ref (NA 198), .ref (NA 199), .ref (ha 1), .ref (ha 2), .int u_2, .int u_3, .int u_4, .ref (ha 3), .ref (ha 4), .ref (ha 5), .ref (ha 6), .ref (ha 7), .ref (ha 8), .ref (ha 9), .ref (ha 10), .ref (ha 11), .ref (ha 12), .ref (ha 13), .ref (ha 14), .ref (ha 15), .ref (ha 16), .ref (ha 17), .ref (ha 18), .ref (ha 19), .ref (ha 20)])), ((ha 14), .inl (cB, 16384, .inl u_12)), ((ha 17), .inl (cI, 4096, .inl m_sizes)), ((ha 13), .inl (cI, 4, .inl u_11)), ((ha 10), .inl (cI, 4, .inl m_elements)), ((ha 18), .inl (cJ, 169, .inr (.inl m_coefficients))), ((ha 19), .inl (cJ, 169, .inr (.inl m_choices)))]) [0, 14, 17, 13, 10, 18, 19] rfl
            have hDc := hD.sub (ws' := [((ha 0), .inr (6, [.ref (NA 192), .ref (NA 193), .ref (NA 194), .ref (NA 195), .ref (NA 196), .ref (NA 197), .ref (NA 198), .ref (NA 199), .ref (ha 1), .ref (ha 2), .int u_2, .int u_3, .int u_4, .ref (ha 3), .ref (ha 4), .ref (ha 5), .ref (ha 6), .ref (ha 7), .ref (ha 8), .ref (ha 9), .ref (ha 10), .ref (ha 11), .ref (ha 12), .ref (ha 13), .ref (ha 14), .ref (ha 15), .ref (ha 16), .ref (ha 17), .ref (ha 18), .ref (ha 19), .ref (ha 20)])), ((ha 14), .inl (cB, 16384, .inl u_12)), ((ha 17), .inl (cI, 4096, .inl m_sizes)), ((ha 13), .inl (cI, 4, .inl u_11)), ((ha 10), .inl (cI, 4, .inl m_elements)), ((ha 18), .inl (cJ, 169, .inr (.inl m_coefficients))), ((ha 19), .inl (cJ, 169, .inr (.inl m_choices)))]) [0, 14, 17, 13, 10, 18, 19] (by decide) rfl
            have hFc := va_free (wc := [((ha 0), .inr (6, [.ref (NA 192), .ref (NA 193), .ref (NA 194), .ref (NA 195), .ref (NA 196), .ref (NA 197), .ref (NA 198), .ref (NA 199), .ref (ha 1), .ref (ha 2), .int u_2, .int u_3, .int u_4, .ref (ha 3), .ref (ha 4), .ref (ha 5), .ref (ha 6), .ref (ha 7), .ref (ha 8), .ref (ha 9), .ref (ha 10), .ref (ha 11), .ref (ha 12), .ref (ha 13), .ref (ha 14), .ref (ha 15), .ref (ha 16), .ref (ha 17), .ref (ha 18), .ref (ha 19), .ref (ha 20)])), ((ha 14), .inl (cB, 16384, .inl u_12)), ((ha 17), .inl (cI, 4096, .inl m_sizes)), ((ha 13), .inl (cI, 4, .inl u_11)), ((ha 10), .inl (cI, 4, .inl m_elements)), ((ha 18), .inl (cJ, 169, .inr (.inl m_coefficients))), ((ha 19), .inl (cJ, 169, .inr (.inl m_choices)))]) hD hS hA [0, 14, 17, 13, 10, 18, 19] rfl
            refine va_callv (va_runV (As := [.int t0]) (rest := []) ⟨hx, hb, hml, hown, hts⟩ (c_R_polynomial l dC dI cI cJ cB cZ cT cN H.size (ha 0) (NA 192) (NA 193) (NA 194) (NA 195) (NA 196) (NA 197) (NA 198) (NA 199) (ha 1) (ha 2) (ha 3) (ha 4) (ha 5) (ha 6) (ha 7) (ha 8) (ha 9) (ha 10) (ha 11) (ha 12) (ha 13) (ha 14) (ha 15) (ha 16) (ha 17) (ha 18) (ha 19) (ha 20) u_2 u_3 u_4 16384 u_12 4096 m_sizes 4 u_11 4 m_elements 169 m_coefficients 169 m_choices t0 _ hc_25) (cwV 1 hts (tb_V tw_646 tw_648 tp_43 tw_6 tw_649) rfl rfl rfl (by decide +kernel) ⟨Nat.le_of_ble_eq_true rfl, Nat.le_of_ble_eq_true rfl⟩) ⟨fun a U g mk q => by obtain ⟨q0, q1, qP, qK, qN, qD⟩ := q; exact ⟨q0, q1, qP, va_K.moved (u := U) (U := U.calling g mk a) (Vm.Alike.refl U.vm) qK, qN.same rfl, qD⟩, va_recv hK hPc (ci := 6) (q0 := 0) rfl rfl, fun U hU hW => ⟨rfl, by rw [hU], by rw [hU]; exact hPc, va_K.moved hW.alike hK, hN.warm hW, hDc.weaken (fun _ _ _ _ => trivial)⟩⟩ rfl rfl hl.1 rfl (lv_room (Nat.le_of_ble_eq_true rfl)) d_Mo_tutte_32 ⟨Nat.zero_le _, Nat.zero_le _⟩) hS (fun q _ h => hFc q h) hFc (fun u t H1 locs ht hvm hw hB hz1 hk1 hS => ?_)
            replace hw := hw.symm
            subst hw
            obtain ⟨hP1, -, hD1⟩ := hB
            rw [ht] at hP1
            obtain ⟨hP, hD⟩ := pw_back (ws' := (xw cI cJ cB cZ cN ha NA u_2 u_3 u_4 u_5 u_6 u_7 u_8 u_9 m_fields m_rowCounts m_elements m_numbers u_10 u_11 u_12 u_13 m_order m_sizes u_23 u_24 m_sorted ++ po cI NA ND u_14 u_15 u_16)) (w1 := [((ha 0), .inr (6, [.ref (NA 192), .ref (NA 193), .ref (NA 194), .ref (NA 195), .ref (NA 196), .ref (NA 197), .ref (NA 198), .ref (NA 199), .ref (ha 1), .ref (ha 2), .int u_2, .int u_3, .int u_4, .ref (ha 3), .ref (ha 4), .ref (ha 5), .ref (ha 6), .ref (ha 7), .ref (ha 8), .ref (ha 9), .ref (ha 10), .ref (ha 11), .ref (ha 12), .ref (ha 13), .ref (ha 14), .ref (ha 15), .ref (ha 16), .ref (ha 17), .ref (ha 18), .ref (ha 19), .ref (ha 20)])), ((ha 14), .inl (cB, 16384, .inl u_12)), ((ha 17), .inl (cI, 4096, .inl m_sizes)), ((ha 13), .inl (cI, 4, .inl u_11)), ((ha 10), .inl (cI, 4, .inl m_elements)), ((ha 18), .inl (cJ, 169, .inr (.inl u_23))), ((ha 19), .inl (cJ, 169, .inr (.inl u_24)))]) hP hD hk1 hP1 (fun k => match k with | 0 => rfl | 1 => rfl | 2 => rfl | 3 => rfl | 4 => rfl | 5 => rfl | 6 => rfl | 7 => rfl | 8 => rfl | 9 => rfl | 10 => rfl | 11 => rfl | 12 => rfl | 13 => rfl | 14 => rfl | 15 => rfl | 16 => rfl | 17 => rfl | 18 => rfl | 19 => rfl | 20 => rfl | q + 21 => rfl) (fun k q hq => match k, hq with | 0, hq => Or.inl ⟨0, hq⟩ | 1, hq => Or.inr ⟨hq, pw_off (k := 1) hD [0, 14, 17, 13, 10, 18, 19] rfl hq (by decide)⟩ | 2, hq => Or.inr ⟨hq, pw_off (k := 2) hD [0, 14, 17, 13, 10, 18, 19] rfl hq (by decide)⟩ | 3, hq => Or.inr ⟨hq, pw_off (k := 3) hD [0, 14, 17, 13, 10, 18, 19] rfl hq (by decide)⟩ | 4, hq => Or.inr ⟨hq, pw_off (k := 4) hD [0, 14, 17, 13, 10, 18, 19] rfl hq (by decide)⟩ | 5, hq => Or.inr ⟨hq, pw_off (k := 5) hD [0, 14, 17, 13, 10, 18, 19] rfl hq (by decide)⟩ | 6, hq => Or.inr ⟨hq, pw_off (k := 6) hD [0, 14, 17, 13, 10, 18, 19] rfl hq (by decide)⟩ | 7, hq => Or.inr ⟨hq, pw_off (k := 7) hD [0, 14, 17, 13, 10, 18, 19] rfl hq (by decide)⟩ | 8, hq => Or.inr ⟨hq, pw_off (k := 8) hD [0, 14, 17, 13, 10, 18, 19] rfl hq (by decide)⟩ | 9, hq => Or.inr ⟨hq, pw_off (k := 9) hD [0, 14, 17, 13, 10, 18, 19] rfl hq (by decide)⟩ | 10, hq => Or.inl ⟨4, hq⟩ | 11, hq => Or.inr ⟨hq, pw_off (k := 11) hD [0, 14, 17, 13, 10, 18, 19] rfl hq (by decide)⟩ | 12, hq => Or.inr ⟨hq, pw_off (k := 12) hD [0, 14, 17, 13, 10, 18, 19] rfl hq (by decide)⟩ | 13, hq => Or.inl ⟨3, hq⟩ | 14, hq => Or.inl ⟨1, hq⟩ | 15, hq => Or.inr ⟨hq, pw_off (k := 15) hD [0, 14, 17, 13, 10, 18, 19] rfl hq (by decide)⟩ | 16, hq => Or.inr ⟨hq, pw_off (k := 16) hD [0, 14, 17, 13, 10, 18, 19] rfl hq (by decide)⟩ | 17, hq => Or.inl ⟨2, hq⟩ | 18, hq => Or.inl ⟨5, hq⟩ | 19, hq => Or.inl ⟨6, hq⟩ | 20, hq => Or.inr ⟨hq, pw_off (k := 20) hD [0, 14, 17, 13, 10, 18, 19] rfl hq (by decide)⟩ | q + 21, hq => Or.inr ⟨hq, pw_off (k := q + 21) hD [0, 14, 17, 13, 10, 18, 19] rfl hq (by simp only [List.mem_cons, List.not_mem_nil, or_false, not_or]; omega)⟩)
            generalize H1 = H at hP hS ⊢
            have hP : va_P (dC, dI) cl_all (xw cI cJ cB cZ cN ha NA u_2 u_3 u_4 u_5 u_6 u_7 u_8 u_9 m_fields m_rowCounts m_elements m_numbers u_10 u_11 u_12 u_13 m_order m_sizes u_23 u_24 m_sorted ++ po cI NA ND u_14 u_15 u_16) H := hP
            have hD : va_D A (xw cI cJ cB cZ cN ha NA u_2 u_3 u_4 u_5 u_6 u_7 u_8 u_9 m_fields m_rowCounts m_elements m_numbers u_10 u_11 u_12 u_13 m_order m_sizes u_23 u_24 m_sorted ++ po cI NA ND u_14 u_15 u_16) := hD
            refine lv_aload_n hx hb d_Mo_tutte_35 rfl (lv_at hl 0 rfl) ?_
            refine va_get (D := (dC, dI)) (ci := 6) (v := .ref (ha 18)) (C := "BasisWalkModel") (T := T_Mo) (N := 31) hx hb hts iw1 hown hK hP 0 rfl rfl 28 (by decide) fl0 (fun _ h9 => h9) rfl d_Mo_tutte_36 ?_
            refine lv_bipush (v := 13) hx hb d_Mo_tutte_39 (by decide) ?_
            refine lv_iload_n hx hb d_Mo_tutte_41 rfl (lv_at hl 2 rfl) ?_
            refine lv_imul hx hb d_Mo_tutte_42 ?_
            refine lv_iload_n hx hb d_Mo_tutte_43 rfl (lv_at hl 3 rfl) ?_
            refine lv_iadd hx hb d_Mo_tutte_44 ?_
            obtain ⟨g_26, h⟩ := ck_in_s h
            refine va_lald hx hb hK hP 18 1 rfl rfl g_26 d_Mo_tutte_45 ?_
            obtain rfl := Option.some.inj h
            subst hQ
            exact W.lret (v := (u_23 ((13 * i0) + j0).toNatClampNeg)) hx hb hr (fun t ht hW => ⟨⟨(u_23 ((13 * i0) + j0).toNatClampNeg), (u_2, u_3, u_4, u_5, u_6, u_7, u_8, u_9, u_10, u_11, u_12, u_13, u_14, u_15, u_16, u_23, u_24), rfl, rfl, by rw [ht]; exact hP, va_K.moved hW.alike hK, hD⟩, hS.F ht⟩) hS.2.2 d_Mo_tutte_46
          · replace h := ck_if_f h c_22
            refine lv_lconst (v := 0) hx hb d_Mo_tutte_28 (by decide) ?_
            obtain rfl := Option.some.inj h
            subst hQ
            exact W.lret (v := 0) hx hb hr (fun t ht hW => ⟨⟨0, (u_2, u_3, u_4, u_5, u_6, u_7, u_8, u_9, u_10, u_11, u_12, u_13, u_14, u_15, u_16, m_coefficients, m_choices), rfl, rfl, by rw [ht]; exact hP, va_K.moved hW.alike hK, hD⟩, hS.F ht⟩) hS.2.2 d_Mo_tutte_29
theorem d_Mo_sign_0 : decode prog_7_method_44_code 0 = .ok (.aload_n 0, 1) := by decide +kernel
theorem d_Mo_sign_1 : decode prog_7_method_44_code 1 = .ok (.iload_n 1, 1) := by decide +kernel
theorem d_Mo_sign_2 : decode prog_7_method_44_code 2 = .ok (.invokevirtual 254, 3) := by decide +kernel
theorem d_Mo_sign_5 : decode prog_7_method_44_code 5 = .ok (.ifCond .eq 44, 3) := by decide +kernel
theorem d_Mo_sign_8 : decode prog_7_method_44_code 8 = .ok (.aload_n 0, 1) := by decide +kernel
theorem d_Mo_sign_9 : decode prog_7_method_44_code 9 = .ok (.getfield 153, 3) := by decide +kernel
theorem d_Mo_sign_12 : decode prog_7_method_44_code 12 = .ok (.iload_n 1, 1) := by decide +kernel
theorem d_Mo_sign_13 : decode prog_7_method_44_code 13 = .ok (.iaload, 1) := by decide +kernel
theorem d_Mo_sign_14 : decode prog_7_method_44_code 14 = .ok (.ifCond .ne 35, 3) := by decide +kernel
theorem d_Mo_sign_17 : decode prog_7_method_44_code 17 = .ok (.iload_n 2, 1) := by decide +kernel
theorem d_Mo_sign_18 : decode prog_7_method_44_code 18 = .ok (.ifCond .lt 31, 3) := by decide +kernel
theorem d_Mo_sign_21 : decode prog_7_method_44_code 21 = .ok (.iload_n 2, 1) := by decide +kernel
theorem d_Mo_sign_22 : decode prog_7_method_44_code 22 = .ok (.aload_n 0, 1) := by decide +kernel
theorem d_Mo_sign_23 : decode prog_7_method_44_code 23 = .ok (.iload_n 1, 1) := by decide +kernel
theorem d_Mo_sign_24 : decode prog_7_method_44_code 24 = .ok (.invokevirtual 226, 3) := by decide +kernel
theorem d_Mo_sign_27 : decode prog_7_method_44_code 27 = .ok (.if_icmp .gt 22, 3) := by decide +kernel
theorem d_Mo_sign_30 : decode prog_7_method_44_code 30 = .ok (.aload_n 0, 1) := by decide +kernel
theorem d_Mo_sign_31 : decode prog_7_method_44_code 31 = .ok (.getfield 182, 3) := by decide +kernel
theorem d_Mo_sign_34 : decode prog_7_method_44_code 34 = .ok (.iload_n 2, 1) := by decide +kernel
theorem d_Mo_sign_35 : decode prog_7_method_44_code 35 = .ok (.iaload, 1) := by decide +kernel
theorem d_Mo_sign_36 : decode prog_7_method_44_code 36 = .ok (.aload_n 0, 1) := by decide +kernel
theorem d_Mo_sign_37 : decode prog_7_method_44_code 37 = .ok (.getfield 169, 3) := by decide +kernel
theorem d_Mo_sign_40 : decode prog_7_method_44_code 40 = .ok (.iload_n 1, 1) := by decide +kernel
theorem d_Mo_sign_41 : decode prog_7_method_44_code 41 = .ok (.iaload, 1) := by decide +kernel
theorem d_Mo_sign_42 : decode prog_7_method_44_code 42 = .ok (.if_icmp .ne 7, 3) := by decide +kernel
theorem d_Mo_sign_45 : decode prog_7_method_44_code 45 = .ok (.iconst 1, 1) := by decide +kernel
theorem d_Mo_sign_46 : decode prog_7_method_44_code 46 = .ok (.goto 4, 3) := by decide +kernel
theorem d_Mo_sign_49 : decode prog_7_method_44_code 49 = .ok (.iconst 0, 1) := by decide +kernel
theorem d_Mo_sign_50 : decode prog_7_method_44_code 50 = .ok (.istore_n 3, 1) := by decide +kernel
theorem d_Mo_sign_51 : decode prog_7_method_44_code 51 = .ok (.iload_n 3, 1) := by decide +kernel
theorem d_Mo_sign_52 : decode prog_7_method_44_code 52 = .ok (.ifCond .eq 18, 3) := by decide +kernel
theorem d_Mo_sign_55 : decode prog_7_method_44_code 55 = .ok (.aload_n 0, 1) := by decide +kernel
theorem d_Mo_sign_56 : decode prog_7_method_44_code 56 = .ok (.getfield 176, 3) := by decide +kernel
theorem d_Mo_sign_59 : decode prog_7_method_44_code 59 = .ok (.sipush 4096, 3) := by decide +kernel
theorem d_Mo_sign_62 : decode prog_7_method_44_code 62 = .ok (.iload_n 1, 1) := by decide +kernel
theorem d_Mo_sign_63 : decode prog_7_method_44_code 63 = .ok (.imul, 1) := by decide +kernel
theorem d_Mo_sign_64 : decode prog_7_method_44_code 64 = .ok (.iload_n 2, 1) := by decide +kernel
theorem d_Mo_sign_65 : decode prog_7_method_44_code 65 = .ok (.iadd, 1) := by decide +kernel
theorem d_Mo_sign_66 : decode prog_7_method_44_code 66 = .ok (.baload, 1) := by decide +kernel
theorem d_Mo_sign_67 : decode prog_7_method_44_code 67 = .ok (.goto 4, 3) := by decide +kernel
theorem d_Mo_sign_70 : decode prog_7_method_44_code 70 = .ok (.iconst 2, 1) := by decide +kernel
theorem d_Mo_sign_71 : decode prog_7_method_44_code 71 = .ok (.ireturn, 1) := by decide +kernel
def f_R_sign (m_rows : Int32) (m_columns : Int32) (m_prime : Int32) (m_small : Nat → Int32) (m_pivots : Nat → Int32) (m_freeRows : Nat → Int32) (m_freeColumns : Nat → Int32) (m_smallMinor : Nat → Int32) (m_fields : Nat → Int32) (m_rowCounts : Nat → Int32) (m_elements : Nat → Int32) (m_numbers : Nat → Int32) (m_known : Nat → Int32) (m_ranks : Nat → Int32) (m_rankOf : Nat → Int32) (m_signOf : Nat → Int32) (m_order : Nat → Int32) (m_sizes : Nat → Int32) (pn : Nat → Int32) (pm : Nat → Int32) (pd : Nat → Nat → Int32) (t0 : Int32) (set0 : Int32) : Option (Int32 × Int32 × Int32 × Int32 × (Nat → Int32) × (Nat → Int32) × (Nat → Int32) × (Nat → Int32) × (Nat → Int32) × (Nat → Int32) × (Nat → Int32) × (Nat → Int32) × (Nat → Int32) × (Nat → Int32) × (Nat → Int32) × (Nat → Nat → Int32)) :=
  ck_b16 (f_R_learn m_rows m_columns m_prime m_small m_pivots m_freeRows m_freeColumns m_smallMinor m_fields m_rowCounts m_elements m_numbers m_known m_ranks m_rankOf m_signOf m_order m_sizes pn pm pd t0) <| fun r_1 u_2 u_3 u_4 u_5 u_6 u_7 u_8 u_9 u_10 u_11 u_12 u_13 u_14 u_15 u_16 => ck_jn (fun (s0_18 : Int32) => ck_if (s0_18 = 0) (some (2, u_2, u_3, u_4, u_5, u_6, u_7, u_8, u_9, u_10, u_11, u_12, u_13, u_14, u_15, u_16)) (ck_in ((4096 * t0) + set0) 16384 <| some ((u_13 ((4096 * t0) + set0).toNatClampNeg), u_2, u_3, u_4, u_5, u_6, u_7, u_8, u_9, u_10, u_11, u_12, u_13, u_14, u_15, u_16))) <| fun k_50 => ck_jn (fun (_ : Unit) => k_50 0) <| fun k_49 => ck_if (r_1 = 0) (k_49 ()) (ck_in t0 4 <| ck_if ((m_fields t0.toNatClampNeg) = 0) (ck_if (set0 < 0) (k_49 ()) (ck_b1 (f_R_whole 4 m_elements t0) <| fun r_25 => ck_if (r_25 < set0) (k_49 ()) (ck_in set0 4096 <| ck_in t0 4 <| ck_if ((m_sizes set0.toNatClampNeg) = (u_11 t0.toNatClampNeg)) (k_50 1) (k_49 ())))) (k_49 ()))
set_option maxHeartbeats 4000000 in
set_option maxRecDepth 100000 in
theorem c_R_sign (l : Launch) (dC : Nat → ClassId) (dI : Nat → Nat → Nat) (cI cJ cB cZ cT cN : ClassId) (sz : Nat) (ha NA ND : Nat → Nat) (m_rows : Int32) (m_columns : Int32) (m_prime : Int32) (m_small : Nat → Int32) (m_pivots : Nat → Int32) (m_freeRows : Nat → Int32) (m_freeColumns : Nat → Int32) (m_smallMinor : Nat → Int32) (m_fields : Nat → Int32) (m_rowCounts : Nat → Int32) (m_elements : Nat → Int32) (m_numbers : Nat → Int32) (m_known : Nat → Int32) (m_ranks : Nat → Int32) (m_rankOf : Nat → Int32) (m_signOf : Nat → Int32) (m_order : Nat → Int32) (m_sizes : Nat → Int32) (m_coefficients : Nat → Int64) (m_choices : Nat → Int64) (m_sorted : Nat → Int32) (pn : Nat → Int32) (pm : Nat → Int32) (pd : Nat → Nat → Int32) (t0 : Int32) (set0 : Int32) (r : Int32 × Int32 × Int32 × Int32 × (Nat → Int32) × (Nat → Int32) × (Nat → Int32) × (Nat → Int32) × (Nat → Int32) × (Nat → Int32) × (Nat → Int32) × (Nat → Int32) × (Nat → Int32) × (Nat → Int32) × (Nat → Int32) × (Nat → Nat → Int32)) (h : f_R_sign m_rows m_columns m_prime m_small m_pivots m_freeRows m_freeColumns m_smallMinor m_fields m_rowCounts m_elements m_numbers m_known m_ranks m_rankOf m_signOf m_order m_sizes pn pm pd t0 set0 = some r) : Met l y_Mo_sign w_Mo_sign ({ frames := 8, cells := 0, slots := 0, locals := 197 } : Room) (va_Pc [.ref (ha 0), .int t0, .int set0] (fun U => U.heap.size = sz ∧ va_P (dC, dI) cl_all (xw cI cJ cB cZ cN ha NA m_rows m_columns m_prime m_small m_pivots m_freeRows m_freeColumns m_smallMinor m_fields m_rowCounts m_elements m_numbers m_known m_ranks m_rankOf m_signOf m_order m_sizes m_coefficients m_choices m_sorted ++ po cI NA ND pn pm pd) U.heap ∧ va_K (dC, dI) cl_all [(cI, .int), (cJ, .long), (cB, .byte), (cZ, .boolean), (cT, .object "BasisWalk$Table"), (cN, .object "BasisWalkModel$Num")] U ∧ NW U ∧ va_D (fun _ => True) (xw cI cJ cB cZ cN ha NA m_rows m_columns m_prime m_small m_pivots m_freeRows m_freeColumns m_smallMinor m_fields m_rowCounts m_elements m_numbers m_known m_ranks m_rankOf m_signOf m_order m_sizes m_coefficients m_choices m_sorted ++ po cI NA ND pn pm pd))) (va_Qi (fun (v : Int32) (u : Int32 × Int32 × Int32 × (Nat → Int32) × (Nat → Int32) × (Nat → Int32) × (Nat → Int32) × (Nat → Int32) × (Nat → Int32) × (Nat → Int32) × (Nat → Int32) × (Nat → Int32) × (Nat → Int32) × (Nat → Int32) × (Nat → Nat → Int32)) => (v, u) = r) (fun (u : Int32 × Int32 × Int32 × (Nat → Int32) × (Nat → Int32) × (Nat → Int32) × (Nat → Int32) × (Nat → Int32) × (Nat → Int32) × (Nat → Int32) × (Nat → Int32) × (Nat → Int32) × (Nat → Int32) × (Nat → Int32) × (Nat → Nat → Int32)) (t : State) => va_P (dC, dI) cl_all (xw cI cJ cB cZ cN ha NA u.1 u.2.1 u.2.2.1 u.2.2.2.1 u.2.2.2.2.1 u.2.2.2.2.2.1 u.2.2.2.2.2.2.1 u.2.2.2.2.2.2.2.1 m_fields m_rowCounts m_elements m_numbers u.2.2.2.2.2.2.2.2.1 u.2.2.2.2.2.2.2.2.2.1 u.2.2.2.2.2.2.2.2.2.2.1 u.2.2.2.2.2.2.2.2.2.2.2.1 m_order m_sizes m_coefficients m_choices m_sorted ++ po cI NA ND u.2.2.2.2.2.2.2.2.2.2.2.2.1 u.2.2.2.2.2.2.2.2.2.2.2.2.2.1 u.2.2.2.2.2.2.2.2.2.2.2.2.2.2) t.heap ∧ va_K (dC, dI) cl_all [(cI, .int), (cJ, .long), (cB, .byte), (cZ, .boolean), (cT, .object "BasisWalk$Table"), (cN, .object "BasisWalkModel$Num")] t ∧ va_D (va_A (xw cI cJ cB cZ cN ha NA m_rows m_columns m_prime m_small m_pivots m_freeRows m_freeColumns m_smallMinor m_fields m_rowCounts m_elements m_numbers m_known m_ranks m_rankOf m_signOf m_order m_sizes m_coefficients m_choices m_sorted ++ po cI NA ND pn pm pd) sz) (xw cI cJ cB cZ cN ha NA u.1 u.2.1 u.2.2.1 u.2.2.2.1 u.2.2.2.2.1 u.2.2.2.2.2.1 u.2.2.2.2.2.2.1 u.2.2.2.2.2.2.2.1 m_fields m_rowCounts m_elements m_numbers u.2.2.2.2.2.2.2.2.1 u.2.2.2.2.2.2.2.2.2.1 u.2.2.2.2.2.2.2.2.2.2.1 u.2.2.2.2.2.2.2.2.2.2.2.1 m_order m_sizes m_coefficients m_choices m_sorted ++ po cI NA ND u.2.2.2.2.2.2.2.2.2.2.2.2.1 u.2.2.2.2.2.2.2.2.2.2.2.2.2.1 u.2.2.2.2.2.2.2.2.2.2.2.2.2.2)) (va_A (xw cI cJ cB cZ cN ha NA m_rows m_columns m_prime m_small m_pivots m_freeRows m_freeColumns m_smallMinor m_fields m_rowCounts m_elements m_numbers m_known m_ranks m_rankOf m_signOf m_order m_sizes m_coefficients m_choices m_sorted ++ po cI NA ND pn pm pd) sz)) 0 0 (va_A (xw cI cJ cB cZ cN ha NA m_rows m_columns m_prime m_small m_pivots m_freeRows m_freeColumns m_smallMinor m_fields m_rowCounts m_elements m_numbers m_known m_ranks m_rankOf m_signOf m_order m_sizes m_coefficients m_choices m_sorted ++ po cI NA ND pn pm pd) sz) := by
  refine Met.ofW (cc := prog_7_method_44_code) (maxL := 4) (ret := (Option.some Jvm.ClassFile.FieldType.int)) (by decide) rfl ?_
  intro p e s m args below meth c s₁ B hml hv
  obtain ⟨hAR, hsz, hP, hK, hN, hD0⟩ := hv
  have hx := B.exec
  have hb := B.bytes
  have hr := B.returns
  have hts := atoms_spec (ws := w_Mo_sign) B.pre
  have hown : s.vm.findClass "BasisWalkModel" = some m.cls := findClass_of_methodNamed B.named
  have hlocks := B.notSynchronized
  clear B
  subst hsz
  have hD := hD0.self (sz := s.heap.size)
  generalize hAe : va_A (xw cI cJ cB cZ cN ha NA m_rows m_columns m_prime m_small m_pivots m_freeRows m_freeColumns m_smallMinor m_fields m_rowCounts m_elements m_numbers m_known m_ranks m_rankOf m_signOf m_order m_sizes m_coefficients m_choices m_sorted ++ po cI NA ND pn pm pd) s.heap.size = A at hD ⊢
  have hA : ∀ q : Nat, s.heap.size ≤ q → A q := fun q h => by rw [← hAe]; exact Or.inr h
  clear hAe hD0
  have hS : va_S A s.heap s.heap [] := va_S.rf
  have hl := lv_entry ([.ref (ha 0), .int t0, .int set0]) (n := 4) (Nat.le_of_ble_eq_true rfl)
  subst hAR
  rw [lg_entry_eq]
  generalize (lg_sl ([.ref (ha 0), .int t0, .int set0]) ++ List.replicate (4 - (lg_sl ([.ref (ha 0), .int t0, .int set0])).length) Slot.unset).toArray = ls at hl ⊢
  have hl : lv_has ls 4 [(0, .ref (ha 0)), (1, .int t0), (2, .int set0)] := hl
  change W p l e ({ frames := 8, cells := 0, slots := 0, locals := 197 } : Room) s m _ below meth c s.heap [] 0 0 _ _
  generalize hARe : ([.ref (ha 0), .int t0, .int set0] : List Value).toArray = AR at hts ⊢
  clear hARe
  generalize hQ : MQ below _ AR s 0 0 A = QQ
  have fl0 := hts _ (List.mem_cons_of_mem _ tw_380)
  have iw1 := (fun w hw => List.mem_cons_of_mem _ (in_Mo w hw) : ∀ w ∈ u_ws "BasisWalkModel" T_Mo 31, w ∈ w_Mo_sign)
  have fl2 := hts _ (List.mem_cons_of_mem _ tw_373)
  have fl3 := hts _ (List.mem_cons_of_mem _ tw_382)
  have fl4 := hts _ (List.mem_cons_of_mem _ tw_378)
  obtain ⟨H, hHe⟩ : ∃ H : Heap, H = s.heap := ⟨_, rfl⟩
  rw [← hHe] at hP ⊢
  replace hS : va_S A s.heap H [] := by rw [hHe]; exact va_S.rf
  clear hHe
  unfold f_R_sign at h
  refine lv_aload_n hx hb d_Mo_sign_0 rfl (lv_at hl 0 rfl) ?_
  refine lv_iload_n hx hb d_Mo_sign_1 rfl (lv_at hl 1 rfl) ?_
  obtain ⟨r_1, u_2, u_3, u_4, u_5, u_6, u_7, u_8, u_9, u_10, u_11, u_12, u_13, u_14, u_15, u_16, hc_17, h⟩ := ck_b16_s h
  have hPc := hP
  have hDc := hD
  have hFc := pw_free hDc hS hA
  refine va_calli (va_runV (As := [.int t0]) (rest := []) ⟨hx, hb, hml, hown, hts⟩ (c_R_learn l dC dI cI cJ cB cZ cT cN H.size ha NA ND m_rows m_columns m_prime m_small m_pivots m_freeRows m_freeColumns m_smallMinor m_fields m_rowCounts m_elements m_numbers m_known m_ranks m_rankOf m_signOf m_order m_sizes m_coefficients m_choices m_sorted pn pm pd t0 _ hc_17) (cwV 1 hts (tb_V tw_473 tw_475 tp_18 tw_6 tw_476) rfl rfl rfl (by decide +kernel) ⟨Nat.le_of_ble_eq_true rfl, Nat.le_of_ble_eq_true rfl⟩) ⟨fun a U g mk q => by obtain ⟨q0, q1, qP, qK, qN, qD⟩ := q; exact ⟨q0, q1, qP, va_K.moved (u := U) (U := U.calling g mk a) (Vm.Alike.refl U.vm) qK, qN.same rfl, qD⟩, va_recv hK hPc (ci := 6) (q0 := 0) rfl rfl, fun U hU hW => ⟨rfl, by rw [hU], by rw [hU]; exact hPc, va_K.moved hW.alike hK, hN.warm hW, hDc.weaken (fun _ _ _ _ => trivial)⟩⟩ rfl rfl hl.1 rfl (lv_room (Nat.le_of_ble_eq_true rfl)) d_Mo_sign_2 ⟨Nat.zero_le _, Nat.zero_le _⟩) hS (fun q _ h => hFc q h) hFc (fun rr u t H1 locs ht hvm hw hB hz1 hk1 hS => ?_)
  obtain ⟨e1, e2⟩ := Prod.mk.inj hw
  replace e1 := e1.symm
  replace e2 := e2.symm
  subst e1
  subst e2
  obtain ⟨hP1, -, hD1⟩ := hB
  rw [ht] at hP1
  have hP : va_P (dC, dI) cl_all (xw cI cJ cB cZ cN ha NA u_2 u_3 u_4 u_5 u_6 u_7 u_8 u_9 m_fields m_rowCounts m_elements m_numbers u_10 u_11 u_12 u_13 m_order m_sizes m_coefficients m_choices m_sorted ++ po cI NA ND u_14 u_15 u_16) H1 := hP1
  have hD : va_D A (xw cI cJ cB cZ cN ha NA u_2 u_3 u_4 u_5 u_6 u_7 u_8 u_9 m_fields m_rowCounts m_elements m_numbers u_10 u_11 u_12 u_13 m_order m_sizes m_coefficients m_choices m_sorted ++ po cI NA ND u_14 u_15 u_16) := hD1.weaken (fun _ _ _ h => hFc _ h)
  generalize H1 = H at hP hS ⊢
  have hP : va_P (dC, dI) cl_all (xw cI cJ cB cZ cN ha NA u_2 u_3 u_4 u_5 u_6 u_7 u_8 u_9 m_fields m_rowCounts m_elements m_numbers u_10 u_11 u_12 u_13 m_order m_sizes m_coefficients m_choices m_sorted ++ po cI NA ND u_14 u_15 u_16) H := hP
  have hD : va_D A (xw cI cJ cB cZ cN ha NA u_2 u_3 u_4 u_5 u_6 u_7 u_8 u_9 m_fields m_rowCounts m_elements m_numbers u_10 u_11 u_12 u_13 m_order m_sizes m_coefficients m_choices m_sorted ++ po cI NA ND u_14 u_15 u_16) := hD
  refine ck_jn_W h (fun k' => ∀ (s0_18 : Int32), k' s0_18 = some r → ∀ (H : Heap) (locs : List Loc), va_P (dC, dI) cl_all (xw cI cJ cB cZ cN ha NA u_2 u_3 u_4 u_5 u_6 u_7 u_8 u_9 m_fields m_rowCounts m_elements m_numbers u_10 u_11 u_12 u_13 m_order m_sizes m_coefficients m_choices m_sorted ++ po cI NA ND u_14 u_15 u_16) H → va_D A (xw cI cJ cB cZ cN ha NA u_2 u_3 u_4 u_5 u_6 u_7 u_8 u_9 m_fields m_rowCounts m_elements m_numbers u_10 u_11 u_12 u_13 m_order m_sizes m_coefficients m_choices m_sorted ++ po cI NA ND u_14 u_15 u_16) → va_S A s.heap H locs → ∀ ls : Array Slot, lv_has ls 4 [(0, .ref (ha 0)), (1, .int t0), (2, .int set0)] → W p l e ({ frames := 8, cells := 0, slots := 0, locals := 197 } : Room) s m AR below meth c H locs 0 0 QQ (F0 m 50 ls [.int s0_18])) ?_ ?_
  · intro s0_18 h H locs hP hD hS ls hl
    refine lv_istore_n (lv' := [(3, .int s0_18), (0, .ref (ha 0)), (1, .int t0), (2, .int set0)]) hx hb d_Mo_sign_50 rfl hl (by decide) rfl (fun ls hl => ?_)
    refine lv_iload_n hx hb d_Mo_sign_51 rfl (lv_at hl 0 rfl) ?_
    refine lv_if_eq (tgt := 70) hx hb d_Mo_sign_52 (by decide) (fun c_19 => ?_) (fun c_19 => ?_)
    · replace h := ck_if_t h c_19
      refine lv_iconst (v := 2) hx hb d_Mo_sign_70 (by decide) ?_
      obtain rfl := Option.some.inj h
      subst hQ
      exact W.iret (v := 2) hx hb hr (fun t ht hW => ⟨⟨2, (u_2, u_3, u_4, u_5, u_6, u_7, u_8, u_9, u_10, u_11, u_12, u_13, u_14, u_15, u_16), rfl, rfl, by rw [ht]; exact hP, va_K.moved hW.alike hK, hD⟩, hS.F ht⟩) hS.2.2 d_Mo_sign_71
    · replace h := ck_if_f h c_19
      refine lv_aload_n hx hb d_Mo_sign_55 rfl (lv_at hl 1 rfl) ?_
      refine va_get (D := (dC, dI)) (ci := 6) (v := .ref (ha 15)) (C := "BasisWalkModel") (T := T_Mo) (N := 31) hx hb hts iw1 hown hK hP 0 rfl rfl 25 (by decide) fl0 (fun _ h9 => h9) rfl d_Mo_sign_56 ?_
      refine lv_sipush (v := 4096) hx hb d_Mo_sign_59 (by decide) ?_
      refine lv_iload_n hx hb d_Mo_sign_62 rfl (lv_at hl 2 rfl) ?_
      refine lv_imul hx hb d_Mo_sign_63 ?_
      refine lv_iload_n hx hb d_Mo_sign_64 rfl (lv_at hl 3 rfl) ?_
      refine lv_iadd hx hb d_Mo_sign_65 ?_
      obtain ⟨g_20, h⟩ := ck_in_s h
      refine va_bald hx hb hK hP 15 2 rfl rfl g_20 d_Mo_sign_66 ?_
      refine lv_goto (tgt := 71) hx hb d_Mo_sign_67 (by decide) ?_
      obtain rfl := Option.some.inj h
      subst hQ
      exact W.iret (v := (u_13 ((4096 * t0) + set0).toNatClampNeg)) hx hb hr (fun t ht hW => ⟨⟨(u_13 ((4096 * t0) + set0).toNatClampNeg), (u_2, u_3, u_4, u_5, u_6, u_7, u_8, u_9, u_10, u_11, u_12, u_13, u_14, u_15, u_16), rfl, rfl, by rw [ht]; exact hP, va_K.moved hW.alike hK, hD⟩, hS.F ht⟩) hS.2.2 d_Mo_sign_71
  · intro k_50 J_50 h
    refine ck_jn_W h (fun k' => ∀ u : Unit, k' u = some r → ∀ (H : Heap) (locs : List Loc), va_P (dC, dI) cl_all (xw cI cJ cB cZ cN ha NA u_2 u_3 u_4 u_5 u_6 u_7 u_8 u_9 m_fields m_rowCounts m_elements m_numbers u_10 u_11 u_12 u_13 m_order m_sizes m_coefficients m_choices m_sorted ++ po cI NA ND u_14 u_15 u_16) H → va_D A (xw cI cJ cB cZ cN ha NA u_2 u_3 u_4 u_5 u_6 u_7 u_8 u_9 m_fields m_rowCounts m_elements m_numbers u_10 u_11 u_12 u_13 m_order m_sizes m_coefficients m_choices m_sorted ++ po cI NA ND u_14 u_15 u_16) → va_S A s.heap H locs → ∀ ls : Array Slot, lv_has ls 4 [(0, .ref (ha 0)), (1, .int t0), (2, .int set0)] → W p l e ({ frames := 8, cells := 0, slots := 0, locals := 197 } : Room) s m AR below meth c H locs 0 0 QQ (F0 m 49 ls [])) ?_ ?_
    · intro _ h H locs hP hD hS ls hl
      refine lv_iconst (v := 0) hx hb d_Mo_sign_49 (by decide) ?_
      exact J_50 _ h _ _ hP hD hS _ (lv_sub hl [0, 1, 2] rfl)
    · intro k_49 J_49 h
      refine lv_if_eq (tgt := 49) hx hb d_Mo_sign_5 (by decide) (fun c_21 => ?_) (fun c_21 => ?_)
      · replace h := ck_if_t h c_21
        exact J_49 _ h _ _ hP hD hS _ (lv_sub hl [0, 1, 2] rfl)
      · replace h := ck_if_f h c_21
        refine lv_aload_n hx hb d_Mo_sign_8 rfl (lv_at hl 0 rfl) ?_
        refine va_get (D := (dC, dI)) (ci := 6) (v := .ref (ha 8)) (C := "BasisWalkModel") (T := T_Mo) (N := 31) hx hb hts iw1 hown hK hP 0 rfl rfl 18 (by decide) fl2 (fun _ h9 => h9) rfl d_Mo_sign_9 ?_
        refine lv_iload_n hx hb d_Mo_sign_12 rfl (lv_at hl 1 rfl) ?_
        obtain ⟨g_22, h⟩ := ck_in_s h
        refine va_iald hx hb hK hP 8 0 rfl rfl g_22 d_Mo_sign_13 ?_
        refine lv_if_ne (tgt := 49) hx hb d_Mo_sign_14 (by decide) (fun c_23 => ?_) (fun c_23 => ?_)
        · replace h := ck_if_f h c_23
          exact J_49 _ h _ _ hP hD hS _ (lv_sub hl [0, 1, 2] rfl)
        · replace h := ck_if_t h c_23
          refine lv_iload_n hx hb d_Mo_sign_17 rfl (lv_at hl 2 rfl) ?_
          refine lv_if_lt (tgt := 49) hx hb d_Mo_sign_18 (by decide) (fun c_24 => ?_) (fun c_24 => ?_)
          · replace h := ck_if_t h c_24
            exact J_49 _ h _ _ hP hD hS _ (lv_sub hl [0, 1, 2] rfl)
          · replace h := ck_if_f h c_24
            refine lv_iload_n hx hb d_Mo_sign_21 rfl (lv_at hl 2 rfl) ?_
            refine lv_aload_n hx hb d_Mo_sign_22 rfl (lv_at hl 0 rfl) ?_
            refine lv_iload_n hx hb d_Mo_sign_23 rfl (lv_at hl 1 rfl) ?_
            obtain ⟨r_25, hc_26, h⟩ := ck_b1_s h
            have hPc := hP.sub (ws' := [((ha 0), .inr (6, [.ref (NA 192), .ref (NA 193), .ref (NA 194), .ref (NA 195), .ref (NA 196), .ref (NA 197), .ref (NA 198), .ref (NA 199), .ref (ha 1), .ref (ha 2), .int u_2, .int u_3, .int u_4, .ref (ha 3), .ref (ha 4), .ref (ha 5), .ref (ha 6), .ref (ha 7), .ref (ha 8), .ref (ha 9), .ref (ha 10), .ref (ha 11), .ref (ha 12), .ref (ha 13), .ref (ha 14), .ref (ha 15), .ref (ha 16), .ref (ha 17), .ref (ha 18), .ref (ha 19), .ref (ha 20)])), ((ha 10), .inl (cI, 4, .inl m_elements))]) [0, 10] rfl
            have hDc := hD.sub (ws' := [((ha 0), .inr (6, [.ref (NA 192), .ref (NA 193), .ref (NA 194), .ref (NA 195), .ref (NA 196), .ref (NA 197), .ref (NA 198), .ref (NA 199), .ref (ha 1), .ref (ha 2), .int u_2, .int u_3, .int u_4, .ref (ha 3), .ref (ha 4), .ref (ha 5), .ref (ha 6), .ref (ha 7), .ref (ha 8), .ref (ha 9), .ref (ha 10), .ref (ha 11), .ref (ha 12), .ref (ha 13), .ref (ha 14), .ref (ha 15), .ref (ha 16), .ref (ha 17), .ref (ha 18), .ref (ha 19), .ref (ha 20)])), ((ha 10), .inl (cI, 4, .inl m_elements))]) [0, 10] (by decide) rfl
            have hFc := va_free (wc := [((ha 0), .inr (6, [.ref (NA 192), .ref (NA 193), .ref (NA 194), .ref (NA 195), .ref (NA 196), .ref (NA 197), .ref (NA 198), .ref (NA 199), .ref (ha 1), .ref (ha 2), .int u_2, .int u_3, .int u_4, .ref (ha 3), .ref (ha 4), .ref (ha 5), .ref (ha 6), .ref (ha 7), .ref (ha 8), .ref (ha 9), .ref (ha 10), .ref (ha 11), .ref (ha 12), .ref (ha 13), .ref (ha 14), .ref (ha 15), .ref (ha 16), .ref (ha 17), .ref (ha 18), .ref (ha 19), .ref (ha 20)])), ((ha 10), .inl (cI, 4, .inl m_elements))]) hD hS hA [0, 10] rfl
            refine va_calli (va_runV (As := [.int t0]) (rest := [.int set0]) ⟨hx, hb, hml, hown, hts⟩ (c_R_whole l dC dI cI cJ cB cZ cT cN H.size (ha 0) (NA 192) (NA 193) (NA 194) (NA 195) (NA 196) (NA 197) (NA 198) (NA 199) (ha 1) (ha 2) (ha 3) (ha 4) (ha 5) (ha 6) (ha 7) (ha 8) (ha 9) (ha 10) (ha 11) (ha 12) (ha 13) (ha 14) (ha 15) (ha 16) (ha 17) (ha 18) (ha 19) (ha 20) u_2 u_3 u_4 4 m_elements t0 _ hc_26) (cwV 1 hts (tb_V tw_598 tw_600 tp_34 tw_6 tw_601) rfl rfl rfl (by decide +kernel) ⟨Nat.le_of_ble_eq_true rfl, Nat.le_of_ble_eq_true rfl⟩) ⟨fun a U g mk q => by obtain ⟨q0, q1, qP, qK, qN, qD⟩ := q; exact ⟨q0, q1, qP, va_K.moved (u := U) (U := U.calling g mk a) (Vm.Alike.refl U.vm) qK, qN.same rfl, qD⟩, va_recv hK hPc (ci := 6) (q0 := 0) rfl rfl, fun U hU hW => ⟨rfl, by rw [hU], by rw [hU]; exact hPc, va_K.moved hW.alike hK, hN.warm hW, hDc.weaken (fun _ _ _ _ => trivial)⟩⟩ rfl rfl hl.1 rfl (lv_room (Nat.le_of_ble_eq_true rfl)) d_Mo_sign_24 ⟨Nat.zero_le _, Nat.zero_le _⟩) hS (fun q _ h => hFc q h) hFc (fun rr u t H1 locs ht hvm hw hB hz1 hk1 hS => ?_)
            replace hw := hw.symm
            subst hw
            obtain ⟨hP1, -, hD1⟩ := hB
            rw [ht] at hP1
            obtain ⟨hP, hD⟩ := pw_back (ws' := (xw cI cJ cB cZ cN ha NA u_2 u_3 u_4 u_5 u_6 u_7 u_8 u_9 m_fields m_rowCounts m_elements m_numbers u_10 u_11 u_12 u_13 m_order m_sizes m_coefficients m_choices m_sorted ++ po cI NA ND u_14 u_15 u_16)) (w1 := [((ha 0), .inr (6, [.ref (NA 192), .ref (NA 193), .ref (NA 194), .ref (NA 195), .ref (NA 196), .ref (NA 197), .ref (NA 198), .ref (NA 199), .ref (ha 1), .ref (ha 2), .int u_2, .int u_3, .int u_4, .ref (ha 3), .ref (ha 4), .ref (ha 5), .ref (ha 6), .ref (ha 7), .ref (ha 8), .ref (ha 9), .ref (ha 10), .ref (ha 11), .ref (ha 12), .ref (ha 13), .ref (ha 14), .ref (ha 15), .ref (ha 16), .ref (ha 17), .ref (ha 18), .ref (ha 19), .ref (ha 20)])), ((ha 10), .inl (cI, 4, .inl m_elements))]) hP hD hk1 hP1 (fun k => match k with | 0 => rfl | 1 => rfl | 2 => rfl | 3 => rfl | 4 => rfl | 5 => rfl | 6 => rfl | 7 => rfl | 8 => rfl | 9 => rfl | 10 => rfl | 11 => rfl | 12 => rfl | 13 => rfl | 14 => rfl | 15 => rfl | 16 => rfl | 17 => rfl | 18 => rfl | 19 => rfl | 20 => rfl | q + 21 => rfl) (fun k q hq => match k, hq with | 0, hq => Or.inl ⟨0, hq⟩ | 1, hq => Or.inr ⟨hq, pw_off (k := 1) hD [0, 10] rfl hq (by decide)⟩ | 2, hq => Or.inr ⟨hq, pw_off (k := 2) hD [0, 10] rfl hq (by decide)⟩ | 3, hq => Or.inr ⟨hq, pw_off (k := 3) hD [0, 10] rfl hq (by decide)⟩ | 4, hq => Or.inr ⟨hq, pw_off (k := 4) hD [0, 10] rfl hq (by decide)⟩ | 5, hq => Or.inr ⟨hq, pw_off (k := 5) hD [0, 10] rfl hq (by decide)⟩ | 6, hq => Or.inr ⟨hq, pw_off (k := 6) hD [0, 10] rfl hq (by decide)⟩ | 7, hq => Or.inr ⟨hq, pw_off (k := 7) hD [0, 10] rfl hq (by decide)⟩ | 8, hq => Or.inr ⟨hq, pw_off (k := 8) hD [0, 10] rfl hq (by decide)⟩ | 9, hq => Or.inr ⟨hq, pw_off (k := 9) hD [0, 10] rfl hq (by decide)⟩ | 10, hq => Or.inl ⟨1, hq⟩ | 11, hq => Or.inr ⟨hq, pw_off (k := 11) hD [0, 10] rfl hq (by decide)⟩ | 12, hq => Or.inr ⟨hq, pw_off (k := 12) hD [0, 10] rfl hq (by decide)⟩ | 13, hq => Or.inr ⟨hq, pw_off (k := 13) hD [0, 10] rfl hq (by decide)⟩ | 14, hq => Or.inr ⟨hq, pw_off (k := 14) hD [0, 10] rfl hq (by decide)⟩ | 15, hq => Or.inr ⟨hq, pw_off (k := 15) hD [0, 10] rfl hq (by decide)⟩ | 16, hq => Or.inr ⟨hq, pw_off (k := 16) hD [0, 10] rfl hq (by decide)⟩ | 17, hq => Or.inr ⟨hq, pw_off (k := 17) hD [0, 10] rfl hq (by decide)⟩ | 18, hq => Or.inr ⟨hq, pw_off (k := 18) hD [0, 10] rfl hq (by decide)⟩ | 19, hq => Or.inr ⟨hq, pw_off (k := 19) hD [0, 10] rfl hq (by decide)⟩ | 20, hq => Or.inr ⟨hq, pw_off (k := 20) hD [0, 10] rfl hq (by decide)⟩ | q + 21, hq => Or.inr ⟨hq, pw_off (k := q + 21) hD [0, 10] rfl hq (by simp only [List.mem_cons, List.not_mem_nil, or_false, not_or]; omega)⟩)
            generalize H1 = H at hP hS ⊢
            have hP : va_P (dC, dI) cl_all (xw cI cJ cB cZ cN ha NA u_2 u_3 u_4 u_5 u_6 u_7 u_8 u_9 m_fields m_rowCounts m_elements m_numbers u_10 u_11 u_12 u_13 m_order m_sizes m_coefficients m_choices m_sorted ++ po cI NA ND u_14 u_15 u_16) H := hP
            have hD : va_D A (xw cI cJ cB cZ cN ha NA u_2 u_3 u_4 u_5 u_6 u_7 u_8 u_9 m_fields m_rowCounts m_elements m_numbers u_10 u_11 u_12 u_13 m_order m_sizes m_coefficients m_choices m_sorted ++ po cI NA ND u_14 u_15 u_16) := hD
            refine lv_icmp_gt (tgt := 49) hx hb d_Mo_sign_27 (by decide) (fun c_27 => ?_) (fun c_27 => ?_)
            · replace h := ck_if_t h c_27
              exact J_49 _ h _ _ hP hD hS _ (lv_sub hl [0, 1, 2] rfl)
            · replace h := ck_if_f h c_27
              refine lv_aload_n hx hb d_Mo_sign_30 rfl (lv_at hl 0 rfl) ?_
              refine va_get (D := (dC, dI)) (ci := 6) (v := .ref (ha 17)) (C := "BasisWalkModel") (T := T_Mo) (N := 31) hx hb hts iw1 hown hK hP 0 rfl rfl 27 (by decide) fl3 (fun _ h9 => h9) rfl d_Mo_sign_31 ?_
              refine lv_iload_n hx hb d_Mo_sign_34 rfl (lv_at hl 2 rfl) ?_
              obtain ⟨g_28, h⟩ := ck_in_s h
              refine va_iald hx hb hK hP 17 0 rfl rfl g_28 d_Mo_sign_35 ?_
              refine lv_aload_n hx hb d_Mo_sign_36 rfl (lv_at hl 0 rfl) ?_
              refine va_get (D := (dC, dI)) (ci := 6) (v := .ref (ha 13)) (C := "BasisWalkModel") (T := T_Mo) (N := 31) hx hb hts iw1 hown hK hP 0 rfl rfl 23 (by decide) fl4 (fun _ h9 => h9) rfl d_Mo_sign_37 ?_
              refine lv_iload_n hx hb d_Mo_sign_40 rfl (lv_at hl 1 rfl) ?_
              obtain ⟨g_29, h⟩ := ck_in_s h
              refine va_iald hx hb hK hP 13 0 rfl rfl g_29 d_Mo_sign_41 ?_
              refine lv_icmp_ne (tgt := 49) hx hb d_Mo_sign_42 (by decide) (fun c_30 => ?_) (fun c_30 => ?_)
              · replace h := ck_if_f h c_30
                exact J_49 _ h _ _ hP hD hS _ (lv_sub hl [0, 1, 2] rfl)
              · replace h := ck_if_t h c_30
                refine lv_iconst (v := 1) hx hb d_Mo_sign_45 (by decide) ?_
                refine lv_goto (tgt := 50) hx hb d_Mo_sign_46 (by decide) ?_
                exact J_50 _ h _ _ hP hD hS _ (lv_sub hl [0, 1, 2] rfl)
theorem d_Mo_below_0 : decode prog_7_method_45_code 0 = .ok (.aload_n 0, 1) := by decide +kernel
theorem d_Mo_below_1 : decode prog_7_method_45_code 1 = .ok (.iload_n 1, 1) := by decide +kernel
theorem d_Mo_below_2 : decode prog_7_method_45_code 2 = .ok (.invokevirtual 254, 3) := by decide +kernel
theorem d_Mo_below_5 : decode prog_7_method_45_code 5 = .ok (.ifCond .eq 22, 3) := by decide +kernel
theorem d_Mo_below_8 : decode prog_7_method_45_code 8 = .ok (.aload_n 0, 1) := by decide +kernel
theorem d_Mo_below_9 : decode prog_7_method_45_code 9 = .ok (.getfield 153, 3) := by decide +kernel
theorem d_Mo_below_12 : decode prog_7_method_45_code 12 = .ok (.iload_n 1, 1) := by decide +kernel
theorem d_Mo_below_13 : decode prog_7_method_45_code 13 = .ok (.iaload, 1) := by decide +kernel
theorem d_Mo_below_14 : decode prog_7_method_45_code 14 = .ok (.ifCond .ne 13, 3) := by decide +kernel
theorem d_Mo_below_17 : decode prog_7_method_45_code 17 = .ok (.aload_n 0, 1) := by decide +kernel
theorem d_Mo_below_18 : decode prog_7_method_45_code 18 = .ok (.iload_n 1, 1) := by decide +kernel
theorem d_Mo_below_19 : decode prog_7_method_45_code 19 = .ok (.iconst 1, 1) := by decide +kernel
theorem d_Mo_below_20 : decode prog_7_method_45_code 20 = .ok (.iload_n 2, 1) := by decide +kernel
theorem d_Mo_below_21 : decode prog_7_method_45_code 21 = .ok (.invokevirtual 260, 3) := by decide +kernel
theorem d_Mo_below_24 : decode prog_7_method_45_code 24 = .ok (.goto 4, 3) := by decide +kernel
theorem d_Mo_below_27 : decode prog_7_method_45_code 27 = .ok (.iconst (-1), 1) := by decide +kernel
theorem d_Mo_below_28 : decode prog_7_method_45_code 28 = .ok (.istore_n 3, 1) := by decide +kernel
theorem d_Mo_below_29 : decode prog_7_method_45_code 29 = .ok (.iload_n 3, 1) := by decide +kernel
theorem d_Mo_below_30 : decode prog_7_method_45_code 30 = .ok (.ifCond .ge 7, 3) := by decide +kernel
theorem d_Mo_below_33 : decode prog_7_method_45_code 33 = .ok (.iconst (-1), 1) := by decide +kernel
theorem d_Mo_below_34 : decode prog_7_method_45_code 34 = .ok (.goto 9, 3) := by decide +kernel
theorem d_Mo_below_37 : decode prog_7_method_45_code 37 = .ok (.aload_n 0, 1) := by decide +kernel
theorem d_Mo_below_38 : decode prog_7_method_45_code 38 = .ok (.iload_n 1, 1) := by decide +kernel
theorem d_Mo_below_39 : decode prog_7_method_45_code 39 = .ok (.iload_n 3, 1) := by decide +kernel
theorem d_Mo_below_40 : decode prog_7_method_45_code 40 = .ok (.invokevirtual 266, 3) := by decide +kernel
theorem d_Mo_below_43 : decode prog_7_method_45_code 43 = .ok (.ireturn, 1) := by decide +kernel
def f_R_below (m_rows : Int32) (m_columns : Int32) (m_prime : Int32) (m_small : Nat → Int32) (m_pivots : Nat → Int32) (m_freeRows : Nat → Int32) (m_freeColumns : Nat → Int32) (m_smallMinor : Nat → Int32) (m_fields : Nat → Int32) (m_rowCounts : Nat → Int32) (m_elements : Nat → Int32) (m_numbers : Nat → Int32) (m_known : Nat → Int32) (m_ranks : Nat → Int32) (m_rankOf : Nat → Int32) (m_signOf : Nat → Int32) (m_order : Nat → Int32) (m_sizes : Nat → Int32) (m_sorted : Nat → Int32) (pn : Nat → Int32) (pm : Nat → Int32) (pd : Nat → Nat → Int32) (t0 : Int32) (i0 : Int32) : Option (Int32 × Int32 × Int32 × Int32 × (Nat → Int32) × (Nat → Int32) × (Nat → Int32) × (Nat → Int32) × (Nat → Int32) × (Nat → Int32) × (Nat → Int32) × (Nat → Int32) × (Nat → Int32) × (Nat → Int32) × (Nat → Int32) × (Nat → Nat → Int32) × (Nat → Int32)) :=
  ck_b16 (f_R_learn m_rows m_columns m_prime m_small m_pivots m_freeRows m_freeColumns m_smallMinor m_fields m_rowCounts m_elements m_numbers m_known m_ranks m_rankOf m_signOf m_order m_sizes pn pm pd t0) <| fun r_1 u_2 u_3 u_4 u_5 u_6 u_7 u_8 u_9 u_10 u_11 u_12 u_13 u_14 u_15 u_16 => ck_jn (fun (s0_18 : Int32) => ck_if (0 ≤ s0_18) (ck_b2 (f_R_belowOf 16384 u_13 16384 u_12 4 m_elements 13 m_sorted t0 s0_18) <| fun r_20 u_21 => some (r_20, u_2, u_3, u_4, u_5, u_6, u_7, u_8, u_9, u_10, u_11, u_12, u_13, u_14, u_15, u_16, u_21)) (some ((-1), u_2, u_3, u_4, u_5, u_6, u_7, u_8, u_9, u_10, u_11, u_12, u_13, u_14, u_15, u_16, m_sorted))) <| fun k_28 => ck_jn (fun (_ : Unit) => k_28 (-1)) <| fun k_27 => ck_if (r_1 = 0) (k_27 ()) (ck_in t0 4 <| ck_if ((m_fields t0.toNatClampNeg) = 0) (ck_b1 (f_R_theOne 16384 u_12 4096 m_sizes 4 u_11 4 m_elements 4096 m_order t0 1 i0) <| fun r_26 => k_28 r_26) (k_27 ()))
set_option maxHeartbeats 4000000 in
set_option maxRecDepth 100000 in
theorem c_R_below (l : Launch) (dC : Nat → ClassId) (dI : Nat → Nat → Nat) (cI cJ cB cZ cT cN : ClassId) (sz : Nat) (ha NA ND : Nat → Nat) (m_rows : Int32) (m_columns : Int32) (m_prime : Int32) (m_small : Nat → Int32) (m_pivots : Nat → Int32) (m_freeRows : Nat → Int32) (m_freeColumns : Nat → Int32) (m_smallMinor : Nat → Int32) (m_fields : Nat → Int32) (m_rowCounts : Nat → Int32) (m_elements : Nat → Int32) (m_numbers : Nat → Int32) (m_known : Nat → Int32) (m_ranks : Nat → Int32) (m_rankOf : Nat → Int32) (m_signOf : Nat → Int32) (m_order : Nat → Int32) (m_sizes : Nat → Int32) (m_coefficients : Nat → Int64) (m_choices : Nat → Int64) (m_sorted : Nat → Int32) (pn : Nat → Int32) (pm : Nat → Int32) (pd : Nat → Nat → Int32) (t0 : Int32) (i0 : Int32) (r : Int32 × Int32 × Int32 × Int32 × (Nat → Int32) × (Nat → Int32) × (Nat → Int32) × (Nat → Int32) × (Nat → Int32) × (Nat → Int32) × (Nat → Int32) × (Nat → Int32) × (Nat → Int32) × (Nat → Int32) × (Nat → Int32) × (Nat → Nat → Int32) × (Nat → Int32)) (h : f_R_below m_rows m_columns m_prime m_small m_pivots m_freeRows m_freeColumns m_smallMinor m_fields m_rowCounts m_elements m_numbers m_known m_ranks m_rankOf m_signOf m_order m_sizes m_sorted pn pm pd t0 i0 = some r) : Met l y_Mo_below w_Mo_below ({ frames := 8, cells := 0, slots := 0, locals := 197 } : Room) (va_Pc [.ref (ha 0), .int t0, .int i0] (fun U => U.heap.size = sz ∧ va_P (dC, dI) cl_all (xw cI cJ cB cZ cN ha NA m_rows m_columns m_prime m_small m_pivots m_freeRows m_freeColumns m_smallMinor m_fields m_rowCounts m_elements m_numbers m_known m_ranks m_rankOf m_signOf m_order m_sizes m_coefficients m_choices m_sorted ++ po cI NA ND pn pm pd) U.heap ∧ va_K (dC, dI) cl_all [(cI, .int), (cJ, .long), (cB, .byte), (cZ, .boolean), (cT, .object "BasisWalk$Table"), (cN, .object "BasisWalkModel$Num")] U ∧ NW U ∧ va_D (fun _ => True) (xw cI cJ cB cZ cN ha NA m_rows m_columns m_prime m_small m_pivots m_freeRows m_freeColumns m_smallMinor m_fields m_rowCounts m_elements m_numbers m_known m_ranks m_rankOf m_signOf m_order m_sizes m_coefficients m_choices m_sorted ++ po cI NA ND pn pm pd))) (va_Qi (fun (v : Int32) (u : Int32 × Int32 × Int32 × (Nat → Int32) × (Nat → Int32) × (Nat → Int32) × (Nat → Int32) × (Nat → Int32) × (Nat → Int32) × (Nat → Int32) × (Nat → Int32) × (Nat → Int32) × (Nat → Int32) × (Nat → Int32) × (Nat → Nat → Int32) × (Nat → Int32)) => (v, u) = r) (fun (u : Int32 × Int32 × Int32 × (Nat → Int32) × (Nat → Int32) × (Nat → Int32) × (Nat → Int32) × (Nat → Int32) × (Nat → Int32) × (Nat → Int32) × (Nat → Int32) × (Nat → Int32) × (Nat → Int32) × (Nat → Int32) × (Nat → Nat → Int32) × (Nat → Int32)) (t : State) => va_P (dC, dI) cl_all (xw cI cJ cB cZ cN ha NA u.1 u.2.1 u.2.2.1 u.2.2.2.1 u.2.2.2.2.1 u.2.2.2.2.2.1 u.2.2.2.2.2.2.1 u.2.2.2.2.2.2.2.1 m_fields m_rowCounts m_elements m_numbers u.2.2.2.2.2.2.2.2.1 u.2.2.2.2.2.2.2.2.2.1 u.2.2.2.2.2.2.2.2.2.2.1 u.2.2.2.2.2.2.2.2.2.2.2.1 m_order m_sizes m_coefficients m_choices u.2.2.2.2.2.2.2.2.2.2.2.2.2.2.2 ++ po cI NA ND u.2.2.2.2.2.2.2.2.2.2.2.2.1 u.2.2.2.2.2.2.2.2.2.2.2.2.2.1 u.2.2.2.2.2.2.2.2.2.2.2.2.2.2.1) t.heap ∧ va_K (dC, dI) cl_all [(cI, .int), (cJ, .long), (cB, .byte), (cZ, .boolean), (cT, .object "BasisWalk$Table"), (cN, .object "BasisWalkModel$Num")] t ∧ va_D (va_A (xw cI cJ cB cZ cN ha NA m_rows m_columns m_prime m_small m_pivots m_freeRows m_freeColumns m_smallMinor m_fields m_rowCounts m_elements m_numbers m_known m_ranks m_rankOf m_signOf m_order m_sizes m_coefficients m_choices m_sorted ++ po cI NA ND pn pm pd) sz) (xw cI cJ cB cZ cN ha NA u.1 u.2.1 u.2.2.1 u.2.2.2.1 u.2.2.2.2.1 u.2.2.2.2.2.1 u.2.2.2.2.2.2.1 u.2.2.2.2.2.2.2.1 m_fields m_rowCounts m_elements m_numbers u.2.2.2.2.2.2.2.2.1 u.2.2.2.2.2.2.2.2.2.1 u.2.2.2.2.2.2.2.2.2.2.1 u.2.2.2.2.2.2.2.2.2.2.2.1 m_order m_sizes m_coefficients m_choices u.2.2.2.2.2.2.2.2.2.2.2.2.2.2.2 ++ po cI NA ND u.2.2.2.2.2.2.2.2.2.2.2.2.1 u.2.2.2.2.2.2.2.2.2.2.2.2.2.1 u.2.2.2.2.2.2.2.2.2.2.2.2.2.2.1)) (va_A (xw cI cJ cB cZ cN ha NA m_rows m_columns m_prime m_small m_pivots m_freeRows m_freeColumns m_smallMinor m_fields m_rowCounts m_elements m_numbers m_known m_ranks m_rankOf m_signOf m_order m_sizes m_coefficients m_choices m_sorted ++ po cI NA ND pn pm pd) sz)) 0 0 (va_A (xw cI cJ cB cZ cN ha NA m_rows m_columns m_prime m_small m_pivots m_freeRows m_freeColumns m_smallMinor m_fields m_rowCounts m_elements m_numbers m_known m_ranks m_rankOf m_signOf m_order m_sizes m_coefficients m_choices m_sorted ++ po cI NA ND pn pm pd) sz) := by
  refine Met.ofW (cc := prog_7_method_45_code) (maxL := 4) (ret := (Option.some Jvm.ClassFile.FieldType.int)) (by decide) rfl ?_
  intro p e s m args below meth c s₁ B hml hv
  obtain ⟨hAR, hsz, hP, hK, hN, hD0⟩ := hv
  have hx := B.exec
  have hb := B.bytes
  have hr := B.returns
  have hts := atoms_spec (ws := w_Mo_below) B.pre
  have hown : s.vm.findClass "BasisWalkModel" = some m.cls := findClass_of_methodNamed B.named
  have hlocks := B.notSynchronized
  clear B
  subst hsz
  have hD := hD0.self (sz := s.heap.size)
  generalize hAe : va_A (xw cI cJ cB cZ cN ha NA m_rows m_columns m_prime m_small m_pivots m_freeRows m_freeColumns m_smallMinor m_fields m_rowCounts m_elements m_numbers m_known m_ranks m_rankOf m_signOf m_order m_sizes m_coefficients m_choices m_sorted ++ po cI NA ND pn pm pd) s.heap.size = A at hD ⊢
  have hA : ∀ q : Nat, s.heap.size ≤ q → A q := fun q h => by rw [← hAe]; exact Or.inr h
  clear hAe hD0
  have hS : va_S A s.heap s.heap [] := va_S.rf
  have hl := lv_entry ([.ref (ha 0), .int t0, .int i0]) (n := 4) (Nat.le_of_ble_eq_true rfl)
  subst hAR
  rw [lg_entry_eq]
  generalize (lg_sl ([.ref (ha 0), .int t0, .int i0]) ++ List.replicate (4 - (lg_sl ([.ref (ha 0), .int t0, .int i0])).length) Slot.unset).toArray = ls at hl ⊢
  have hl : lv_has ls 4 [(0, .ref (ha 0)), (1, .int t0), (2, .int i0)] := hl
  change W p l e ({ frames := 8, cells := 0, slots := 0, locals := 197 } : Room) s m _ below meth c s.heap [] 0 0 _ _
  generalize hARe : ([.ref (ha 0), .int t0, .int i0] : List Value).toArray = AR at hts ⊢
  clear hARe
  generalize hQ : MQ below _ AR s 0 0 A = QQ
  have fl0 := hts _ (List.mem_cons_of_mem _ tw_373)
  have iw1 := (fun w hw => List.mem_cons_of_mem _ (in_Mo w hw) : ∀ w ∈ u_ws "BasisWalkModel" T_Mo 31, w ∈ w_Mo_below)
  obtain ⟨H, hHe⟩ : ∃ H : Heap, H = s.heap := ⟨_, rfl⟩
  rw [← hHe] at hP ⊢
  replace hS : va_S A s.heap H [] := by rw [hHe]; exact va_S.rf
  clear hHe
  unfold f_R_below at h
  refine lv_aload_n hx hb d_Mo_below_0 rfl (lv_at hl 0 rfl) ?_
  refine lv_iload_n hx hb d_Mo_below_1 rfl (lv_at hl 1 rfl) ?_
  obtain ⟨r_1, u_2, u_3, u_4, u_5, u_6, u_7, u_8, u_9, u_10, u_11, u_12, u_13, u_14, u_15, u_16, hc_17, h⟩ := ck_b16_s h
  have hPc := hP
  have hDc := hD
  have hFc := pw_free hDc hS hA
  refine va_calli (va_runV (As := [.int t0]) (rest := []) ⟨hx, hb, hml, hown, hts⟩ (c_R_learn l dC dI cI cJ cB cZ cT cN H.size ha NA ND m_rows m_columns m_prime m_small m_pivots m_freeRows m_freeColumns m_smallMinor m_fields m_rowCounts m_elements m_numbers m_known m_ranks m_rankOf m_signOf m_order m_sizes m_coefficients m_choices m_sorted pn pm pd t0 _ hc_17) (cwV 1 hts (tb_V tw_473 tw_475 tp_18 tw_6 tw_476) rfl rfl rfl (by decide +kernel) ⟨Nat.le_of_ble_eq_true rfl, Nat.le_of_ble_eq_true rfl⟩) ⟨fun a U g mk q => by obtain ⟨q0, q1, qP, qK, qN, qD⟩ := q; exact ⟨q0, q1, qP, va_K.moved (u := U) (U := U.calling g mk a) (Vm.Alike.refl U.vm) qK, qN.same rfl, qD⟩, va_recv hK hPc (ci := 6) (q0 := 0) rfl rfl, fun U hU hW => ⟨rfl, by rw [hU], by rw [hU]; exact hPc, va_K.moved hW.alike hK, hN.warm hW, hDc.weaken (fun _ _ _ _ => trivial)⟩⟩ rfl rfl hl.1 rfl (lv_room (Nat.le_of_ble_eq_true rfl)) d_Mo_below_2 ⟨Nat.zero_le _, Nat.zero_le _⟩) hS (fun q _ h => hFc q h) hFc (fun rr u t H1 locs ht hvm hw hB hz1 hk1 hS => ?_)
  obtain ⟨e1, e2⟩ := Prod.mk.inj hw
  replace e1 := e1.symm
  replace e2 := e2.symm
  subst e1
  subst e2
  obtain ⟨hP1, -, hD1⟩ := hB
  rw [ht] at hP1
  have hP : va_P (dC, dI) cl_all (xw cI cJ cB cZ cN ha NA u_2 u_3 u_4 u_5 u_6 u_7 u_8 u_9 m_fields m_rowCounts m_elements m_numbers u_10 u_11 u_12 u_13 m_order m_sizes m_coefficients m_choices m_sorted ++ po cI NA ND u_14 u_15 u_16) H1 := hP1
  have hD : va_D A (xw cI cJ cB cZ cN ha NA u_2 u_3 u_4 u_5 u_6 u_7 u_8 u_9 m_fields m_rowCounts m_elements m_numbers u_10 u_11 u_12 u_13 m_order m_sizes m_coefficients m_choices m_sorted ++ po cI NA ND u_14 u_15 u_16) := hD1.weaken (fun _ _ _ h => hFc _ h)
  generalize H1 = H at hP hS ⊢
  have hP : va_P (dC, dI) cl_all (xw cI cJ cB cZ cN ha NA u_2 u_3 u_4 u_5 u_6 u_7 u_8 u_9 m_fields m_rowCounts m_elements m_numbers u_10 u_11 u_12 u_13 m_order m_sizes m_coefficients m_choices m_sorted ++ po cI NA ND u_14 u_15 u_16) H := hP
  have hD : va_D A (xw cI cJ cB cZ cN ha NA u_2 u_3 u_4 u_5 u_6 u_7 u_8 u_9 m_fields m_rowCounts m_elements m_numbers u_10 u_11 u_12 u_13 m_order m_sizes m_coefficients m_choices m_sorted ++ po cI NA ND u_14 u_15 u_16) := hD
  refine ck_jn_W h (fun k' => ∀ (s0_18 : Int32), k' s0_18 = some r → ∀ (H : Heap) (locs : List Loc), va_P (dC, dI) cl_all (xw cI cJ cB cZ cN ha NA u_2 u_3 u_4 u_5 u_6 u_7 u_8 u_9 m_fields m_rowCounts m_elements m_numbers u_10 u_11 u_12 u_13 m_order m_sizes m_coefficients m_choices m_sorted ++ po cI NA ND u_14 u_15 u_16) H → va_D A (xw cI cJ cB cZ cN ha NA u_2 u_3 u_4 u_5 u_6 u_7 u_8 u_9 m_fields m_rowCounts m_elements m_numbers u_10 u_11 u_12 u_13 m_order m_sizes m_coefficients m_choices m_sorted ++ po cI NA ND u_14 u_15 u_16) → va_S A s.heap H locs → ∀ ls : Array Slot, lv_has ls 4 [(0, .ref (ha 0)), (1, .int t0)] → W p l e ({ frames := 8, cells := 0, slots := 0, locals := 197 } : Room) s m AR below meth c H locs 0 0 QQ (F0 m 28 ls [.int s0_18])) ?_ ?_
  · intro s0_18 h H locs hP hD hS ls hl
    refine lv_istore_n (lv' := [(3, .int s0_18), (0, .ref (ha 0)), (1, .int t0)]) hx hb d_Mo_below_28 rfl hl (by decide) rfl (fun ls hl => ?_)
    refine lv_iload_n hx hb d_Mo_below_29 rfl (lv_at hl 0 rfl) ?_
    refine lv_if_ge (tgt := 37) hx hb d_Mo_below_30 (by decide) (fun c_19 => ?_) (fun c_19 => ?_)
    · replace h := ck_if_t h c_19
      refine lv_aload_n hx hb d_Mo_below_37 rfl (lv_at hl 1 rfl) ?_
      refine lv_iload_n hx hb d_Mo_below_38 rfl (lv_at hl 2 rfl) ?_
      refine lv_iload_n hx hb d_Mo_below_39 rfl (lv_at hl 0 rfl) ?_
      obtain ⟨r_20, u_21, hc_22, h⟩ := ck_b2_s h
      have hPc := hP.sub (ws' := [((ha 0), .inr (6, [.ref (NA 192), .ref (NA 193), .ref (NA 194), .ref (NA 195), .ref (NA 196), .ref (NA 197), .ref (NA 198), .ref (NA 199), .ref (ha 1), .ref (ha 2), .int u_2, .int u_3, .int u_4, .ref (ha 3), .ref (ha 4), .ref (ha 5), .ref (ha 6), .ref (ha 7), .ref (ha 8), .ref (ha 9), .ref (ha 10), .ref (ha 11), .ref (ha 12), .ref (ha 13), .ref (ha 14), .ref (ha 15), .ref (ha 16), .ref (ha 17), .ref (ha 18), .ref (ha 19), .ref (ha 20)])), ((ha 15), .inl (cB, 16384, .inl u_13)), ((ha 14), .inl (cB, 16384, .inl u_12)), ((ha 10), .inl (cI, 4, .inl m_elements)), ((ha 20), .inl (cI, 13, .inl m_sorted))]) [0, 15, 14, 10, 20] rfl
      have hDc := hD.sub (ws' := [((ha 0), .inr (6, [.ref (NA 192), .ref (NA 193), .ref (NA 194), .ref (NA 195), .ref (NA 196), .ref (NA 197), .ref (NA 198), .ref (NA 199), .ref (ha 1), .ref (ha 2), .int u_2, .int u_3, .int u_4, .ref (ha 3), .ref (ha 4), .ref (ha 5), .ref (ha 6), .ref (ha 7), .ref (ha 8), .ref (ha 9), .ref (ha 10), .ref (ha 11), .ref (ha 12), .ref (ha 13), .ref (ha 14), .ref (ha 15), .ref (ha 16), .ref (ha 17), .ref (ha 18), .ref (ha 19), .ref (ha 20)])), ((ha 15), .inl (cB, 16384, .inl u_13)), ((ha 14), .inl (cB, 16384, .inl u_12)), ((ha 10), .inl (cI, 4, .inl m_elements)), ((ha 20), .inl (cI, 13, .inl m_sorted))]) [0, 15, 14, 10, 20] (by decide) rfl
      have hFc := va_free (wc := [((ha 0), .inr (6, [.ref (NA 192), .ref (NA 193), .ref (NA 194), .ref (NA 195), .ref (NA 196), .ref (NA 197), .ref (NA 198), .ref (NA 199), .ref (ha 1), .ref (ha 2), .int u_2, .int u_3, .int u_4, .ref (ha 3), .ref (ha 4), .ref (ha 5), .ref (ha 6), .ref (ha 7), .ref (ha 8), .ref (ha 9), .ref (ha 10), .ref (ha 11), .ref (ha 12), .ref (ha 13), .ref (ha 14), .ref (ha 15), .ref (ha 16), .ref (ha 17), .ref (ha 18), .ref (ha 19), .ref (ha 20)])), ((ha 15), .inl (cB, 16384, .inl u_13)), ((ha 14), .inl (cB, 16384, .inl u_12)), ((ha 10), .inl (cI, 4, .inl m_elements)), ((ha 20), .inl (cI, 13, .inl m_sorted))]) hD hS hA [0, 15, 14, 10, 20] rfl
      refine va_calli (va_runV (As := [.int t0, .int s0_18]) (rest := []) ⟨hx, hb, hml, hown, hts⟩ (c_R_belowOf l dC dI cI cJ cB cZ cT cN H.size (ha 0) (NA 192) (NA 193) (NA 194) (NA 195) (NA 196) (NA 197) (NA 198) (NA 199) (ha 1) (ha 2) (ha 3) (ha 4) (ha 5) (ha 6) (ha 7) (ha 8) (ha 9) (ha 10) (ha 11) (ha 12) (ha 13) (ha 14) (ha 15) (ha 16) (ha 17) (ha 18) (ha 19) (ha 20) u_2 u_3 u_4 16384 u_13 16384 u_12 4 m_elements 13 m_sorted t0 s0_18 _ hc_22) (cwV 2 hts (tb_V tw_658 tw_660 tp_44 tw_6 tw_661) rfl rfl rfl (by decide +kernel) ⟨Nat.le_of_ble_eq_true rfl, Nat.le_of_ble_eq_true rfl⟩) ⟨fun a U g mk q => by obtain ⟨q0, q1, qP, qK, qN, qD⟩ := q; exact ⟨q0, q1, qP, va_K.moved (u := U) (U := U.calling g mk a) (Vm.Alike.refl U.vm) qK, qN.same rfl, qD⟩, va_recv hK hPc (ci := 6) (q0 := 0) rfl rfl, fun U hU hW => ⟨rfl, by rw [hU], by rw [hU]; exact hPc, va_K.moved hW.alike hK, hN.warm hW, hDc.weaken (fun _ _ _ _ => trivial)⟩⟩ rfl rfl hl.1 rfl (lv_room (Nat.le_of_ble_eq_true rfl)) d_Mo_below_40 ⟨Nat.zero_le _, Nat.zero_le _⟩) hS (fun q _ h => hFc q h) hFc (fun rr u t H1 locs ht hvm hw hB hz1 hk1 hS => ?_)
      obtain ⟨e1, e2⟩ := Prod.mk.inj hw
      replace e1 := e1.symm
      replace e2 := e2.symm
      subst e1
      subst e2
      obtain ⟨hP1, -, hD1⟩ := hB
      rw [ht] at hP1
      obtain ⟨hP, hD⟩ := pw_back (ws' := (xw cI cJ cB cZ cN ha NA u_2 u_3 u_4 u_5 u_6 u_7 u_8 u_9 m_fields m_rowCounts m_elements m_numbers u_10 u_11 u_12 u_13 m_order m_sizes m_coefficients m_choices u_21 ++ po cI NA ND u_14 u_15 u_16)) (w1 := [((ha 0), .inr (6, [.ref (NA 192), .ref (NA 193), .ref (NA 194), .ref (NA 195), .ref (NA 196), .ref (NA 197), .ref (NA 198), .ref (NA 199), .ref (ha 1), .ref (ha 2), .int u_2, .int u_3, .int u_4, .ref (ha 3), .ref (ha 4), .ref (ha 5), .ref (ha 6), .ref (ha 7), .ref (ha 8), .ref (ha 9), .ref (ha 10), .ref (ha 11), .ref (ha 12), .ref (ha 13), .ref (ha 14), .ref (ha 15), .ref (ha 16), .ref (ha 17), .ref (ha 18), .ref (ha 19), .ref (ha 20)])), ((ha 15), .inl (cB, 16384, .inl u_13)), ((ha 14), .inl (cB, 16384, .inl u_12)), ((ha 10), .inl (cI, 4, .inl m_elements)), ((ha 20), .inl (cI, 13, .inl u_21))]) hP hD hk1 hP1 (fun k => match k with | 0 => rfl | 1 => rfl | 2 => rfl | 3 => rfl | 4 => rfl | 5 => rfl | 6 => rfl | 7 => rfl | 8 => rfl | 9 => rfl | 10 => rfl | 11 => rfl | 12 => rfl | 13 => rfl | 14 => rfl | 15 => rfl | 16 => rfl | 17 => rfl | 18 => rfl | 19 => rfl | 20 => rfl | q + 21 => rfl) (fun k q hq => match k, hq with | 0, hq => Or.inl ⟨0, hq⟩ | 1, hq => Or.inr ⟨hq, pw_off (k := 1) hD [0, 15, 14, 10, 20] rfl hq (by decide)⟩ | 2, hq => Or.inr ⟨hq, pw_off (k := 2) hD [0, 15, 14, 10, 20] rfl hq (by decide)⟩ | 3, hq => Or.inr ⟨hq, pw_off (k := 3) hD [0, 15, 14, 10, 20] rfl hq (by decide)⟩ | 4, hq => Or.inr ⟨hq, pw_off (k := 4) hD [0, 15, 14, 10, 20] rfl hq (by decide)⟩ | 5, hq => Or.inr ⟨hq, pw_off (k := 5) hD [0, 15, 14, 10, 20] rfl hq (by decide)⟩ | 6, hq => Or.inr ⟨hq, pw_off (k := 6) hD [0, 15, 14, 10, 20] rfl hq (by decide)⟩ | 7, hq => Or.inr ⟨hq, pw_off (k := 7) hD [0, 15, 14, 10, 20] rfl hq (by decide)⟩ | 8, hq => Or.inr ⟨hq, pw_off (k := 8) hD [0, 15, 14, 10, 20] rfl hq (by decide)⟩ | 9, hq => Or.inr ⟨hq, pw_off (k := 9) hD [0, 15, 14, 10, 20] rfl hq (by decide)⟩ | 10, hq => Or.inl ⟨3, hq⟩ | 11, hq => Or.inr ⟨hq, pw_off (k := 11) hD [0, 15, 14, 10, 20] rfl hq (by decide)⟩ | 12, hq => Or.inr ⟨hq, pw_off (k := 12) hD [0, 15, 14, 10, 20] rfl hq (by decide)⟩ | 13, hq => Or.inr ⟨hq, pw_off (k := 13) hD [0, 15, 14, 10, 20] rfl hq (by decide)⟩ | 14, hq => Or.inl ⟨2, hq⟩ | 15, hq => Or.inl ⟨1, hq⟩ | 16, hq => Or.inr ⟨hq, pw_off (k := 16) hD [0, 15, 14, 10, 20] rfl hq (by decide)⟩ | 17, hq => Or.inr ⟨hq, pw_off (k := 17) hD [0, 15, 14, 10, 20] rfl hq (by decide)⟩ | 18, hq => Or.inr ⟨hq, pw_off (k := 18) hD [0, 15, 14, 10, 20] rfl hq (by decide)⟩ | 19, hq => Or.inr ⟨hq, pw_off (k := 19) hD [0, 15, 14, 10, 20] rfl hq (by decide)⟩ | 20, hq => Or.inl ⟨4, hq⟩ | q + 21, hq => Or.inr ⟨hq, pw_off (k := q + 21) hD [0, 15, 14, 10, 20] rfl hq (by simp only [List.mem_cons, List.not_mem_nil, or_false, not_or]; omega)⟩)
      generalize H1 = H at hP hS ⊢
      have hP : va_P (dC, dI) cl_all (xw cI cJ cB cZ cN ha NA u_2 u_3 u_4 u_5 u_6 u_7 u_8 u_9 m_fields m_rowCounts m_elements m_numbers u_10 u_11 u_12 u_13 m_order m_sizes m_coefficients m_choices u_21 ++ po cI NA ND u_14 u_15 u_16) H := hP
      have hD : va_D A (xw cI cJ cB cZ cN ha NA u_2 u_3 u_4 u_5 u_6 u_7 u_8 u_9 m_fields m_rowCounts m_elements m_numbers u_10 u_11 u_12 u_13 m_order m_sizes m_coefficients m_choices u_21 ++ po cI NA ND u_14 u_15 u_16) := hD
      obtain rfl := Option.some.inj h
      subst hQ
      exact W.iret (v := r_20) hx hb hr (fun t ht hW => ⟨⟨r_20, (u_2, u_3, u_4, u_5, u_6, u_7, u_8, u_9, u_10, u_11, u_12, u_13, u_14, u_15, u_16, u_21), rfl, rfl, by rw [ht]; exact hP, va_K.moved hW.alike hK, hD⟩, hS.F ht⟩) hS.2.2 d_Mo_below_43
    · replace h := ck_if_f h c_19
      refine lv_iconst (v := (-1)) hx hb d_Mo_below_33 (by decide) ?_
      refine lv_goto (tgt := 43) hx hb d_Mo_below_34 (by decide) ?_
      obtain rfl := Option.some.inj h
      subst hQ
      exact W.iret (v := (-1)) hx hb hr (fun t ht hW => ⟨⟨(-1), (u_2, u_3, u_4, u_5, u_6, u_7, u_8, u_9, u_10, u_11, u_12, u_13, u_14, u_15, u_16, m_sorted), rfl, rfl, by rw [ht]; exact hP, va_K.moved hW.alike hK, hD⟩, hS.F ht⟩) hS.2.2 d_Mo_below_43
  · intro k_28 J_28 h
    refine ck_jn_W h (fun k' => ∀ u : Unit, k' u = some r → ∀ (H : Heap) (locs : List Loc), va_P (dC, dI) cl_all (xw cI cJ cB cZ cN ha NA u_2 u_3 u_4 u_5 u_6 u_7 u_8 u_9 m_fields m_rowCounts m_elements m_numbers u_10 u_11 u_12 u_13 m_order m_sizes m_coefficients m_choices m_sorted ++ po cI NA ND u_14 u_15 u_16) H → va_D A (xw cI cJ cB cZ cN ha NA u_2 u_3 u_4 u_5 u_6 u_7 u_8 u_9 m_fields m_rowCounts m_elements m_numbers u_10 u_11 u_12 u_13 m_order m_sizes m_coefficients m_choices m_sorted ++ po cI NA ND u_14 u_15 u_16) → va_S A s.heap H locs → ∀ ls : Array Slot, lv_has ls 4 [(0, .ref (ha 0)), (1, .int t0)] → W p l e ({ frames := 8, cells := 0, slots := 0, locals := 197 } : Room) s m AR below meth c H locs 0 0 QQ (F0 m 27 ls [])) ?_ ?_
    · intro _ h H locs hP hD hS ls hl
      refine lv_iconst (v := (-1)) hx hb d_Mo_below_27 (by decide) ?_
      exact J_28 _ h _ _ hP hD hS _ (lv_sub hl [0, 1] rfl)
    · intro k_27 J_27 h
      refine lv_if_eq (tgt := 27) hx hb d_Mo_below_5 (by decide) (fun c_23 => ?_) (fun c_23 => ?_)
      · replace h := ck_if_t h c_23
        exact J_27 _ h _ _ hP hD hS _ (lv_sub hl [0, 1] rfl)
      · replace h := ck_if_f h c_23
        refine lv_aload_n hx hb d_Mo_below_8 rfl (lv_at hl 0 rfl) ?_
        refine va_get (D := (dC, dI)) (ci := 6) (v := .ref (ha 8)) (C := "BasisWalkModel") (T := T_Mo) (N := 31) hx hb hts iw1 hown hK hP 0 rfl rfl 18 (by decide) fl0 (fun _ h9 => h9) rfl d_Mo_below_9 ?_
        refine lv_iload_n hx hb d_Mo_below_12 rfl (lv_at hl 1 rfl) ?_
        obtain ⟨g_24, h⟩ := ck_in_s h
        refine va_iald hx hb hK hP 8 0 rfl rfl g_24 d_Mo_below_13 ?_
        refine lv_if_ne (tgt := 27) hx hb d_Mo_below_14 (by decide) (fun c_25 => ?_) (fun c_25 => ?_)
        · replace h := ck_if_f h c_25
          exact J_27 _ h _ _ hP hD hS _ (lv_sub hl [0, 1] rfl)
        · replace h := ck_if_t h c_25
          refine lv_aload_n hx hb d_Mo_below_17 rfl (lv_at hl 0 rfl) ?_
          refine lv_iload_n hx hb d_Mo_below_18 rfl (lv_at hl 1 rfl) ?_
          refine lv_iconst (v := 1) hx hb d_Mo_below_19 (by decide) ?_
          refine lv_iload_n hx hb d_Mo_below_20 rfl (lv_at hl 2 rfl) ?_
          obtain ⟨r_26, hc_27, h⟩ := ck_b1_s h
          have hPc := hP.sub (ws' := [((ha 0), .inr (6, [.ref (NA 192), .ref (NA 193), .ref (NA 194), .ref (NA 195), .ref (NA 196), .ref (NA 197), .ref (NA 198), .ref (NA 199), .ref (ha 1), .ref (ha 2), .int u_2, .int u_3, .int u_4, .ref (ha 3), .ref (ha 4), .ref (ha 5), .ref (ha 6), .ref (ha 7), .ref (ha 8), .ref (ha 9), .ref (ha 10), .ref (ha 11), .ref (ha 12), .ref (ha 13), .ref (ha 14), .ref (ha 15), .ref (ha 16), .ref (ha 17), .ref (ha 18), .ref (ha 19), .ref (ha 20)])), ((ha 14), .inl (cB, 16384, .inl u_12)), ((ha 17), .inl (cI, 4096, .inl m_sizes)), ((ha 13), .inl (cI, 4, .inl u_11)), ((ha 10), .inl (cI, 4, .inl m_elements)), ((ha 16), .inl (cI, 4096, .inl m_order))]) [0, 14, 17, 13, 10, 16] rfl
          have hDc := hD.sub (ws' := [((ha 0), .inr (6, [.ref (NA 192), .ref (NA 193), .ref (NA 194), .ref (NA 195), .ref (NA 196), .ref (NA 197), .ref (NA 198), .ref (NA 199), .ref (ha 1), .ref (ha 2), .int u_2, .int u_3, .int u_4, .ref (ha 3), .ref (ha 4), .ref (ha 5), .ref (ha 6), .ref (ha 7), .ref (ha 8), .ref (ha 9), .ref (ha 10), .ref (ha 11), .ref (ha 12), .ref (ha 13), .ref (ha 14), .ref (ha 15), .ref (ha 16), .ref (ha 17), .ref (ha 18), .ref (ha 19), .ref (ha 20)])), ((ha 14), .inl (cB, 16384, .inl u_12)), ((ha 17), .inl (cI, 4096, .inl m_sizes)), ((ha 13), .inl (cI, 4, .inl u_11)), ((ha 10), .inl (cI, 4, .inl m_elements)), ((ha 16), .inl (cI, 4096, .inl m_order))]) [0, 14, 17, 13, 10, 16] (by decide) rfl
          have hFc := va_free (wc := [((ha 0), .inr (6, [.ref (NA 192), .ref (NA 193), .ref (NA 194), .ref (NA 195), .ref (NA 196), .ref (NA 197), .ref (NA 198), .ref (NA 199), .ref (ha 1), .ref (ha 2), .int u_2, .int u_3, .int u_4, .ref (ha 3), .ref (ha 4), .ref (ha 5), .ref (ha 6), .ref (ha 7), .ref (ha 8), .ref (ha 9), .ref (ha 10), .ref (ha 11), .ref (ha 12), .ref (ha 13), .ref (ha 14), .ref (ha 15), .ref (ha 16), .ref (ha 17), .ref (ha 18), .ref (ha 19), .ref (ha 20)])), ((ha 14), .inl (cB, 16384, .inl u_12)), ((ha 17), .inl (cI, 4096, .inl m_sizes)), ((ha 13), .inl (cI, 4, .inl u_11)), ((ha 10), .inl (cI, 4, .inl m_elements)), ((ha 16), .inl (cI, 4096, .inl m_order))]) hD hS hA [0, 14, 17, 13, 10, 16] rfl
          refine va_calli (va_runV (As := [.int t0, .int 1, .int i0]) (rest := []) ⟨hx, hb, hml, hown, hts⟩ (c_R_theOne l dC dI cI cJ cB cZ cT cN H.size (ha 0) (NA 192) (NA 193) (NA 194) (NA 195) (NA 196) (NA 197) (NA 198) (NA 199) (ha 1) (ha 2) (ha 3) (ha 4) (ha 5) (ha 6) (ha 7) (ha 8) (ha 9) (ha 10) (ha 11) (ha 12) (ha 13) (ha 14) (ha 15) (ha 16) (ha 17) (ha 18) (ha 19) (ha 20) u_2 u_3 u_4 16384 u_12 4096 m_sizes 4 u_11 4 m_elements 4096 m_order t0 1 i0 _ hc_27) (cwV 3 hts (tb_V tw_638 tw_640 tp_42 tw_6 tw_641) rfl rfl rfl (by decide +kernel) ⟨Nat.le_of_ble_eq_true rfl, Nat.le_of_ble_eq_true rfl⟩) ⟨fun a U g mk q => by obtain ⟨q0, q1, qP, qK, qN, qD⟩ := q; exact ⟨q0, q1, qP, va_K.moved (u := U) (U := U.calling g mk a) (Vm.Alike.refl U.vm) qK, qN.same rfl, qD⟩, va_recv hK hPc (ci := 6) (q0 := 0) rfl rfl, fun U hU hW => ⟨rfl, by rw [hU], by rw [hU]; exact hPc, va_K.moved hW.alike hK, hN.warm hW, hDc.weaken (fun _ _ _ _ => trivial)⟩⟩ rfl rfl hl.1 rfl (lv_room (Nat.le_of_ble_eq_true rfl)) d_Mo_below_21 ⟨Nat.zero_le _, Nat.zero_le _⟩) hS (fun q _ h => hFc q h) hFc (fun rr u t H1 locs ht hvm hw hB hz1 hk1 hS => ?_)
          replace hw := hw.symm
          subst hw
          obtain ⟨hP1, -, hD1⟩ := hB
          rw [ht] at hP1
          obtain ⟨hP, hD⟩ := pw_back (ws' := (xw cI cJ cB cZ cN ha NA u_2 u_3 u_4 u_5 u_6 u_7 u_8 u_9 m_fields m_rowCounts m_elements m_numbers u_10 u_11 u_12 u_13 m_order m_sizes m_coefficients m_choices m_sorted ++ po cI NA ND u_14 u_15 u_16)) (w1 := [((ha 0), .inr (6, [.ref (NA 192), .ref (NA 193), .ref (NA 194), .ref (NA 195), .ref (NA 196), .ref (NA 197), .ref (NA 198), .ref (NA 199), .ref (ha 1), .ref (ha 2), .int u_2, .int u_3, .int u_4, .ref (ha 3), .ref (ha 4), .ref (ha 5), .ref (ha 6), .ref (ha 7), .ref (ha 8), .ref (ha 9), .ref (ha 10), .ref (ha 11), .ref (ha 12), .ref (ha 13), .ref (ha 14), .ref (ha 15), .ref (ha 16), .ref (ha 17), .ref (ha 18), .ref (ha 19), .ref (ha 20)])), ((ha 14), .inl (cB, 16384, .inl u_12)), ((ha 17), .inl (cI, 4096, .inl m_sizes)), ((ha 13), .inl (cI, 4, .inl u_11)), ((ha 10), .inl (cI, 4, .inl m_elements)), ((ha 16), .inl (cI, 4096, .inl m_order))]) hP hD hk1 hP1 (fun k => match k with | 0 => rfl | 1 => rfl | 2 => rfl | 3 => rfl | 4 => rfl | 5 => rfl | 6 => rfl | 7 => rfl | 8 => rfl | 9 => rfl | 10 => rfl | 11 => rfl | 12 => rfl | 13 => rfl | 14 => rfl | 15 => rfl | 16 => rfl | 17 => rfl | 18 => rfl | 19 => rfl | 20 => rfl | q + 21 => rfl) (fun k q hq => match k, hq with | 0, hq => Or.inl ⟨0, hq⟩ | 1, hq => Or.inr ⟨hq, pw_off (k := 1) hD [0, 14, 17, 13, 10, 16] rfl hq (by decide)⟩ | 2, hq => Or.inr ⟨hq, pw_off (k := 2) hD [0, 14, 17, 13, 10, 16] rfl hq (by decide)⟩ | 3, hq => Or.inr ⟨hq, pw_off (k := 3) hD [0, 14, 17, 13, 10, 16] rfl hq (by decide)⟩ | 4, hq => Or.inr ⟨hq, pw_off (k := 4) hD [0, 14, 17, 13, 10, 16] rfl hq (by decide)⟩ | 5, hq => Or.inr ⟨hq, pw_off (k := 5) hD [0, 14, 17, 13, 10, 16] rfl hq (by decide)⟩ | 6, hq => Or.inr ⟨hq, pw_off (k := 6) hD [0, 14, 17, 13, 10, 16] rfl hq (by decide)⟩ | 7, hq => Or.inr ⟨hq, pw_off (k := 7) hD [0, 14, 17, 13, 10, 16] rfl hq (by decide)⟩ | 8, hq => Or.inr ⟨hq, pw_off (k := 8) hD [0, 14, 17, 13, 10, 16] rfl hq (by decide)⟩ | 9, hq => Or.inr ⟨hq, pw_off (k := 9) hD [0, 14, 17, 13, 10, 16] rfl hq (by decide)⟩ | 10, hq => Or.inl ⟨4, hq⟩ | 11, hq => Or.inr ⟨hq, pw_off (k := 11) hD [0, 14, 17, 13, 10, 16] rfl hq (by decide)⟩ | 12, hq => Or.inr ⟨hq, pw_off (k := 12) hD [0, 14, 17, 13, 10, 16] rfl hq (by decide)⟩ | 13, hq => Or.inl ⟨3, hq⟩ | 14, hq => Or.inl ⟨1, hq⟩ | 15, hq => Or.inr ⟨hq, pw_off (k := 15) hD [0, 14, 17, 13, 10, 16] rfl hq (by decide)⟩ | 16, hq => Or.inl ⟨5, hq⟩ | 17, hq => Or.inl ⟨2, hq⟩ | 18, hq => Or.inr ⟨hq, pw_off (k := 18) hD [0, 14, 17, 13, 10, 16] rfl hq (by decide)⟩ | 19, hq => Or.inr ⟨hq, pw_off (k := 19) hD [0, 14, 17, 13, 10, 16] rfl hq (by decide)⟩ | 20, hq => Or.inr ⟨hq, pw_off (k := 20) hD [0, 14, 17, 13, 10, 16] rfl hq (by decide)⟩ | q + 21, hq => Or.inr ⟨hq, pw_off (k := q + 21) hD [0, 14, 17, 13, 10, 16] rfl hq (by simp only [List.mem_cons, List.not_mem_nil, or_false, not_or]; omega)⟩)
          generalize H1 = H at hP hS ⊢
          have hP : va_P (dC, dI) cl_all (xw cI cJ cB cZ cN ha NA u_2 u_3 u_4 u_5 u_6 u_7 u_8 u_9 m_fields m_rowCounts m_elements m_numbers u_10 u_11 u_12 u_13 m_order m_sizes m_coefficients m_choices m_sorted ++ po cI NA ND u_14 u_15 u_16) H := hP
          have hD : va_D A (xw cI cJ cB cZ cN ha NA u_2 u_3 u_4 u_5 u_6 u_7 u_8 u_9 m_fields m_rowCounts m_elements m_numbers u_10 u_11 u_12 u_13 m_order m_sizes m_coefficients m_choices m_sorted ++ po cI NA ND u_14 u_15 u_16) := hD
          refine lv_goto (tgt := 28) hx hb d_Mo_below_24 (by decide) ?_
          exact J_28 _ h _ _ hP hD hS _ (lv_sub hl [0, 1] rfl)
