theorem d_St_learnSigns_0 : decode prog_4_method_9_code 0 = .ok (.iconst 0, 1) := by decide +kernel
theorem d_St_learnSigns_1 : decode prog_4_method_9_code 1 = .ok (.istore_n 3, 1) := by decide +kernel
theorem d_St_learnSigns_2 : decode prog_4_method_9_code 2 = .ok (.aload_n 1, 1) := by decide +kernel
theorem d_St_learnSigns_3 : decode prog_4_method_9_code 3 = .ok (.getfield 81, 3) := by decide +kernel
theorem d_St_learnSigns_6 : decode prog_4_method_9_code 6 = .ok (.aload_n 0, 1) := by decide +kernel
theorem d_St_learnSigns_7 : decode prog_4_method_9_code 7 = .ok (.getfield 38, 3) := by decide +kernel
theorem d_St_learnSigns_10 : decode prog_4_method_9_code 10 = .ok (.iaload, 1) := by decide +kernel
theorem d_St_learnSigns_11 : decode prog_4_method_9_code 11 = .ok (.istore 4, 2) := by decide +kernel
theorem d_St_learnSigns_13 : decode prog_4_method_9_code 13 = .ok (.iload 4, 2) := by decide +kernel
theorem d_St_learnSigns_15 : decode prog_4_method_9_code 15 = .ok (.aload_n 1, 1) := by decide +kernel
theorem d_St_learnSigns_16 : decode prog_4_method_9_code 16 = .ok (.getfield 81, 3) := by decide +kernel
theorem d_St_learnSigns_19 : decode prog_4_method_9_code 19 = .ok (.aload_n 0, 1) := by decide +kernel
theorem d_St_learnSigns_20 : decode prog_4_method_9_code 20 = .ok (.getfield 38, 3) := by decide +kernel
theorem d_St_learnSigns_23 : decode prog_4_method_9_code 23 = .ok (.iconst 1, 1) := by decide +kernel
theorem d_St_learnSigns_24 : decode prog_4_method_9_code 24 = .ok (.iadd, 1) := by decide +kernel
theorem d_St_learnSigns_25 : decode prog_4_method_9_code 25 = .ok (.iaload, 1) := by decide +kernel
theorem d_St_learnSigns_26 : decode prog_4_method_9_code 26 = .ok (.if_icmp .ge 48, 3) := by decide +kernel
theorem d_St_learnSigns_29 : decode prog_4_method_9_code 29 = .ok (.aload_n 1, 1) := by decide +kernel
theorem d_St_learnSigns_30 : decode prog_4_method_9_code 30 = .ok (.getfield 84, 3) := by decide +kernel
theorem d_St_learnSigns_33 : decode prog_4_method_9_code 33 = .ok (.iload 4, 2) := by decide +kernel
theorem d_St_learnSigns_35 : decode prog_4_method_9_code 35 = .ok (.iaload, 1) := by decide +kernel
theorem d_St_learnSigns_36 : decode prog_4_method_9_code 36 = .ok (.istore 5, 2) := by decide +kernel
theorem d_St_learnSigns_38 : decode prog_4_method_9_code 38 = .ok (.aload_n 2, 1) := by decide +kernel
theorem d_St_learnSigns_39 : decode prog_4_method_9_code 39 = .ok (.iload 5, 2) := by decide +kernel
theorem d_St_learnSigns_41 : decode prog_4_method_9_code 41 = .ok (.invokevirtual 87, 3) := by decide +kernel
theorem d_St_learnSigns_44 : decode prog_4_method_9_code 44 = .ok (.istore 6, 2) := by decide +kernel
theorem d_St_learnSigns_46 : decode prog_4_method_9_code 46 = .ok (.iload_n 3, 1) := by decide +kernel
theorem d_St_learnSigns_47 : decode prog_4_method_9_code 47 = .ok (.ifCond .ne 8, 3) := by decide +kernel
theorem d_St_learnSigns_50 : decode prog_4_method_9_code 50 = .ok (.iload 6, 2) := by decide +kernel
theorem d_St_learnSigns_52 : decode prog_4_method_9_code 52 = .ok (.goto 4, 3) := by decide +kernel
theorem d_St_learnSigns_55 : decode prog_4_method_9_code 55 = .ok (.iload_n 3, 1) := by decide +kernel
theorem d_St_learnSigns_56 : decode prog_4_method_9_code 56 = .ok (.istore_n 3, 1) := by decide +kernel
theorem d_St_learnSigns_57 : decode prog_4_method_9_code 57 = .ok (.aload_n 0, 1) := by decide +kernel
theorem d_St_learnSigns_58 : decode prog_4_method_9_code 58 = .ok (.getfield 15, 3) := by decide +kernel
theorem d_St_learnSigns_61 : decode prog_4_method_9_code 61 = .ok (.iload 5, 2) := by decide +kernel
theorem d_St_learnSigns_63 : decode prog_4_method_9_code 63 = .ok (.iload 6, 2) := by decide +kernel
theorem d_St_learnSigns_65 : decode prog_4_method_9_code 65 = .ok (.iload_n 3, 1) := by decide +kernel
theorem d_St_learnSigns_66 : decode prog_4_method_9_code 66 = .ok (.imul, 1) := by decide +kernel
theorem d_St_learnSigns_67 : decode prog_4_method_9_code 67 = .ok (.iastore, 1) := by decide +kernel
theorem d_St_learnSigns_68 : decode prog_4_method_9_code 68 = .ok (.iinc 4 1, 3) := by decide +kernel
theorem d_St_learnSigns_71 : decode prog_4_method_9_code 71 = .ok (.goto (-58), 3) := by decide +kernel
theorem d_St_learnSigns_74 : decode prog_4_method_9_code 74 = .ok (.return_, 1) := by decide +kernel
def f_S_learnSigns (s_fullRank : Int32) (s_signs_n : Nat) (s_signs : Nat → Int32) (o_sets_n : Nat) (o_sets : Nat → Int32) (o_starts_n : Nat) (o_starts : Nat → Int32) (m_low_n : Nat) (m_low : Nat → Int64) (m_middle_n : Nat) (m_middle : Nat → Int64) (m_high_n : Nat) (m_high : Nat → Int64) : Option ((Nat → Int32)) :=
  ck_in s_fullRank o_starts_n <| ck_nm (o_starts s_fullRank.toNatClampNeg) <| fun x_2 => lo3 (fun k_13 (v4_3 : Int32) (v3_4 : Int32) (w_5 : Nat → Int32) => ck_in (s_fullRank + 1) o_starts_n <| ck_if ((o_starts (s_fullRank + 1).toNatClampNeg) ≤ v4_3) (some w_5) (ck_in v4_3 o_sets_n <| ck_nm (o_sets v4_3.toNatClampNeg) <| fun x_9 => ck_b1 (f_M_signOf m_low_n m_low m_middle_n m_middle m_high_n m_high x_9) <| fun r_10 => ck_jn (fun (s0_12 : Int32) => ck_in x_9 s_signs_n <| ck_nm (v4_3 + 1) <| fun x_14 => k_13 x_14 s0_12 (upd w_5 x_9.toNatClampNeg (r_10 * s0_12))) <| fun k_56 => ck_if (v3_4 = 0) (k_56 r_10) (k_56 v3_4))) ck_F x_2 0 s_signs
set_option maxHeartbeats 4000000 in
set_option maxRecDepth 100000 in
theorem c_S_learnSigns (l : Launch) (dC : Nat → ClassId) (dI : Nat → Nat → Nat) (cI cJ cB cZ cT cN : ClassId) (sz : Nat) (h_s : Nat) (h_o : Nat) (h_m : Nat) (h_s_ranks : Nat) (h_s_signs : Nat) (h_s_members : Nat) (h_s_starts : Nat) (h_s_defects : Nat) (h_o_sets : Nat) (h_o_starts : Nat) (h_o_nexts : Nat) (h_m_low : Nat) (h_m_middle : Nat) (h_m_high : Nat) (s_columnCount : Int32) (s_fullRank : Int32) (s_signs_n : Nat) (s_signs : Nat → Int32) (o_columnCount : Int32) (o_sets_n : Nat) (o_sets : Nat → Int32) (o_starts_n : Nat) (o_starts : Nat → Int32) (m_low_n : Nat) (m_low : Nat → Int64) (m_middle_n : Nat) (m_middle : Nat → Int64) (m_high_n : Nat) (m_high : Nat → Int64) (r : (Nat → Int32)) (h : f_S_learnSigns s_fullRank s_signs_n s_signs o_sets_n o_sets o_starts_n o_starts m_low_n m_low m_middle_n m_middle m_high_n m_high = some r) : Met l y_St_learnSigns w_St_learnSigns ({ frames := 1, cells := 0, slots := 0, locals := 21 } : Room) (va_Pc [.ref h_s, .ref h_o, .ref h_m] (fun U => U.heap.size = sz ∧ va_P (dC, dI) cl_all [(h_s, .inr (2, [.int s_columnCount, .int s_fullRank, .ref h_s_ranks, .ref h_s_signs, .ref h_s_members, .ref h_s_starts, .ref h_s_defects])), (h_s_signs, .inl (cI, s_signs_n, .inl s_signs)), (h_o, .inr (1, [.int o_columnCount, .ref h_o_sets, .ref h_o_starts, .ref h_o_nexts])), (h_o_sets, .inl (cI, o_sets_n, .inl o_sets)), (h_o_starts, .inl (cI, o_starts_n, .inl o_starts)), (h_m, .inr (0, [.ref h_m_low, .ref h_m_middle, .ref h_m_high])), (h_m_low, .inl (cJ, m_low_n, .inr (.inl m_low))), (h_m_middle, .inl (cJ, m_middle_n, .inr (.inl m_middle))), (h_m_high, .inl (cJ, m_high_n, .inr (.inl m_high)))] U.heap ∧ va_K (dC, dI) cl_all [(cI, .int), (cJ, .long), (cB, .byte), (cZ, .boolean), (cT, .object "BasisWalk$Table"), (cN, .object "BasisWalkModel$Num")] U ∧ NW U ∧ va_D (fun _ => True) [(h_s, .inr (2, [.int s_columnCount, .int s_fullRank, .ref h_s_ranks, .ref h_s_signs, .ref h_s_members, .ref h_s_starts, .ref h_s_defects])), (h_s_signs, .inl (cI, s_signs_n, .inl s_signs)), (h_o, .inr (1, [.int o_columnCount, .ref h_o_sets, .ref h_o_starts, .ref h_o_nexts])), (h_o_sets, .inl (cI, o_sets_n, .inl o_sets)), (h_o_starts, .inl (cI, o_starts_n, .inl o_starts)), (h_m, .inr (0, [.ref h_m_low, .ref h_m_middle, .ref h_m_high])), (h_m_low, .inl (cJ, m_low_n, .inr (.inl m_low))), (h_m_middle, .inl (cJ, m_middle_n, .inr (.inl m_middle))), (h_m_high, .inl (cJ, m_high_n, .inr (.inl m_high)))])) (va_Qv (fun u : (Nat → Int32) => u = r) (fun (u : (Nat → Int32)) (t : State) => va_P (dC, dI) cl_all [(h_s, .inr (2, [.int s_columnCount, .int s_fullRank, .ref h_s_ranks, .ref h_s_signs, .ref h_s_members, .ref h_s_starts, .ref h_s_defects])), (h_s_signs, .inl (cI, s_signs_n, .inl u)), (h_o, .inr (1, [.int o_columnCount, .ref h_o_sets, .ref h_o_starts, .ref h_o_nexts])), (h_o_sets, .inl (cI, o_sets_n, .inl o_sets)), (h_o_starts, .inl (cI, o_starts_n, .inl o_starts)), (h_m, .inr (0, [.ref h_m_low, .ref h_m_middle, .ref h_m_high])), (h_m_low, .inl (cJ, m_low_n, .inr (.inl m_low))), (h_m_middle, .inl (cJ, m_middle_n, .inr (.inl m_middle))), (h_m_high, .inl (cJ, m_high_n, .inr (.inl m_high)))] t.heap ∧ va_K (dC, dI) cl_all [(cI, .int), (cJ, .long), (cB, .byte), (cZ, .boolean), (cT, .object "BasisWalk$Table"), (cN, .object "BasisWalkModel$Num")] t ∧ va_D (va_A [(h_s, .inr (2, [.int s_columnCount, .int s_fullRank, .ref h_s_ranks, .ref h_s_signs, .ref h_s_members, .ref h_s_starts, .ref h_s_defects])), (h_s_signs, .inl (cI, s_signs_n, .inl s_signs)), (h_o, .inr (1, [.int o_columnCount, .ref h_o_sets, .ref h_o_starts, .ref h_o_nexts])), (h_o_sets, .inl (cI, o_sets_n, .inl o_sets)), (h_o_starts, .inl (cI, o_starts_n, .inl o_starts)), (h_m, .inr (0, [.ref h_m_low, .ref h_m_middle, .ref h_m_high])), (h_m_low, .inl (cJ, m_low_n, .inr (.inl m_low))), (h_m_middle, .inl (cJ, m_middle_n, .inr (.inl m_middle))), (h_m_high, .inl (cJ, m_high_n, .inr (.inl m_high)))] sz) [(h_s, .inr (2, [.int s_columnCount, .int s_fullRank, .ref h_s_ranks, .ref h_s_signs, .ref h_s_members, .ref h_s_starts, .ref h_s_defects])), (h_s_signs, .inl (cI, s_signs_n, .inl u)), (h_o, .inr (1, [.int o_columnCount, .ref h_o_sets, .ref h_o_starts, .ref h_o_nexts])), (h_o_sets, .inl (cI, o_sets_n, .inl o_sets)), (h_o_starts, .inl (cI, o_starts_n, .inl o_starts)), (h_m, .inr (0, [.ref h_m_low, .ref h_m_middle, .ref h_m_high])), (h_m_low, .inl (cJ, m_low_n, .inr (.inl m_low))), (h_m_middle, .inl (cJ, m_middle_n, .inr (.inl m_middle))), (h_m_high, .inl (cJ, m_high_n, .inr (.inl m_high)))]) (va_A [(h_s, .inr (2, [.int s_columnCount, .int s_fullRank, .ref h_s_ranks, .ref h_s_signs, .ref h_s_members, .ref h_s_starts, .ref h_s_defects])), (h_s_signs, .inl (cI, s_signs_n, .inl s_signs)), (h_o, .inr (1, [.int o_columnCount, .ref h_o_sets, .ref h_o_starts, .ref h_o_nexts])), (h_o_sets, .inl (cI, o_sets_n, .inl o_sets)), (h_o_starts, .inl (cI, o_starts_n, .inl o_starts)), (h_m, .inr (0, [.ref h_m_low, .ref h_m_middle, .ref h_m_high])), (h_m_low, .inl (cJ, m_low_n, .inr (.inl m_low))), (h_m_middle, .inl (cJ, m_middle_n, .inr (.inl m_middle))), (h_m_high, .inl (cJ, m_high_n, .inr (.inl m_high)))] sz)) 0 0 (va_A [(h_s, .inr (2, [.int s_columnCount, .int s_fullRank, .ref h_s_ranks, .ref h_s_signs, .ref h_s_members, .ref h_s_starts, .ref h_s_defects])), (h_s_signs, .inl (cI, s_signs_n, .inl s_signs)), (h_o, .inr (1, [.int o_columnCount, .ref h_o_sets, .ref h_o_starts, .ref h_o_nexts])), (h_o_sets, .inl (cI, o_sets_n, .inl o_sets)), (h_o_starts, .inl (cI, o_starts_n, .inl o_starts)), (h_m, .inr (0, [.ref h_m_low, .ref h_m_middle, .ref h_m_high])), (h_m_low, .inl (cJ, m_low_n, .inr (.inl m_low))), (h_m_middle, .inl (cJ, m_middle_n, .inr (.inl m_middle))), (h_m_high, .inl (cJ, m_high_n, .inr (.inl m_high)))] sz) := by
  refine Met.ofW (cc := prog_4_method_9_code) (maxL := 7) (ret := (Option.none : Option Jvm.ClassFile.FieldType)) (by decide) rfl ?_
  intro p e s m args below meth c s₁ B hml hv
  obtain ⟨hAR, hsz, hP, hK, hN, hD0⟩ := hv
  have hx := B.exec
  have hb := B.bytes
  have hr := B.returns
  have hts := atoms_spec (ws := w_St_learnSigns) B.pre
  have hown : s.vm.findClass "BasisWalk$Study" = some m.cls := findClass_of_methodNamed B.named
  have hlocks := B.notSynchronized
  clear B
  subst hsz
  have hD := hD0.self (sz := s.heap.size)
  generalize hAe : va_A [(h_s, .inr (2, [.int s_columnCount, .int s_fullRank, .ref h_s_ranks, .ref h_s_signs, .ref h_s_members, .ref h_s_starts, .ref h_s_defects])), (h_s_signs, .inl (cI, s_signs_n, .inl s_signs)), (h_o, .inr (1, [.int o_columnCount, .ref h_o_sets, .ref h_o_starts, .ref h_o_nexts])), (h_o_sets, .inl (cI, o_sets_n, .inl o_sets)), (h_o_starts, .inl (cI, o_starts_n, .inl o_starts)), (h_m, .inr (0, [.ref h_m_low, .ref h_m_middle, .ref h_m_high])), (h_m_low, .inl (cJ, m_low_n, .inr (.inl m_low))), (h_m_middle, .inl (cJ, m_middle_n, .inr (.inl m_middle))), (h_m_high, .inl (cJ, m_high_n, .inr (.inl m_high)))] s.heap.size = A at hD ⊢
  have hA : ∀ q : Nat, s.heap.size ≤ q → A q := fun q h => by rw [← hAe]; exact Or.inr h
  clear hAe hD0
  have hS : va_S A s.heap s.heap [] := va_S.rf
  have hl := lv_entry ([.ref h_s, .ref h_o, .ref h_m]) (n := 7) (Nat.le_of_ble_eq_true rfl)
  subst hAR
  rw [lg_entry_eq]
  generalize (lg_sl ([.ref h_s, .ref h_o, .ref h_m]) ++ List.replicate (7 - (lg_sl ([.ref h_s, .ref h_o, .ref h_m])).length) Slot.unset).toArray = ls at hl ⊢
  have hl : lv_has ls 7 [(0, .ref h_s), (1, .ref h_o), (2, .ref h_m)] := hl
  change W p l e ({ frames := 1, cells := 0, slots := 0, locals := 21 } : Room) s m _ below meth c s.heap [] 0 0 _ _
  generalize hARe : ([.ref h_s, .ref h_o, .ref h_m] : List Value).toArray = AR at hts ⊢
  clear hARe
  generalize hQ : MQ below _ AR s 0 0 A = QQ
  have fl0 := va_Nw.use (A := AR) rfl (hN _ tn_98)
  have iw1 := (fun w hw => List.mem_cons_of_mem _ (in_Or w hw) : ∀ w ∈ u_ws "BasisWalk$Order" T_Or 4, w ∈ w_St_learnSigns)
  have fl2 := hts _ (List.mem_cons_of_mem _ tw_33)
  have iw3 := (fun w hw => List.mem_cons_of_mem _ (in_St w hw) : ∀ w ∈ u_ws "BasisWalk$Study" T_St 7, w ∈ w_St_learnSigns)
  have fl4 := va_Nw.use (A := AR) rfl (hN _ tn_95)
  have fl5 := hts _ (List.mem_cons_of_mem _ tw_37)
  obtain ⟨H, hHe⟩ : ∃ H : Heap, H = s.heap := ⟨_, rfl⟩
  rw [← hHe] at hP ⊢
  replace hS : va_S A s.heap H [] := by rw [hHe]; exact va_S.rf
  clear hHe
  unfold f_S_learnSigns at h
  refine lv_iconst (v := 0) hx hb d_St_learnSigns_0 (by decide) ?_
  refine lv_istore_n (lv' := [(3, .int 0), (0, .ref h_s), (1, .ref h_o), (2, .ref h_m)]) hx hb d_St_learnSigns_1 rfl hl (by decide) rfl (fun ls hl => ?_)
  refine lv_aload_n hx hb d_St_learnSigns_2 rfl (lv_at hl 2 rfl) ?_
  refine va_getN (D := (dC, dI)) (ci := 1) (v := .ref h_o_starts) (C := "BasisWalk$Order") (T := T_Or) (N := 4) hx hb hts iw1 hown hK hP 2 rfl rfl 2 (by decide) fl0 (fun _ h9 => h9) rfl d_St_learnSigns_3 ?_
  refine lv_aload_n hx hb d_St_learnSigns_6 rfl (lv_at hl 1 rfl) ?_
  refine va_get (D := (dC, dI)) (ci := 2) (v := .int s_fullRank) (C := "BasisWalk$Study") (T := T_St) (N := 7) hx hb hts iw3 hown hK hP 0 rfl rfl 1 (by decide) fl2 (fun _ h9 => h9) rfl d_St_learnSigns_7 ?_
  obtain ⟨g_1, h⟩ := ck_in_s h
  refine va_iald hx hb hK hP 4 0 rfl rfl g_1 d_St_learnSigns_10 ?_
  refine lv_topi (fun x_2 ex_2 => ?_)
  replace h := ck_nm_s h ex_2
  refine lv_istore (lv' := [(4, .int x_2), (3, .int 0), (0, .ref h_s), (1, .ref h_o), (2, .ref h_m)]) hx hb d_St_learnSigns_11 hl (by decide) rfl (fun ls hl => ?_)
  refine lo3_W (r := r) (fun (v4_3 : Int32) (v3_4 : Int32) (w_5 : Nat → Int32) => ∀ (H : Heap) (locs : List Loc), va_P (dC, dI) cl_all [(h_s, .inr (2, [.int s_columnCount, .int s_fullRank, .ref h_s_ranks, .ref h_s_signs, .ref h_s_members, .ref h_s_starts, .ref h_s_defects])), (h_s_signs, .inl (cI, s_signs_n, .inl w_5)), (h_o, .inr (1, [.int o_columnCount, .ref h_o_sets, .ref h_o_starts, .ref h_o_nexts])), (h_o_sets, .inl (cI, o_sets_n, .inl o_sets)), (h_o_starts, .inl (cI, o_starts_n, .inl o_starts)), (h_m, .inr (0, [.ref h_m_low, .ref h_m_middle, .ref h_m_high])), (h_m_low, .inl (cJ, m_low_n, .inr (.inl m_low))), (h_m_middle, .inl (cJ, m_middle_n, .inr (.inl m_middle))), (h_m_high, .inl (cJ, m_high_n, .inr (.inl m_high)))] H → va_D A [(h_s, .inr (2, [.int s_columnCount, .int s_fullRank, .ref h_s_ranks, .ref h_s_signs, .ref h_s_members, .ref h_s_starts, .ref h_s_defects])), (h_s_signs, .inl (cI, s_signs_n, .inl w_5)), (h_o, .inr (1, [.int o_columnCount, .ref h_o_sets, .ref h_o_starts, .ref h_o_nexts])), (h_o_sets, .inl (cI, o_sets_n, .inl o_sets)), (h_o_starts, .inl (cI, o_starts_n, .inl o_starts)), (h_m, .inr (0, [.ref h_m_low, .ref h_m_middle, .ref h_m_high])), (h_m_low, .inl (cJ, m_low_n, .inr (.inl m_low))), (h_m_middle, .inl (cJ, m_middle_n, .inr (.inl m_middle))), (h_m_high, .inl (cJ, m_high_n, .inr (.inl m_high)))] → va_S A s.heap H locs → ∀ ls : Array Slot, lv_has ls 7 [(0, .ref h_s), (1, .ref h_o), (2, .ref h_m), (3, .int v3_4), (4, .int v4_3)] → W p l e ({ frames := 1, cells := 0, slots := 0, locals := 21 } : Room) s m AR below meth c H locs 0 0 QQ (F0 m 13 ls [])) ?_ _ _ _ _ h _ _ hP hD hS _ (lv_sub hl [2, 3, 4, 1, 0] rfl)
  intro k_13 v4_3 v3_4 w_5 J_13 h H locs hP hD hS ls hl
  refine lv_iload hx hb d_St_learnSigns_13 (lv_at hl 4 rfl) ?_
  refine lv_aload_n hx hb d_St_learnSigns_15 rfl (lv_at hl 1 rfl) ?_
  refine va_getN (D := (dC, dI)) (ci := 1) (v := .ref h_o_starts) (C := "BasisWalk$Order") (T := T_Or) (N := 4) hx hb hts iw1 hown hK hP 2 rfl rfl 2 (by decide) fl0 (fun _ h9 => h9) rfl d_St_learnSigns_16 ?_
  refine lv_aload_n hx hb d_St_learnSigns_19 rfl (lv_at hl 0 rfl) ?_
  refine va_get (D := (dC, dI)) (ci := 2) (v := .int s_fullRank) (C := "BasisWalk$Study") (T := T_St) (N := 7) hx hb hts iw3 hown hK hP 0 rfl rfl 1 (by decide) fl2 (fun _ h9 => h9) rfl d_St_learnSigns_20 ?_
  refine lv_iconst (v := 1) hx hb d_St_learnSigns_23 (by decide) ?_
  refine lv_iadd hx hb d_St_learnSigns_24 ?_
  obtain ⟨g_6, h⟩ := ck_in_s h
  refine va_iald hx hb hK hP 4 0 rfl rfl g_6 d_St_learnSigns_25 ?_
  refine lv_icmp_ge (tgt := 74) hx hb d_St_learnSigns_26 (by decide) (fun c_7 => ?_) (fun c_7 => ?_)
  · replace h := ck_if_t h c_7
    obtain rfl := Option.some.inj h
    subst hQ
    exact W.vret hx hb hr (fun t ht hW => ⟨⟨w_5, rfl, rfl, by rw [ht]; exact hP, va_K.moved hW.alike hK, hD⟩, hS.F ht⟩) hS.2.2 d_St_learnSigns_74
  · replace h := ck_if_f h c_7
    refine lv_aload_n hx hb d_St_learnSigns_29 rfl (lv_at hl 1 rfl) ?_
    refine va_getN (D := (dC, dI)) (ci := 1) (v := .ref h_o_sets) (C := "BasisWalk$Order") (T := T_Or) (N := 4) hx hb hts iw1 hown hK hP 2 rfl rfl 1 (by decide) fl4 (fun _ h9 => h9) rfl d_St_learnSigns_30 ?_
    refine lv_iload hx hb d_St_learnSigns_33 (lv_at hl 4 rfl) ?_
    obtain ⟨g_8, h⟩ := ck_in_s h
    refine va_iald hx hb hK hP 3 0 rfl rfl g_8 d_St_learnSigns_35 ?_
    refine lv_topi (fun x_9 ex_9 => ?_)
    replace h := ck_nm_s h ex_9
    refine lv_istore (lv' := [(5, .int x_9), (0, .ref h_s), (1, .ref h_o), (2, .ref h_m), (3, .int v3_4), (4, .int v4_3)]) hx hb d_St_learnSigns_36 hl (by decide) rfl (fun ls hl => ?_)
    refine lv_aload_n hx hb d_St_learnSigns_38 rfl (lv_at hl 3 rfl) ?_
    refine lv_iload hx hb d_St_learnSigns_39 (lv_at hl 0 rfl) ?_
    obtain ⟨r_10, hc_11, h⟩ := ck_b1_s h
    have hPc := hP.sub (ws' := [(h_m, .inr (0, [.ref h_m_low, .ref h_m_middle, .ref h_m_high])), (h_m_low, .inl (cJ, m_low_n, .inr (.inl m_low))), (h_m_middle, .inl (cJ, m_middle_n, .inr (.inl m_middle))), (h_m_high, .inl (cJ, m_high_n, .inr (.inl m_high)))]) [5, 6, 7, 8] rfl
    have hDc := hD.sub (ws' := [(h_m, .inr (0, [.ref h_m_low, .ref h_m_middle, .ref h_m_high])), (h_m_low, .inl (cJ, m_low_n, .inr (.inl m_low))), (h_m_middle, .inl (cJ, m_middle_n, .inr (.inl m_middle))), (h_m_high, .inl (cJ, m_high_n, .inr (.inl m_high)))]) [5, 6, 7, 8] (by decide) rfl
    have hFc := va_free (wc := [(h_m, .inr (0, [.ref h_m_low, .ref h_m_middle, .ref h_m_high])), (h_m_low, .inl (cJ, m_low_n, .inr (.inl m_low))), (h_m_middle, .inl (cJ, m_middle_n, .inr (.inl m_middle))), (h_m_high, .inl (cJ, m_high_n, .inr (.inl m_high)))]) hD hS hA [5, 6, 7, 8] rfl
    refine va_calli (va_runV (As := [.int x_9]) (rest := []) ⟨hx, hb, hml, hown, hts⟩ (c_M_signOf l dC dI cI cJ cB cZ cT cN H.size h_m h_m_low h_m_middle h_m_high m_low_n m_low m_middle_n m_middle m_high_n m_high x_9 _ hc_11) (cwV 1 hts (tb_V tw_237 tw_230 tw_231 tw_5 tw_232) rfl rfl rfl (by decide +kernel) ⟨Nat.le_of_ble_eq_true rfl, Nat.le_of_ble_eq_true rfl⟩) ⟨fun a U g mk q => by obtain ⟨q0, q1, qP, qK, qN, qD⟩ := q; exact ⟨q0, q1, qP, va_K.moved (u := U) (U := U.calling g mk a) (Vm.Alike.refl U.vm) qK, qN.same rfl, qD⟩, va_recv hK hPc (ci := 0) (q0 := 0) rfl rfl, fun U hU hW => ⟨rfl, by rw [hU], by rw [hU]; exact hPc, va_K.moved hW.alike hK, hN.warm hW, hDc.weaken (fun _ _ _ _ => trivial)⟩⟩ rfl rfl hl.1 rfl (lv_room (Nat.le_of_ble_eq_true rfl)) d_St_learnSigns_41 ⟨Nat.zero_le _, Nat.zero_le _⟩) hS (fun q _ h => hFc q h) hFc (fun rr u t H1 locs ht hvm hw hB hz1 hk1 hS => ?_)
    replace hw := hw.symm
    subst hw
    obtain ⟨hP1, -, hD1⟩ := hB
    rw [ht] at hP1
    obtain ⟨hP, hD⟩ := va_join (wr := [(h_s, .inr (2, [.int s_columnCount, .int s_fullRank, .ref h_s_ranks, .ref h_s_signs, .ref h_s_members, .ref h_s_starts, .ref h_s_defects])), (h_s_signs, .inl (cI, s_signs_n, .inl w_5)), (h_o, .inr (1, [.int o_columnCount, .ref h_o_sets, .ref h_o_starts, .ref h_o_nexts])), (h_o_sets, .inl (cI, o_sets_n, .inl o_sets)), (h_o_starts, .inl (cI, o_starts_n, .inl o_starts))]) (w1 := [(h_m, .inr (0, [.ref h_m_low, .ref h_m_middle, .ref h_m_high])), (h_m_low, .inl (cJ, m_low_n, .inr (.inl m_low))), (h_m_middle, .inl (cJ, m_middle_n, .inr (.inl m_middle))), (h_m_high, .inl (cJ, m_high_n, .inr (.inl m_high)))]) hP hD [5, 6, 7, 8] [0, 1, 2, 3, 4] rfl rfl (by decide) (by decide) hk1 hFc hP1 hD1
    generalize H1 = H at hP hS ⊢
    have hP : va_P (dC, dI) cl_all [(h_s, .inr (2, [.int s_columnCount, .int s_fullRank, .ref h_s_ranks, .ref h_s_signs, .ref h_s_members, .ref h_s_starts, .ref h_s_defects])), (h_s_signs, .inl (cI, s_signs_n, .inl w_5)), (h_o, .inr (1, [.int o_columnCount, .ref h_o_sets, .ref h_o_starts, .ref h_o_nexts])), (h_o_sets, .inl (cI, o_sets_n, .inl o_sets)), (h_o_starts, .inl (cI, o_starts_n, .inl o_starts)), (h_m, .inr (0, [.ref h_m_low, .ref h_m_middle, .ref h_m_high])), (h_m_low, .inl (cJ, m_low_n, .inr (.inl m_low))), (h_m_middle, .inl (cJ, m_middle_n, .inr (.inl m_middle))), (h_m_high, .inl (cJ, m_high_n, .inr (.inl m_high)))] H := hP.sub [0, 1, 2, 3, 4, 5, 6, 7, 8] rfl
    have hD : va_D A [(h_s, .inr (2, [.int s_columnCount, .int s_fullRank, .ref h_s_ranks, .ref h_s_signs, .ref h_s_members, .ref h_s_starts, .ref h_s_defects])), (h_s_signs, .inl (cI, s_signs_n, .inl w_5)), (h_o, .inr (1, [.int o_columnCount, .ref h_o_sets, .ref h_o_starts, .ref h_o_nexts])), (h_o_sets, .inl (cI, o_sets_n, .inl o_sets)), (h_o_starts, .inl (cI, o_starts_n, .inl o_starts)), (h_m, .inr (0, [.ref h_m_low, .ref h_m_middle, .ref h_m_high])), (h_m_low, .inl (cJ, m_low_n, .inr (.inl m_low))), (h_m_middle, .inl (cJ, m_middle_n, .inr (.inl m_middle))), (h_m_high, .inl (cJ, m_high_n, .inr (.inl m_high)))] := hD.sub [0, 1, 2, 3, 4, 5, 6, 7, 8] (by decide) rfl
    refine lv_istore (lv' := [(6, .int r_10), (5, .int x_9), (0, .ref h_s), (1, .ref h_o), (2, .ref h_m), (3, .int v3_4), (4, .int v4_3)]) hx hb d_St_learnSigns_44 hl (by decide) rfl (fun ls hl => ?_)
    refine lv_iload_n hx hb d_St_learnSigns_46 rfl (lv_at hl 5 rfl) ?_
    refine ck_jn_W h (fun k' => ∀ (s0_12 : Int32), k' s0_12 = some r → ∀ (H : Heap) (locs : List Loc), va_P (dC, dI) cl_all [(h_s, .inr (2, [.int s_columnCount, .int s_fullRank, .ref h_s_ranks, .ref h_s_signs, .ref h_s_members, .ref h_s_starts, .ref h_s_defects])), (h_s_signs, .inl (cI, s_signs_n, .inl w_5)), (h_o, .inr (1, [.int o_columnCount, .ref h_o_sets, .ref h_o_starts, .ref h_o_nexts])), (h_o_sets, .inl (cI, o_sets_n, .inl o_sets)), (h_o_starts, .inl (cI, o_starts_n, .inl o_starts)), (h_m, .inr (0, [.ref h_m_low, .ref h_m_middle, .ref h_m_high])), (h_m_low, .inl (cJ, m_low_n, .inr (.inl m_low))), (h_m_middle, .inl (cJ, m_middle_n, .inr (.inl m_middle))), (h_m_high, .inl (cJ, m_high_n, .inr (.inl m_high)))] H → va_D A [(h_s, .inr (2, [.int s_columnCount, .int s_fullRank, .ref h_s_ranks, .ref h_s_signs, .ref h_s_members, .ref h_s_starts, .ref h_s_defects])), (h_s_signs, .inl (cI, s_signs_n, .inl w_5)), (h_o, .inr (1, [.int o_columnCount, .ref h_o_sets, .ref h_o_starts, .ref h_o_nexts])), (h_o_sets, .inl (cI, o_sets_n, .inl o_sets)), (h_o_starts, .inl (cI, o_starts_n, .inl o_starts)), (h_m, .inr (0, [.ref h_m_low, .ref h_m_middle, .ref h_m_high])), (h_m_low, .inl (cJ, m_low_n, .inr (.inl m_low))), (h_m_middle, .inl (cJ, m_middle_n, .inr (.inl m_middle))), (h_m_high, .inl (cJ, m_high_n, .inr (.inl m_high)))] → va_S A s.heap H locs → ∀ ls : Array Slot, lv_has ls 7 [(0, .ref h_s), (1, .ref h_o), (2, .ref h_m), (4, .int v4_3), (5, .int x_9), (6, .int r_10)] → W p l e ({ frames := 1, cells := 0, slots := 0, locals := 21 } : Room) s m AR below meth c H locs 0 0 QQ (F0 m 56 ls [.int s0_12])) ?_ ?_
    · intro s0_12 h H locs hP hD hS ls hl
      refine lv_istore_n (lv' := [(3, .int s0_12), (0, .ref h_s), (1, .ref h_o), (2, .ref h_m), (4, .int v4_3), (5, .int x_9), (6, .int r_10)]) hx hb d_St_learnSigns_56 rfl hl (by decide) rfl (fun ls hl => ?_)
      refine lv_aload_n hx hb d_St_learnSigns_57 rfl (lv_at hl 1 rfl) ?_
      refine va_get (D := (dC, dI)) (ci := 2) (v := .ref h_s_signs) (C := "BasisWalk$Study") (T := T_St) (N := 7) hx hb hts iw3 hown hK hP 0 rfl rfl 3 (by decide) fl5 (fun _ h9 => h9) rfl d_St_learnSigns_58 ?_
      refine lv_iload hx hb d_St_learnSigns_61 (lv_at hl 5 rfl) ?_
      refine lv_iload hx hb d_St_learnSigns_63 (lv_at hl 6 rfl) ?_
      refine lv_iload_n hx hb d_St_learnSigns_65 rfl (lv_at hl 0 rfl) ?_
      refine lv_imul hx hb d_St_learnSigns_66 ?_
      obtain ⟨g_13, h⟩ := ck_in_s h
      refine va_iast hx hb hK hP hD hS 1 0 rfl rfl g_13 d_St_learnSigns_67 (fun H locs hP hD hS => ?_)
      have hP : va_P (dC, dI) cl_all [(h_s, .inr (2, [.int s_columnCount, .int s_fullRank, .ref h_s_ranks, .ref h_s_signs, .ref h_s_members, .ref h_s_starts, .ref h_s_defects])), (h_s_signs, .inl (cI, s_signs_n, .inl (upd w_5 x_9.toNatClampNeg (r_10 * s0_12)))), (h_o, .inr (1, [.int o_columnCount, .ref h_o_sets, .ref h_o_starts, .ref h_o_nexts])), (h_o_sets, .inl (cI, o_sets_n, .inl o_sets)), (h_o_starts, .inl (cI, o_starts_n, .inl o_starts)), (h_m, .inr (0, [.ref h_m_low, .ref h_m_middle, .ref h_m_high])), (h_m_low, .inl (cJ, m_low_n, .inr (.inl m_low))), (h_m_middle, .inl (cJ, m_middle_n, .inr (.inl m_middle))), (h_m_high, .inl (cJ, m_high_n, .inr (.inl m_high)))] H := hP
      have hD : va_D A [(h_s, .inr (2, [.int s_columnCount, .int s_fullRank, .ref h_s_ranks, .ref h_s_signs, .ref h_s_members, .ref h_s_starts, .ref h_s_defects])), (h_s_signs, .inl (cI, s_signs_n, .inl (upd w_5 x_9.toNatClampNeg (r_10 * s0_12)))), (h_o, .inr (1, [.int o_columnCount, .ref h_o_sets, .ref h_o_starts, .ref h_o_nexts])), (h_o_sets, .inl (cI, o_sets_n, .inl o_sets)), (h_o_starts, .inl (cI, o_starts_n, .inl o_starts)), (h_m, .inr (0, [.ref h_m_low, .ref h_m_middle, .ref h_m_high])), (h_m_low, .inl (cJ, m_low_n, .inr (.inl m_low))), (h_m_middle, .inl (cJ, m_middle_n, .inr (.inl m_middle))), (h_m_high, .inl (cJ, m_high_n, .inr (.inl m_high)))] := hD
      obtain ⟨x_14, ex_14⟩ : ∃ y : Int32, y = v4_3 + 1 := ⟨_, rfl⟩
      replace h := ck_nm_s h ex_14
      refine lv_iinc (v := x_14) (lv' := [(4, .int x_14), (3, .int s0_12), (0, .ref h_s), (1, .ref h_o), (2, .ref h_m), (5, .int x_9), (6, .int r_10)]) hx hb d_St_learnSigns_68 hl (k := 4) rfl (by rw [ex_14]; rfl) (by decide) rfl (fun ls hl => ?_)
      refine lv_goto (tgt := 13) hx hb d_St_learnSigns_71 (by decide) ?_
      exact J_13 _ _ _ h _ _ hP hD hS _ (lv_sub hl [2, 3, 4, 1, 0] rfl)
    · intro k_56 J_56 h
      refine lv_if_ne (tgt := 55) hx hb d_St_learnSigns_47 (by decide) (fun c_15 => ?_) (fun c_15 => ?_)
      · replace h := ck_if_f h c_15
        refine lv_iload_n hx hb d_St_learnSigns_55 rfl (lv_at hl 5 rfl) ?_
        exact J_56 _ h _ _ hP hD hS _ (lv_sub hl [2, 3, 4, 6, 1, 0] rfl)
      · replace h := ck_if_t h c_15
        refine lv_iload hx hb d_St_learnSigns_50 (lv_at hl 0 rfl) ?_
        refine lv_goto (tgt := 56) hx hb d_St_learnSigns_52 (by decide) ?_
        exact J_56 _ h _ _ hP hD hS _ (lv_sub hl [2, 3, 4, 6, 1, 0] rfl)
theorem d_St_markIndependent_0 : decode prog_4_method_10_code 0 = .ok (.iconst 1, 1) := by decide +kernel
theorem d_St_markIndependent_1 : decode prog_4_method_10_code 1 = .ok (.aload_n 0, 1) := by decide +kernel
theorem d_St_markIndependent_2 : decode prog_4_method_10_code 2 = .ok (.getfield 33, 3) := by decide +kernel
theorem d_St_markIndependent_5 : decode prog_4_method_10_code 5 = .ok (.ishl, 1) := by decide +kernel
theorem d_St_markIndependent_6 : decode prog_4_method_10_code 6 = .ok (.iconst 1, 1) := by decide +kernel
theorem d_St_markIndependent_7 : decode prog_4_method_10_code 7 = .ok (.isub, 1) := by decide +kernel
theorem d_St_markIndependent_8 : decode prog_4_method_10_code 8 = .ok (.istore_n 1, 1) := by decide +kernel
theorem d_St_markIndependent_9 : decode prog_4_method_10_code 9 = .ok (.iload_n 1, 1) := by decide +kernel
theorem d_St_markIndependent_10 : decode prog_4_method_10_code 10 = .ok (.ifCond .lt 76, 3) := by decide +kernel
theorem d_St_markIndependent_13 : decode prog_4_method_10_code 13 = .ok (.iload_n 1, 1) := by decide +kernel
theorem d_St_markIndependent_14 : decode prog_4_method_10_code 14 = .ok (.invokestatic 90, 3) := by decide +kernel
theorem d_St_markIndependent_17 : decode prog_4_method_10_code 17 = .ok (.istore_n 2, 1) := by decide +kernel
theorem d_St_markIndependent_18 : decode prog_4_method_10_code 18 = .ok (.iload_n 2, 1) := by decide +kernel
theorem d_St_markIndependent_19 : decode prog_4_method_10_code 19 = .ok (.aload_n 0, 1) := by decide +kernel
theorem d_St_markIndependent_20 : decode prog_4_method_10_code 20 = .ok (.getfield 38, 3) := by decide +kernel
theorem d_St_markIndependent_23 : decode prog_4_method_10_code 23 = .ok (.if_icmp .ne 20, 3) := by decide +kernel
theorem d_St_markIndependent_26 : decode prog_4_method_10_code 26 = .ok (.aload_n 0, 1) := by decide +kernel
theorem d_St_markIndependent_27 : decode prog_4_method_10_code 27 = .ok (.getfield 15, 3) := by decide +kernel
theorem d_St_markIndependent_30 : decode prog_4_method_10_code 30 = .ok (.iload_n 1, 1) := by decide +kernel
theorem d_St_markIndependent_31 : decode prog_4_method_10_code 31 = .ok (.iaload, 1) := by decide +kernel
theorem d_St_markIndependent_32 : decode prog_4_method_10_code 32 = .ok (.ifCond .eq 7, 3) := by decide +kernel
theorem d_St_markIndependent_35 : decode prog_4_method_10_code 35 = .ok (.iconst 1, 1) := by decide +kernel
theorem d_St_markIndependent_36 : decode prog_4_method_10_code 36 = .ok (.goto 28, 3) := by decide +kernel
theorem d_St_markIndependent_39 : decode prog_4_method_10_code 39 = .ok (.iconst 0, 1) := by decide +kernel
theorem d_St_markIndependent_40 : decode prog_4_method_10_code 40 = .ok (.goto 24, 3) := by decide +kernel
theorem d_St_markIndependent_43 : decode prog_4_method_10_code 43 = .ok (.iload_n 2, 1) := by decide +kernel
theorem d_St_markIndependent_44 : decode prog_4_method_10_code 44 = .ok (.aload_n 0, 1) := by decide +kernel
theorem d_St_markIndependent_45 : decode prog_4_method_10_code 45 = .ok (.getfield 38, 3) := by decide +kernel
theorem d_St_markIndependent_48 : decode prog_4_method_10_code 48 = .ok (.if_icmp .ge 15, 3) := by decide +kernel
theorem d_St_markIndependent_51 : decode prog_4_method_10_code 51 = .ok (.aload_n 0, 1) := by decide +kernel
theorem d_St_markIndependent_52 : decode prog_4_method_10_code 52 = .ok (.iload_n 1, 1) := by decide +kernel
theorem d_St_markIndependent_53 : decode prog_4_method_10_code 53 = .ok (.invokevirtual 95, 3) := by decide +kernel
theorem d_St_markIndependent_56 : decode prog_4_method_10_code 56 = .ok (.ifCond .eq 7, 3) := by decide +kernel
theorem d_St_markIndependent_59 : decode prog_4_method_10_code 59 = .ok (.iconst 1, 1) := by decide +kernel
theorem d_St_markIndependent_60 : decode prog_4_method_10_code 60 = .ok (.goto 4, 3) := by decide +kernel
theorem d_St_markIndependent_63 : decode prog_4_method_10_code 63 = .ok (.iconst 0, 1) := by decide +kernel
theorem d_St_markIndependent_64 : decode prog_4_method_10_code 64 = .ok (.istore_n 3, 1) := by decide +kernel
theorem d_St_markIndependent_65 : decode prog_4_method_10_code 65 = .ok (.aload_n 0, 1) := by decide +kernel
theorem d_St_markIndependent_66 : decode prog_4_method_10_code 66 = .ok (.getfield 9, 3) := by decide +kernel
theorem d_St_markIndependent_69 : decode prog_4_method_10_code 69 = .ok (.iload_n 1, 1) := by decide +kernel
theorem d_St_markIndependent_70 : decode prog_4_method_10_code 70 = .ok (.iload_n 3, 1) := by decide +kernel
theorem d_St_markIndependent_71 : decode prog_4_method_10_code 71 = .ok (.ifCond .eq 7, 3) := by decide +kernel
theorem d_St_markIndependent_74 : decode prog_4_method_10_code 74 = .ok (.iload_n 2, 1) := by decide +kernel
theorem d_St_markIndependent_75 : decode prog_4_method_10_code 75 = .ok (.goto 4, 3) := by decide +kernel
theorem d_St_markIndependent_78 : decode prog_4_method_10_code 78 = .ok (.iconst (-1), 1) := by decide +kernel
theorem d_St_markIndependent_79 : decode prog_4_method_10_code 79 = .ok (.iastore, 1) := by decide +kernel
theorem d_St_markIndependent_80 : decode prog_4_method_10_code 80 = .ok (.iinc 1 (-1), 3) := by decide +kernel
theorem d_St_markIndependent_83 : decode prog_4_method_10_code 83 = .ok (.goto (-74), 3) := by decide +kernel
theorem d_St_markIndependent_86 : decode prog_4_method_10_code 86 = .ok (.return_, 1) := by decide +kernel
def f_S_markIndependent (s_columnCount : Int32) (s_fullRank : Int32) (s_ranks_n : Nat) (s_ranks : Nat → Int32) (s_signs_n : Nat) (s_signs : Nat → Int32) : Option ((Nat → Int32)) :=
  ck_nm (((1 : Int32) <<< (s_columnCount &&& 31)) - 1) <| fun x_1 => lo2 (fun k_9 (v1_2 : Int32) (w_3 : Nat → Int32) => ck_if (v1_2 < 0) (some w_3) (ck_b1 (f_bitCount v1_2) <| fun r_5 => ck_jn (fun (s0_7 : Int32) => ck_jn (fun (s0_8 : Int32) => ck_in v1_2 s_ranks_n <| ck_nm (v1_2 + (-1)) <| fun x_10 => k_9 x_10 (upd w_3 v1_2.toNatClampNeg s0_8)) <| fun k_79 => ck_if (s0_7 = 0) (k_79 (-1)) (k_79 r_5)) <| fun k_64 => ck_if (r_5 = s_fullRank) (ck_in v1_2 s_signs_n <| ck_if ((s_signs v1_2.toNatClampNeg) = 0) (k_64 0) (k_64 1)) (ck_jn (fun (_ : Unit) => k_64 0) <| fun k_63 => ck_if (s_fullRank ≤ r_5) (k_63 ()) (ck_b1 (f_S_hasIndependentAbove s_columnCount s_ranks_n w_3 v1_2) <| fun r_14 => ck_if (r_14 = 0) (k_63 ()) (k_64 1))))) ck_F x_1 s_ranks
set_option maxHeartbeats 4000000 in
set_option maxRecDepth 100000 in
theorem c_S_markIndependent (l : Launch) (dC : Nat → ClassId) (dI : Nat → Nat → Nat) (cI cJ cB cZ cT cN : ClassId) (sz : Nat) (h_s : Nat) (h_s_ranks : Nat) (h_s_signs : Nat) (h_s_members : Nat) (h_s_starts : Nat) (h_s_defects : Nat) (s_columnCount : Int32) (s_fullRank : Int32) (s_ranks_n : Nat) (s_ranks : Nat → Int32) (s_signs_n : Nat) (s_signs : Nat → Int32) (r : (Nat → Int32)) (h : f_S_markIndependent s_columnCount s_fullRank s_ranks_n s_ranks s_signs_n s_signs = some r) : Met l y_St_markIndependent w_St_markIndependent ({ frames := 1, cells := 0, slots := 0, locals := 23 } : Room) (va_Pc [.ref h_s] (fun U => U.heap.size = sz ∧ va_P (dC, dI) cl_all [(h_s, .inr (2, [.int s_columnCount, .int s_fullRank, .ref h_s_ranks, .ref h_s_signs, .ref h_s_members, .ref h_s_starts, .ref h_s_defects])), (h_s_ranks, .inl (cI, s_ranks_n, .inl s_ranks)), (h_s_signs, .inl (cI, s_signs_n, .inl s_signs))] U.heap ∧ va_K (dC, dI) cl_all [(cI, .int), (cJ, .long), (cB, .byte), (cZ, .boolean), (cT, .object "BasisWalk$Table"), (cN, .object "BasisWalkModel$Num")] U ∧ NW U ∧ va_D (fun _ => True) [(h_s, .inr (2, [.int s_columnCount, .int s_fullRank, .ref h_s_ranks, .ref h_s_signs, .ref h_s_members, .ref h_s_starts, .ref h_s_defects])), (h_s_ranks, .inl (cI, s_ranks_n, .inl s_ranks)), (h_s_signs, .inl (cI, s_signs_n, .inl s_signs))])) (va_Qv (fun u : (Nat → Int32) => u = r) (fun (u : (Nat → Int32)) (t : State) => va_P (dC, dI) cl_all [(h_s, .inr (2, [.int s_columnCount, .int s_fullRank, .ref h_s_ranks, .ref h_s_signs, .ref h_s_members, .ref h_s_starts, .ref h_s_defects])), (h_s_ranks, .inl (cI, s_ranks_n, .inl u)), (h_s_signs, .inl (cI, s_signs_n, .inl s_signs))] t.heap ∧ va_K (dC, dI) cl_all [(cI, .int), (cJ, .long), (cB, .byte), (cZ, .boolean), (cT, .object "BasisWalk$Table"), (cN, .object "BasisWalkModel$Num")] t ∧ va_D (va_A [(h_s, .inr (2, [.int s_columnCount, .int s_fullRank, .ref h_s_ranks, .ref h_s_signs, .ref h_s_members, .ref h_s_starts, .ref h_s_defects])), (h_s_ranks, .inl (cI, s_ranks_n, .inl s_ranks)), (h_s_signs, .inl (cI, s_signs_n, .inl s_signs))] sz) [(h_s, .inr (2, [.int s_columnCount, .int s_fullRank, .ref h_s_ranks, .ref h_s_signs, .ref h_s_members, .ref h_s_starts, .ref h_s_defects])), (h_s_ranks, .inl (cI, s_ranks_n, .inl u)), (h_s_signs, .inl (cI, s_signs_n, .inl s_signs))]) (va_A [(h_s, .inr (2, [.int s_columnCount, .int s_fullRank, .ref h_s_ranks, .ref h_s_signs, .ref h_s_members, .ref h_s_starts, .ref h_s_defects])), (h_s_ranks, .inl (cI, s_ranks_n, .inl s_ranks)), (h_s_signs, .inl (cI, s_signs_n, .inl s_signs))] sz)) 0 0 (va_A [(h_s, .inr (2, [.int s_columnCount, .int s_fullRank, .ref h_s_ranks, .ref h_s_signs, .ref h_s_members, .ref h_s_starts, .ref h_s_defects])), (h_s_ranks, .inl (cI, s_ranks_n, .inl s_ranks)), (h_s_signs, .inl (cI, s_signs_n, .inl s_signs))] sz) := by
  refine Met.ofW (cc := prog_4_method_10_code) (maxL := 4) (ret := (Option.none : Option Jvm.ClassFile.FieldType)) (by decide) rfl ?_
  intro p e s m args below meth c s₁ B hml hv
  obtain ⟨hAR, hsz, hP, hK, hN, hD0⟩ := hv
  have hx := B.exec
  have hb := B.bytes
  have hr := B.returns
  have hts := atoms_spec (ws := w_St_markIndependent) B.pre
  have hown : s.vm.findClass "BasisWalk$Study" = some m.cls := findClass_of_methodNamed B.named
  have hlocks := B.notSynchronized
  clear B
  subst hsz
  have hD := hD0.self (sz := s.heap.size)
  generalize hAe : va_A [(h_s, .inr (2, [.int s_columnCount, .int s_fullRank, .ref h_s_ranks, .ref h_s_signs, .ref h_s_members, .ref h_s_starts, .ref h_s_defects])), (h_s_ranks, .inl (cI, s_ranks_n, .inl s_ranks)), (h_s_signs, .inl (cI, s_signs_n, .inl s_signs))] s.heap.size = A at hD ⊢
  have hA : ∀ q : Nat, s.heap.size ≤ q → A q := fun q h => by rw [← hAe]; exact Or.inr h
  clear hAe hD0
  have hS : va_S A s.heap s.heap [] := va_S.rf
  have hl := lv_entry ([.ref h_s]) (n := 4) (Nat.le_of_ble_eq_true rfl)
  subst hAR
  rw [lg_entry_eq]
  generalize (lg_sl ([.ref h_s]) ++ List.replicate (4 - (lg_sl ([.ref h_s])).length) Slot.unset).toArray = ls at hl ⊢
  have hl : lv_has ls 4 [(0, .ref h_s)] := hl
  change W p l e ({ frames := 1, cells := 0, slots := 0, locals := 23 } : Room) s m _ below meth c s.heap [] 0 0 _ _
  generalize hARe : ([.ref h_s] : List Value).toArray = AR at hts ⊢
  clear hARe
  generalize hQ : MQ below _ AR s 0 0 A = QQ
  have fl0 := hts _ (List.mem_cons_of_mem _ tw_32)
  have iw1 := (fun w hw => List.mem_cons_of_mem _ (in_St w hw) : ∀ w ∈ u_ws "BasisWalk$Study" T_St 7, w ∈ w_St_markIndependent)
  have fl2 := hts _ (List.mem_cons_of_mem _ tw_33)
  have fl3 := hts _ (List.mem_cons_of_mem _ tw_35)
  have fl4 := hts _ (List.mem_cons_of_mem _ tw_37)
  obtain ⟨H, hHe⟩ : ∃ H : Heap, H = s.heap := ⟨_, rfl⟩
  rw [← hHe] at hP ⊢
  replace hS : va_S A s.heap H [] := by rw [hHe]; exact va_S.rf
  clear hHe
  unfold f_S_markIndependent at h
  refine lv_iconst (v := 1) hx hb d_St_markIndependent_0 (by decide) ?_
  refine lv_aload_n hx hb d_St_markIndependent_1 rfl (lv_at hl 0 rfl) ?_
  refine va_get (D := (dC, dI)) (ci := 2) (v := .int s_columnCount) (C := "BasisWalk$Study") (T := T_St) (N := 7) hx hb hts iw1 hown hK hP 0 rfl rfl 0 (by decide) fl0 (fun _ h9 => h9) rfl d_St_markIndependent_2 ?_
  refine lv_ishl hx hb d_St_markIndependent_5 ?_
  refine lv_iconst (v := 1) hx hb d_St_markIndependent_6 (by decide) ?_
  refine lv_isub hx hb d_St_markIndependent_7 ?_
  refine lv_topi (fun x_1 ex_1 => ?_)
  replace h := ck_nm_s h ex_1
  refine lv_istore_n (lv' := [(1, .int x_1), (0, .ref h_s)]) hx hb d_St_markIndependent_8 rfl hl (by decide) rfl (fun ls hl => ?_)
  refine lo2_W (r := r) (fun (v1_2 : Int32) (w_3 : Nat → Int32) => ∀ (H : Heap) (locs : List Loc), va_P (dC, dI) cl_all [(h_s, .inr (2, [.int s_columnCount, .int s_fullRank, .ref h_s_ranks, .ref h_s_signs, .ref h_s_members, .ref h_s_starts, .ref h_s_defects])), (h_s_ranks, .inl (cI, s_ranks_n, .inl w_3)), (h_s_signs, .inl (cI, s_signs_n, .inl s_signs))] H → va_D A [(h_s, .inr (2, [.int s_columnCount, .int s_fullRank, .ref h_s_ranks, .ref h_s_signs, .ref h_s_members, .ref h_s_starts, .ref h_s_defects])), (h_s_ranks, .inl (cI, s_ranks_n, .inl w_3)), (h_s_signs, .inl (cI, s_signs_n, .inl s_signs))] → va_S A s.heap H locs → ∀ ls : Array Slot, lv_has ls 4 [(0, .ref h_s), (1, .int v1_2)] → W p l e ({ frames := 1, cells := 0, slots := 0, locals := 23 } : Room) s m AR below meth c H locs 0 0 QQ (F0 m 9 ls [])) ?_ _ _ _ h _ _ hP hD hS _ (lv_sub hl [1, 0] rfl)
  intro k_9 v1_2 w_3 J_9 h H locs hP hD hS ls hl
  refine lv_iload_n hx hb d_St_markIndependent_9 rfl (lv_at hl 1 rfl) ?_
  refine lv_if_lt (tgt := 86) hx hb d_St_markIndependent_10 (by decide) (fun c_4 => ?_) (fun c_4 => ?_)
  · replace h := ck_if_t h c_4
    obtain rfl := Option.some.inj h
    subst hQ
    exact W.vret hx hb hr (fun t ht hW => ⟨⟨w_3, rfl, rfl, by rw [ht]; exact hP, va_K.moved hW.alike hK, hD⟩, hS.F ht⟩) hS.2.2 d_St_markIndependent_86
  · replace h := ck_if_f h c_4
    refine lv_iload_n hx hb d_St_markIndependent_13 rfl (lv_at hl 1 rfl) ?_
    obtain ⟨r_5, hc_6, h⟩ := ck_b1_s h
    have hPc := hP.sub (ws' := []) [] rfl
    have hDc := hD.sub (ws' := []) [] (by decide) rfl
    have hFc := va_free (wc := []) hD hS hA [] rfl
    refine va_calli (va_runS (As := [.int v1_2]) (rest := []) ⟨hx, hb, hml, hown, hts⟩ (c_bitCount l dC dI cI cJ cB cZ cT cN H.size v1_2 _ hc_6) (va_cwS 1 hts (tb_S tw_242 tw_196 tw_10 tw_197) rfl rfl rfl (by decide +kernel) ⟨Nat.le_of_ble_eq_true rfl, Nat.le_of_ble_eq_true rfl⟩) ⟨fun a U g mk q => by obtain ⟨q0, q1, qP, qK, qN, qD⟩ := q; exact ⟨q0, q1, qP, va_K.moved (u := U) (U := U.calling g mk a) (Vm.Alike.refl U.vm) qK, qN.same rfl, qD⟩, fun U hU hW => ⟨rfl, by rw [hU], by rw [hU]; exact hPc, va_K.moved hW.alike hK, hN.warm hW, hDc.weaken (fun _ _ _ _ => trivial)⟩⟩ rfl rfl hl.1 rfl (lv_room (Nat.le_of_ble_eq_true rfl)) d_St_markIndependent_14 ⟨Nat.zero_le _, Nat.zero_le _⟩) hS (fun q _ h => hFc q h) hFc (fun rr u t H1 locs ht hvm hw hB hz1 hk1 hS => ?_)
    replace hw := hw.symm
    subst hw
    obtain ⟨hP1, -, hD1⟩ := hB
    rw [ht] at hP1
    obtain ⟨hP, hD⟩ := va_join (wr := [(h_s, .inr (2, [.int s_columnCount, .int s_fullRank, .ref h_s_ranks, .ref h_s_signs, .ref h_s_members, .ref h_s_starts, .ref h_s_defects])), (h_s_ranks, .inl (cI, s_ranks_n, .inl w_3)), (h_s_signs, .inl (cI, s_signs_n, .inl s_signs))]) (w1 := []) hP hD [] [0, 1, 2] rfl rfl (by decide) (by decide) hk1 hFc hP1 hD1
    generalize H1 = H at hP hS ⊢
    have hP : va_P (dC, dI) cl_all [(h_s, .inr (2, [.int s_columnCount, .int s_fullRank, .ref h_s_ranks, .ref h_s_signs, .ref h_s_members, .ref h_s_starts, .ref h_s_defects])), (h_s_ranks, .inl (cI, s_ranks_n, .inl w_3)), (h_s_signs, .inl (cI, s_signs_n, .inl s_signs))] H := hP.sub [0, 1, 2] rfl
    have hD : va_D A [(h_s, .inr (2, [.int s_columnCount, .int s_fullRank, .ref h_s_ranks, .ref h_s_signs, .ref h_s_members, .ref h_s_starts, .ref h_s_defects])), (h_s_ranks, .inl (cI, s_ranks_n, .inl w_3)), (h_s_signs, .inl (cI, s_signs_n, .inl s_signs))] := hD.sub [0, 1, 2] (by decide) rfl
    refine lv_istore_n (lv' := [(2, .int r_5), (0, .ref h_s), (1, .int v1_2)]) hx hb d_St_markIndependent_17 rfl hl (by decide) rfl (fun ls hl => ?_)
    refine lv_iload_n hx hb d_St_markIndependent_18 rfl (lv_at hl 0 rfl) ?_
    refine lv_aload_n hx hb d_St_markIndependent_19 rfl (lv_at hl 1 rfl) ?_
    refine va_get (D := (dC, dI)) (ci := 2) (v := .int s_fullRank) (C := "BasisWalk$Study") (T := T_St) (N := 7) hx hb hts iw1 hown hK hP 0 rfl rfl 1 (by decide) fl2 (fun _ h9 => h9) rfl d_St_markIndependent_20 ?_
    refine ck_jn_W h (fun k' => ∀ (s0_7 : Int32), k' s0_7 = some r → ∀ (H : Heap) (locs : List Loc), va_P (dC, dI) cl_all [(h_s, .inr (2, [.int s_columnCount, .int s_fullRank, .ref h_s_ranks, .ref h_s_signs, .ref h_s_members, .ref h_s_starts, .ref h_s_defects])), (h_s_ranks, .inl (cI, s_ranks_n, .inl w_3)), (h_s_signs, .inl (cI, s_signs_n, .inl s_signs))] H → va_D A [(h_s, .inr (2, [.int s_columnCount, .int s_fullRank, .ref h_s_ranks, .ref h_s_signs, .ref h_s_members, .ref h_s_starts, .ref h_s_defects])), (h_s_ranks, .inl (cI, s_ranks_n, .inl w_3)), (h_s_signs, .inl (cI, s_signs_n, .inl s_signs))] → va_S A s.heap H locs → ∀ ls : Array Slot, lv_has ls 4 [(0, .ref h_s), (1, .int v1_2), (2, .int r_5)] → W p l e ({ frames := 1, cells := 0, slots := 0, locals := 23 } : Room) s m AR below meth c H locs 0 0 QQ (F0 m 64 ls [.int s0_7])) ?_ ?_
    · intro s0_7 h H locs hP hD hS ls hl
      refine lv_istore_n (lv' := [(3, .int s0_7), (0, .ref h_s), (1, .int v1_2), (2, .int r_5)]) hx hb d_St_markIndependent_64 rfl hl (by decide) rfl (fun ls hl => ?_)
      refine lv_aload_n hx hb d_St_markIndependent_65 rfl (lv_at hl 1 rfl) ?_
      refine va_get (D := (dC, dI)) (ci := 2) (v := .ref h_s_ranks) (C := "BasisWalk$Study") (T := T_St) (N := 7) hx hb hts iw1 hown hK hP 0 rfl rfl 2 (by decide) fl3 (fun _ h9 => h9) rfl d_St_markIndependent_66 ?_
      refine lv_iload_n hx hb d_St_markIndependent_69 rfl (lv_at hl 2 rfl) ?_
      refine lv_iload_n hx hb d_St_markIndependent_70 rfl (lv_at hl 0 rfl) ?_
      refine ck_jn_W h (fun k' => ∀ (s0_8 : Int32), k' s0_8 = some r → ∀ (H : Heap) (locs : List Loc), va_P (dC, dI) cl_all [(h_s, .inr (2, [.int s_columnCount, .int s_fullRank, .ref h_s_ranks, .ref h_s_signs, .ref h_s_members, .ref h_s_starts, .ref h_s_defects])), (h_s_ranks, .inl (cI, s_ranks_n, .inl w_3)), (h_s_signs, .inl (cI, s_signs_n, .inl s_signs))] H → va_D A [(h_s, .inr (2, [.int s_columnCount, .int s_fullRank, .ref h_s_ranks, .ref h_s_signs, .ref h_s_members, .ref h_s_starts, .ref h_s_defects])), (h_s_ranks, .inl (cI, s_ranks_n, .inl w_3)), (h_s_signs, .inl (cI, s_signs_n, .inl s_signs))] → va_S A s.heap H locs → ∀ ls : Array Slot, lv_has ls 4 [(0, .ref h_s), (1, .int v1_2)] → W p l e ({ frames := 1, cells := 0, slots := 0, locals := 23 } : Room) s m AR below meth c H locs 0 0 QQ (F0 m 79 ls [.int s0_8, .int v1_2, .ref h_s_ranks])) ?_ ?_
      · intro s0_8 h H locs hP hD hS ls hl
        obtain ⟨g_9, h⟩ := ck_in_s h
        refine va_iast hx hb hK hP hD hS 1 0 rfl rfl g_9 d_St_markIndependent_79 (fun H locs hP hD hS => ?_)
        have hP : va_P (dC, dI) cl_all [(h_s, .inr (2, [.int s_columnCount, .int s_fullRank, .ref h_s_ranks, .ref h_s_signs, .ref h_s_members, .ref h_s_starts, .ref h_s_defects])), (h_s_ranks, .inl (cI, s_ranks_n, .inl (upd w_3 v1_2.toNatClampNeg s0_8))), (h_s_signs, .inl (cI, s_signs_n, .inl s_signs))] H := hP
        have hD : va_D A [(h_s, .inr (2, [.int s_columnCount, .int s_fullRank, .ref h_s_ranks, .ref h_s_signs, .ref h_s_members, .ref h_s_starts, .ref h_s_defects])), (h_s_ranks, .inl (cI, s_ranks_n, .inl (upd w_3 v1_2.toNatClampNeg s0_8))), (h_s_signs, .inl (cI, s_signs_n, .inl s_signs))] := hD
        obtain ⟨x_10, ex_10⟩ : ∃ y : Int32, y = v1_2 + (-1) := ⟨_, rfl⟩
        replace h := ck_nm_s h ex_10
        refine lv_iinc (v := x_10) (lv' := [(1, .int x_10), (0, .ref h_s)]) hx hb d_St_markIndependent_80 hl (k := 1) rfl (by rw [ex_10]; rfl) (by decide) rfl (fun ls hl => ?_)
        refine lv_goto (tgt := 9) hx hb d_St_markIndependent_83 (by decide) ?_
        exact J_9 _ _ h _ _ hP hD hS _ (lv_sub hl [1, 0] rfl)
      · intro k_79 J_79 h
        refine lv_if_eq (tgt := 78) hx hb d_St_markIndependent_71 (by decide) (fun c_11 => ?_) (fun c_11 => ?_)
        · replace h := ck_if_t h c_11
          refine lv_iconst (v := (-1)) hx hb d_St_markIndependent_78 (by decide) ?_
          exact J_79 _ h _ _ hP hD hS _ (lv_sub hl [1, 2] rfl)
        · replace h := ck_if_f h c_11
          refine lv_iload_n hx hb d_St_markIndependent_74 rfl (lv_at hl 3 rfl) ?_
          refine lv_goto (tgt := 79) hx hb d_St_markIndependent_75 (by decide) ?_
          exact J_79 _ h _ _ hP hD hS _ (lv_sub hl [1, 2] rfl)
    · intro k_64 J_64 h
      refine lv_icmp_ne (tgt := 43) hx hb d_St_markIndependent_23 (by decide) (fun c_12 => ?_) (fun c_12 => ?_)
      · replace h := ck_if_f h c_12
        refine lv_iload_n hx hb d_St_markIndependent_43 rfl (lv_at hl 0 rfl) ?_
        refine lv_aload_n hx hb d_St_markIndependent_44 rfl (lv_at hl 1 rfl) ?_
        refine va_get (D := (dC, dI)) (ci := 2) (v := .int s_fullRank) (C := "BasisWalk$Study") (T := T_St) (N := 7) hx hb hts iw1 hown hK hP 0 rfl rfl 1 (by decide) fl2 (fun _ h9 => h9) rfl d_St_markIndependent_45 ?_
        refine ck_jn_W h (fun k' => ∀ u : Unit, k' u = some r → ∀ (H : Heap) (locs : List Loc), va_P (dC, dI) cl_all [(h_s, .inr (2, [.int s_columnCount, .int s_fullRank, .ref h_s_ranks, .ref h_s_signs, .ref h_s_members, .ref h_s_starts, .ref h_s_defects])), (h_s_ranks, .inl (cI, s_ranks_n, .inl w_3)), (h_s_signs, .inl (cI, s_signs_n, .inl s_signs))] H → va_D A [(h_s, .inr (2, [.int s_columnCount, .int s_fullRank, .ref h_s_ranks, .ref h_s_signs, .ref h_s_members, .ref h_s_starts, .ref h_s_defects])), (h_s_ranks, .inl (cI, s_ranks_n, .inl w_3)), (h_s_signs, .inl (cI, s_signs_n, .inl s_signs))] → va_S A s.heap H locs → ∀ ls : Array Slot, lv_has ls 4 [(0, .ref h_s), (1, .int v1_2), (2, .int r_5)] → W p l e ({ frames := 1, cells := 0, slots := 0, locals := 23 } : Room) s m AR below meth c H locs 0 0 QQ (F0 m 63 ls [])) ?_ ?_
        · intro _ h H locs hP hD hS ls hl
          refine lv_iconst (v := 0) hx hb d_St_markIndependent_63 (by decide) ?_
          exact J_64 _ h _ _ hP hD hS _ (lv_sub hl [0, 1, 2] rfl)
        · intro k_63 J_63 h
          refine lv_icmp_ge (tgt := 63) hx hb d_St_markIndependent_48 (by decide) (fun c_13 => ?_) (fun c_13 => ?_)
          · replace h := ck_if_t h c_13
            exact J_63 _ h _ _ hP hD hS _ (lv_sub hl [1, 2, 0] rfl)
          · replace h := ck_if_f h c_13
            refine lv_aload_n hx hb d_St_markIndependent_51 rfl (lv_at hl 1 rfl) ?_
            refine lv_iload_n hx hb d_St_markIndependent_52 rfl (lv_at hl 2 rfl) ?_
            obtain ⟨r_14, hc_15, h⟩ := ck_b1_s h
            have hPc := hP.sub (ws' := [(h_s, .inr (2, [.int s_columnCount, .int s_fullRank, .ref h_s_ranks, .ref h_s_signs, .ref h_s_members, .ref h_s_starts, .ref h_s_defects])), (h_s_ranks, .inl (cI, s_ranks_n, .inl w_3))]) [0, 1] rfl
            have hDc := hD.sub (ws' := [(h_s, .inr (2, [.int s_columnCount, .int s_fullRank, .ref h_s_ranks, .ref h_s_signs, .ref h_s_members, .ref h_s_starts, .ref h_s_defects])), (h_s_ranks, .inl (cI, s_ranks_n, .inl w_3))]) [0, 1] (by decide) rfl
            have hFc := va_free (wc := [(h_s, .inr (2, [.int s_columnCount, .int s_fullRank, .ref h_s_ranks, .ref h_s_signs, .ref h_s_members, .ref h_s_starts, .ref h_s_defects])), (h_s_ranks, .inl (cI, s_ranks_n, .inl w_3))]) hD hS hA [0, 1] rfl
            refine va_calli (va_runV (As := [.int v1_2]) (rest := []) ⟨hx, hb, hml, hown, hts⟩ (c_S_hasIndependentAbove l dC dI cI cJ cB cZ cT cN H.size h_s h_s_ranks h_s_signs h_s_members h_s_starts h_s_defects s_columnCount s_fullRank s_ranks_n w_3 v1_2 _ hc_15) (cwV 1 hts (tb_V tw_243 tw_245 tp_7 tw_3 tw_246) rfl rfl rfl (by decide +kernel) ⟨Nat.le_of_ble_eq_true rfl, Nat.le_of_ble_eq_true rfl⟩) ⟨fun a U g mk q => by obtain ⟨q0, q1, qP, qK, qN, qD⟩ := q; exact ⟨q0, q1, qP, va_K.moved (u := U) (U := U.calling g mk a) (Vm.Alike.refl U.vm) qK, qN.same rfl, qD⟩, va_recv hK hPc (ci := 2) (q0 := 0) rfl rfl, fun U hU hW => ⟨rfl, by rw [hU], by rw [hU]; exact hPc, va_K.moved hW.alike hK, hN.warm hW, hDc.weaken (fun _ _ _ _ => trivial)⟩⟩ rfl rfl hl.1 rfl (lv_room (Nat.le_of_ble_eq_true rfl)) d_St_markIndependent_53 ⟨Nat.zero_le _, Nat.zero_le _⟩) hS (fun q _ h => hFc q h) hFc (fun rr u t H1 locs ht hvm hw hB hz1 hk1 hS => ?_)
            replace hw := hw.symm
            subst hw
            obtain ⟨hP1, -, hD1⟩ := hB
            rw [ht] at hP1
            obtain ⟨hP, hD⟩ := va_join (wr := [(h_s_signs, .inl (cI, s_signs_n, .inl s_signs))]) (w1 := [(h_s, .inr (2, [.int s_columnCount, .int s_fullRank, .ref h_s_ranks, .ref h_s_signs, .ref h_s_members, .ref h_s_starts, .ref h_s_defects])), (h_s_ranks, .inl (cI, s_ranks_n, .inl w_3))]) hP hD [0, 1] [2] rfl rfl (by decide) (by decide) hk1 hFc hP1 hD1
            generalize H1 = H at hP hS ⊢
            have hP : va_P (dC, dI) cl_all [(h_s, .inr (2, [.int s_columnCount, .int s_fullRank, .ref h_s_ranks, .ref h_s_signs, .ref h_s_members, .ref h_s_starts, .ref h_s_defects])), (h_s_ranks, .inl (cI, s_ranks_n, .inl w_3)), (h_s_signs, .inl (cI, s_signs_n, .inl s_signs))] H := hP.sub [1, 2, 0] rfl
            have hD : va_D A [(h_s, .inr (2, [.int s_columnCount, .int s_fullRank, .ref h_s_ranks, .ref h_s_signs, .ref h_s_members, .ref h_s_starts, .ref h_s_defects])), (h_s_ranks, .inl (cI, s_ranks_n, .inl w_3)), (h_s_signs, .inl (cI, s_signs_n, .inl s_signs))] := hD.sub [1, 2, 0] (by decide) rfl
            refine lv_if_eq (tgt := 63) hx hb d_St_markIndependent_56 (by decide) (fun c_16 => ?_) (fun c_16 => ?_)
            · replace h := ck_if_t h c_16
              exact J_63 _ h _ _ hP hD hS _ (lv_sub hl [1, 2, 0] rfl)
            · replace h := ck_if_f h c_16
              refine lv_iconst (v := 1) hx hb d_St_markIndependent_59 (by decide) ?_
              refine lv_goto (tgt := 64) hx hb d_St_markIndependent_60 (by decide) ?_
              exact J_64 _ h _ _ hP hD hS _ (lv_sub hl [1, 2, 0] rfl)
      · replace h := ck_if_t h c_12
        refine lv_aload_n hx hb d_St_markIndependent_26 rfl (lv_at hl 1 rfl) ?_
        refine va_get (D := (dC, dI)) (ci := 2) (v := .ref h_s_signs) (C := "BasisWalk$Study") (T := T_St) (N := 7) hx hb hts iw1 hown hK hP 0 rfl rfl 3 (by decide) fl4 (fun _ h9 => h9) rfl d_St_markIndependent_27 ?_
        refine lv_iload_n hx hb d_St_markIndependent_30 rfl (lv_at hl 2 rfl) ?_
        obtain ⟨g_17, h⟩ := ck_in_s h
        refine va_iald hx hb hK hP 2 0 rfl rfl g_17 d_St_markIndependent_31 ?_
        refine lv_if_eq (tgt := 39) hx hb d_St_markIndependent_32 (by decide) (fun c_18 => ?_) (fun c_18 => ?_)
        · replace h := ck_if_t h c_18
          refine lv_iconst (v := 0) hx hb d_St_markIndependent_39 (by decide) ?_
          refine lv_goto (tgt := 64) hx hb d_St_markIndependent_40 (by decide) ?_
          exact J_64 _ h _ _ hP hD hS _ (lv_sub hl [1, 2, 0] rfl)
        · replace h := ck_if_f h c_18
          refine lv_iconst (v := 1) hx hb d_St_markIndependent_35 (by decide) ?_
          refine lv_goto (tgt := 64) hx hb d_St_markIndependent_36 (by decide) ?_
          exact J_64 _ h _ _ hP hD hS _ (lv_sub hl [1, 2, 0] rfl)
theorem d_St_learnRanks_0 : decode prog_4_method_12_code 0 = .ok (.iconst 1, 1) := by decide +kernel
theorem d_St_learnRanks_1 : decode prog_4_method_12_code 1 = .ok (.istore_n 1, 1) := by decide +kernel
theorem d_St_learnRanks_2 : decode prog_4_method_12_code 2 = .ok (.iload_n 1, 1) := by decide +kernel
theorem d_St_learnRanks_3 : decode prog_4_method_12_code 3 = .ok (.iconst 1, 1) := by decide +kernel
theorem d_St_learnRanks_4 : decode prog_4_method_12_code 4 = .ok (.aload_n 0, 1) := by decide +kernel
theorem d_St_learnRanks_5 : decode prog_4_method_12_code 5 = .ok (.getfield 33, 3) := by decide +kernel
theorem d_St_learnRanks_8 : decode prog_4_method_12_code 8 = .ok (.ishl, 1) := by decide +kernel
theorem d_St_learnRanks_9 : decode prog_4_method_12_code 9 = .ok (.if_icmp .ge 30, 3) := by decide +kernel
theorem d_St_learnRanks_12 : decode prog_4_method_12_code 12 = .ok (.aload_n 0, 1) := by decide +kernel
theorem d_St_learnRanks_13 : decode prog_4_method_12_code 13 = .ok (.getfield 9, 3) := by decide +kernel
theorem d_St_learnRanks_16 : decode prog_4_method_12_code 16 = .ok (.iload_n 1, 1) := by decide +kernel
theorem d_St_learnRanks_17 : decode prog_4_method_12_code 17 = .ok (.iaload, 1) := by decide +kernel
theorem d_St_learnRanks_18 : decode prog_4_method_12_code 18 = .ok (.iconst (-1), 1) := by decide +kernel
theorem d_St_learnRanks_19 : decode prog_4_method_12_code 19 = .ok (.if_icmp .ne 14, 3) := by decide +kernel
theorem d_St_learnRanks_22 : decode prog_4_method_12_code 22 = .ok (.aload_n 0, 1) := by decide +kernel
theorem d_St_learnRanks_23 : decode prog_4_method_12_code 23 = .ok (.getfield 9, 3) := by decide +kernel
theorem d_St_learnRanks_26 : decode prog_4_method_12_code 26 = .ok (.iload_n 1, 1) := by decide +kernel
theorem d_St_learnRanks_27 : decode prog_4_method_12_code 27 = .ok (.aload_n 0, 1) := by decide +kernel
theorem d_St_learnRanks_28 : decode prog_4_method_12_code 28 = .ok (.iload_n 1, 1) := by decide +kernel
theorem d_St_learnRanks_29 : decode prog_4_method_12_code 29 = .ok (.invokevirtual 99, 3) := by decide +kernel
theorem d_St_learnRanks_32 : decode prog_4_method_12_code 32 = .ok (.iastore, 1) := by decide +kernel
theorem d_St_learnRanks_33 : decode prog_4_method_12_code 33 = .ok (.iinc 1 1, 3) := by decide +kernel
theorem d_St_learnRanks_36 : decode prog_4_method_12_code 36 = .ok (.goto (-34), 3) := by decide +kernel
theorem d_St_learnRanks_39 : decode prog_4_method_12_code 39 = .ok (.return_, 1) := by decide +kernel
def f_S_learnRanks (s_columnCount : Int32) (s_ranks_n : Nat) (s_ranks : Nat → Int32) : Option ((Nat → Int32)) :=
  lo2 (fun k_2 (v1_1 : Int32) (w_2 : Nat → Int32) => ck_if (((1 : Int32) <<< (s_columnCount &&& 31)) ≤ v1_1) (some w_2) (ck_in v1_1 s_ranks_n <| ck_jn (fun (w_5 : Nat → Int32) => ck_nm (v1_1 + 1) <| fun x_6 => k_2 x_6 w_5) <| fun k_33 => ck_if ((w_2 v1_1.toNatClampNeg) = (-1)) (ck_b1 (f_S_greatestRankUnder s_columnCount s_ranks_n w_2 v1_1) <| fun r_8 => ck_in v1_1 s_ranks_n <| k_33 (upd w_2 v1_1.toNatClampNeg r_8)) (k_33 w_2))) ck_F 1 s_ranks
set_option maxHeartbeats 4000000 in
set_option maxRecDepth 100000 in
theorem c_S_learnRanks (l : Launch) (dC : Nat → ClassId) (dI : Nat → Nat → Nat) (cI cJ cB cZ cT cN : ClassId) (sz : Nat) (h_s : Nat) (h_s_ranks : Nat) (h_s_signs : Nat) (h_s_members : Nat) (h_s_starts : Nat) (h_s_defects : Nat) (s_columnCount : Int32) (s_fullRank : Int32) (s_ranks_n : Nat) (s_ranks : Nat → Int32) (r : (Nat → Int32)) (h : f_S_learnRanks s_columnCount s_ranks_n s_ranks = some r) : Met l y_St_learnRanks w_St_learnRanks ({ frames := 1, cells := 0, slots := 0, locals := 24 } : Room) (va_Pc [.ref h_s] (fun U => U.heap.size = sz ∧ va_P (dC, dI) cl_all [(h_s, .inr (2, [.int s_columnCount, .int s_fullRank, .ref h_s_ranks, .ref h_s_signs, .ref h_s_members, .ref h_s_starts, .ref h_s_defects])), (h_s_ranks, .inl (cI, s_ranks_n, .inl s_ranks))] U.heap ∧ va_K (dC, dI) cl_all [(cI, .int), (cJ, .long), (cB, .byte), (cZ, .boolean), (cT, .object "BasisWalk$Table"), (cN, .object "BasisWalkModel$Num")] U ∧ NW U ∧ va_D (fun _ => True) [(h_s, .inr (2, [.int s_columnCount, .int s_fullRank, .ref h_s_ranks, .ref h_s_signs, .ref h_s_members, .ref h_s_starts, .ref h_s_defects])), (h_s_ranks, .inl (cI, s_ranks_n, .inl s_ranks))])) (va_Qv (fun u : (Nat → Int32) => u = r) (fun (u : (Nat → Int32)) (t : State) => va_P (dC, dI) cl_all [(h_s, .inr (2, [.int s_columnCount, .int s_fullRank, .ref h_s_ranks, .ref h_s_signs, .ref h_s_members, .ref h_s_starts, .ref h_s_defects])), (h_s_ranks, .inl (cI, s_ranks_n, .inl u))] t.heap ∧ va_K (dC, dI) cl_all [(cI, .int), (cJ, .long), (cB, .byte), (cZ, .boolean), (cT, .object "BasisWalk$Table"), (cN, .object "BasisWalkModel$Num")] t ∧ va_D (va_A [(h_s, .inr (2, [.int s_columnCount, .int s_fullRank, .ref h_s_ranks, .ref h_s_signs, .ref h_s_members, .ref h_s_starts, .ref h_s_defects])), (h_s_ranks, .inl (cI, s_ranks_n, .inl s_ranks))] sz) [(h_s, .inr (2, [.int s_columnCount, .int s_fullRank, .ref h_s_ranks, .ref h_s_signs, .ref h_s_members, .ref h_s_starts, .ref h_s_defects])), (h_s_ranks, .inl (cI, s_ranks_n, .inl u))]) (va_A [(h_s, .inr (2, [.int s_columnCount, .int s_fullRank, .ref h_s_ranks, .ref h_s_signs, .ref h_s_members, .ref h_s_starts, .ref h_s_defects])), (h_s_ranks, .inl (cI, s_ranks_n, .inl s_ranks))] sz)) 0 0 (va_A [(h_s, .inr (2, [.int s_columnCount, .int s_fullRank, .ref h_s_ranks, .ref h_s_signs, .ref h_s_members, .ref h_s_starts, .ref h_s_defects])), (h_s_ranks, .inl (cI, s_ranks_n, .inl s_ranks))] sz) := by
  refine Met.ofW (cc := prog_4_method_12_code) (maxL := 2) (ret := (Option.none : Option Jvm.ClassFile.FieldType)) (by decide) rfl ?_
  intro p e s m args below meth c s₁ B hml hv
  obtain ⟨hAR, hsz, hP, hK, hN, hD0⟩ := hv
  have hx := B.exec
  have hb := B.bytes
  have hr := B.returns
  have hts := atoms_spec (ws := w_St_learnRanks) B.pre
  have hown : s.vm.findClass "BasisWalk$Study" = some m.cls := findClass_of_methodNamed B.named
  have hlocks := B.notSynchronized
  clear B
  subst hsz
  have hD := hD0.self (sz := s.heap.size)
  generalize hAe : va_A [(h_s, .inr (2, [.int s_columnCount, .int s_fullRank, .ref h_s_ranks, .ref h_s_signs, .ref h_s_members, .ref h_s_starts, .ref h_s_defects])), (h_s_ranks, .inl (cI, s_ranks_n, .inl s_ranks))] s.heap.size = A at hD ⊢
  have hA : ∀ q : Nat, s.heap.size ≤ q → A q := fun q h => by rw [← hAe]; exact Or.inr h
  clear hAe hD0
  have hS : va_S A s.heap s.heap [] := va_S.rf
  have hl := lv_entry ([.ref h_s]) (n := 2) (Nat.le_of_ble_eq_true rfl)
  subst hAR
  rw [lg_entry_eq]
  generalize (lg_sl ([.ref h_s]) ++ List.replicate (2 - (lg_sl ([.ref h_s])).length) Slot.unset).toArray = ls at hl ⊢
  have hl : lv_has ls 2 [(0, .ref h_s)] := hl
  change W p l e ({ frames := 1, cells := 0, slots := 0, locals := 24 } : Room) s m _ below meth c s.heap [] 0 0 _ _
  generalize hARe : ([.ref h_s] : List Value).toArray = AR at hts ⊢
  clear hARe
  generalize hQ : MQ below _ AR s 0 0 A = QQ
  have fl0 := hts _ (List.mem_cons_of_mem _ tw_32)
  have iw1 := (fun w hw => List.mem_cons_of_mem _ (in_St w hw) : ∀ w ∈ u_ws "BasisWalk$Study" T_St 7, w ∈ w_St_learnRanks)
  have fl2 := hts _ (List.mem_cons_of_mem _ tw_35)
  obtain ⟨H, hHe⟩ : ∃ H : Heap, H = s.heap := ⟨_, rfl⟩
  rw [← hHe] at hP ⊢
  replace hS : va_S A s.heap H [] := by rw [hHe]; exact va_S.rf
  clear hHe
  unfold f_S_learnRanks at h
  refine lv_iconst (v := 1) hx hb d_St_learnRanks_0 (by decide) ?_
  refine lv_istore_n (lv' := [(1, .int 1), (0, .ref h_s)]) hx hb d_St_learnRanks_1 rfl hl (by decide) rfl (fun ls hl => ?_)
  refine lo2_W (r := r) (fun (v1_1 : Int32) (w_2 : Nat → Int32) => ∀ (H : Heap) (locs : List Loc), va_P (dC, dI) cl_all [(h_s, .inr (2, [.int s_columnCount, .int s_fullRank, .ref h_s_ranks, .ref h_s_signs, .ref h_s_members, .ref h_s_starts, .ref h_s_defects])), (h_s_ranks, .inl (cI, s_ranks_n, .inl w_2))] H → va_D A [(h_s, .inr (2, [.int s_columnCount, .int s_fullRank, .ref h_s_ranks, .ref h_s_signs, .ref h_s_members, .ref h_s_starts, .ref h_s_defects])), (h_s_ranks, .inl (cI, s_ranks_n, .inl w_2))] → va_S A s.heap H locs → ∀ ls : Array Slot, lv_has ls 2 [(0, .ref h_s), (1, .int v1_1)] → W p l e ({ frames := 1, cells := 0, slots := 0, locals := 24 } : Room) s m AR below meth c H locs 0 0 QQ (F0 m 2 ls [])) ?_ _ _ _ h _ _ hP hD hS _ (lv_sub hl [1, 0] rfl)
  intro k_2 v1_1 w_2 J_2 h H locs hP hD hS ls hl
  refine lv_iload_n hx hb d_St_learnRanks_2 rfl (lv_at hl 1 rfl) ?_
  refine lv_iconst (v := 1) hx hb d_St_learnRanks_3 (by decide) ?_
  refine lv_aload_n hx hb d_St_learnRanks_4 rfl (lv_at hl 0 rfl) ?_
  refine va_get (D := (dC, dI)) (ci := 2) (v := .int s_columnCount) (C := "BasisWalk$Study") (T := T_St) (N := 7) hx hb hts iw1 hown hK hP 0 rfl rfl 0 (by decide) fl0 (fun _ h9 => h9) rfl d_St_learnRanks_5 ?_
  refine lv_ishl hx hb d_St_learnRanks_8 ?_
  refine lv_icmp_ge (tgt := 39) hx hb d_St_learnRanks_9 (by decide) (fun c_3 => ?_) (fun c_3 => ?_)
  · replace h := ck_if_t h c_3
    obtain rfl := Option.some.inj h
    subst hQ
    exact W.vret hx hb hr (fun t ht hW => ⟨⟨w_2, rfl, rfl, by rw [ht]; exact hP, va_K.moved hW.alike hK, hD⟩, hS.F ht⟩) hS.2.2 d_St_learnRanks_39
  · replace h := ck_if_f h c_3
    refine lv_aload_n hx hb d_St_learnRanks_12 rfl (lv_at hl 0 rfl) ?_
    refine va_get (D := (dC, dI)) (ci := 2) (v := .ref h_s_ranks) (C := "BasisWalk$Study") (T := T_St) (N := 7) hx hb hts iw1 hown hK hP 0 rfl rfl 2 (by decide) fl2 (fun _ h9 => h9) rfl d_St_learnRanks_13 ?_
    refine lv_iload_n hx hb d_St_learnRanks_16 rfl (lv_at hl 1 rfl) ?_
    obtain ⟨g_4, h⟩ := ck_in_s h
    refine va_iald hx hb hK hP 1 0 rfl rfl g_4 d_St_learnRanks_17 ?_
    refine lv_iconst (v := (-1)) hx hb d_St_learnRanks_18 (by decide) ?_
    refine ck_jn_W h (fun k' => ∀ (w_5 : Nat → Int32), k' w_5 = some r → ∀ (H : Heap) (locs : List Loc), va_P (dC, dI) cl_all [(h_s, .inr (2, [.int s_columnCount, .int s_fullRank, .ref h_s_ranks, .ref h_s_signs, .ref h_s_members, .ref h_s_starts, .ref h_s_defects])), (h_s_ranks, .inl (cI, s_ranks_n, .inl w_5))] H → va_D A [(h_s, .inr (2, [.int s_columnCount, .int s_fullRank, .ref h_s_ranks, .ref h_s_signs, .ref h_s_members, .ref h_s_starts, .ref h_s_defects])), (h_s_ranks, .inl (cI, s_ranks_n, .inl w_5))] → va_S A s.heap H locs → ∀ ls : Array Slot, lv_has ls 2 [(0, .ref h_s), (1, .int v1_1)] → W p l e ({ frames := 1, cells := 0, slots := 0, locals := 24 } : Room) s m AR below meth c H locs 0 0 QQ (F0 m 33 ls [])) ?_ ?_
    · intro w_5 h H locs hP hD hS ls hl
      obtain ⟨x_6, ex_6⟩ : ∃ y : Int32, y = v1_1 + 1 := ⟨_, rfl⟩
      replace h := ck_nm_s h ex_6
      refine lv_iinc (v := x_6) (lv' := [(1, .int x_6), (0, .ref h_s)]) hx hb d_St_learnRanks_33 hl (k := 1) rfl (by rw [ex_6]; rfl) (by decide) rfl (fun ls hl => ?_)
      refine lv_goto (tgt := 2) hx hb d_St_learnRanks_36 (by decide) ?_
      exact J_2 _ _ h _ _ hP hD hS _ (lv_sub hl [1, 0] rfl)
    · intro k_33 J_33 h
      refine lv_icmp_ne (tgt := 33) hx hb d_St_learnRanks_19 (by decide) (fun c_7 => ?_) (fun c_7 => ?_)
      · replace h := ck_if_f h c_7
        exact J_33 _ h _ _ hP hD hS _ (lv_sub hl [0, 1] rfl)
      · replace h := ck_if_t h c_7
        refine lv_aload_n hx hb d_St_learnRanks_22 rfl (lv_at hl 0 rfl) ?_
        refine va_get (D := (dC, dI)) (ci := 2) (v := .ref h_s_ranks) (C := "BasisWalk$Study") (T := T_St) (N := 7) hx hb hts iw1 hown hK hP 0 rfl rfl 2 (by decide) fl2 (fun _ h9 => h9) rfl d_St_learnRanks_23 ?_
        refine lv_iload_n hx hb d_St_learnRanks_26 rfl (lv_at hl 1 rfl) ?_
        refine lv_aload_n hx hb d_St_learnRanks_27 rfl (lv_at hl 0 rfl) ?_
        refine lv_iload_n hx hb d_St_learnRanks_28 rfl (lv_at hl 1 rfl) ?_
        obtain ⟨r_8, hc_9, h⟩ := ck_b1_s h
        have hPc := hP.sub (ws' := [(h_s, .inr (2, [.int s_columnCount, .int s_fullRank, .ref h_s_ranks, .ref h_s_signs, .ref h_s_members, .ref h_s_starts, .ref h_s_defects])), (h_s_ranks, .inl (cI, s_ranks_n, .inl w_2))]) [0, 1] rfl
        have hDc := hD.sub (ws' := [(h_s, .inr (2, [.int s_columnCount, .int s_fullRank, .ref h_s_ranks, .ref h_s_signs, .ref h_s_members, .ref h_s_starts, .ref h_s_defects])), (h_s_ranks, .inl (cI, s_ranks_n, .inl w_2))]) [0, 1] (by decide) rfl
        have hFc := va_free (wc := [(h_s, .inr (2, [.int s_columnCount, .int s_fullRank, .ref h_s_ranks, .ref h_s_signs, .ref h_s_members, .ref h_s_starts, .ref h_s_defects])), (h_s_ranks, .inl (cI, s_ranks_n, .inl w_2))]) hD hS hA [0, 1] rfl
        refine va_calli (va_runV (As := [.int v1_1]) (rest := [.int v1_1, .ref h_s_ranks]) ⟨hx, hb, hml, hown, hts⟩ (c_S_greatestRankUnder l dC dI cI cJ cB cZ cT cN H.size h_s h_s_ranks h_s_signs h_s_members h_s_starts h_s_defects s_columnCount s_fullRank s_ranks_n w_2 v1_1 _ hc_9) (cwV 1 hts (tb_V tw_251 tw_253 tp_9 tw_3 tw_254) rfl rfl rfl (by decide +kernel) ⟨Nat.le_of_ble_eq_true rfl, Nat.le_of_ble_eq_true rfl⟩) ⟨fun a U g mk q => by obtain ⟨q0, q1, qP, qK, qN, qD⟩ := q; exact ⟨q0, q1, qP, va_K.moved (u := U) (U := U.calling g mk a) (Vm.Alike.refl U.vm) qK, qN.same rfl, qD⟩, va_recv hK hPc (ci := 2) (q0 := 0) rfl rfl, fun U hU hW => ⟨rfl, by rw [hU], by rw [hU]; exact hPc, va_K.moved hW.alike hK, hN.warm hW, hDc.weaken (fun _ _ _ _ => trivial)⟩⟩ rfl rfl hl.1 rfl (lv_room (Nat.le_of_ble_eq_true rfl)) d_St_learnRanks_29 ⟨Nat.zero_le _, Nat.zero_le _⟩) hS (fun q _ h => hFc q h) hFc (fun rr u t H1 locs ht hvm hw hB hz1 hk1 hS => ?_)
        replace hw := hw.symm
        subst hw
        obtain ⟨hP1, -, hD1⟩ := hB
        rw [ht] at hP1
        obtain ⟨hP, hD⟩ := va_join (wr := []) (w1 := [(h_s, .inr (2, [.int s_columnCount, .int s_fullRank, .ref h_s_ranks, .ref h_s_signs, .ref h_s_members, .ref h_s_starts, .ref h_s_defects])), (h_s_ranks, .inl (cI, s_ranks_n, .inl w_2))]) hP hD [0, 1] [] rfl rfl (by decide) (by decide) hk1 hFc hP1 hD1
        generalize H1 = H at hP hS ⊢
        have hP : va_P (dC, dI) cl_all [(h_s, .inr (2, [.int s_columnCount, .int s_fullRank, .ref h_s_ranks, .ref h_s_signs, .ref h_s_members, .ref h_s_starts, .ref h_s_defects])), (h_s_ranks, .inl (cI, s_ranks_n, .inl w_2))] H := hP.sub [0, 1] rfl
        have hD : va_D A [(h_s, .inr (2, [.int s_columnCount, .int s_fullRank, .ref h_s_ranks, .ref h_s_signs, .ref h_s_members, .ref h_s_starts, .ref h_s_defects])), (h_s_ranks, .inl (cI, s_ranks_n, .inl w_2))] := hD.sub [0, 1] (by decide) rfl
        obtain ⟨g_10, h⟩ := ck_in_s h
        refine va_iast hx hb hK hP hD hS 1 0 rfl rfl g_10 d_St_learnRanks_32 (fun H locs hP hD hS => ?_)
        have hP : va_P (dC, dI) cl_all [(h_s, .inr (2, [.int s_columnCount, .int s_fullRank, .ref h_s_ranks, .ref h_s_signs, .ref h_s_members, .ref h_s_starts, .ref h_s_defects])), (h_s_ranks, .inl (cI, s_ranks_n, .inl (upd w_2 v1_1.toNatClampNeg r_8)))] H := hP
        have hD : va_D A [(h_s, .inr (2, [.int s_columnCount, .int s_fullRank, .ref h_s_ranks, .ref h_s_signs, .ref h_s_members, .ref h_s_starts, .ref h_s_defects])), (h_s_ranks, .inl (cI, s_ranks_n, .inl (upd w_2 v1_1.toNatClampNeg r_8)))] := hD
        exact J_33 _ h _ _ hP hD hS _ (lv_sub hl [0, 1] rfl)
theorem d_St_learnDefects_0 : decode prog_4_method_14_code 0 = .ok (.aload_n 0, 1) := by decide +kernel
theorem d_St_learnDefects_1 : decode prog_4_method_14_code 1 = .ok (.getfield 24, 3) := by decide +kernel
theorem d_St_learnDefects_4 : decode prog_4_method_14_code 4 = .ok (.iconst 0, 1) := by decide +kernel
theorem d_St_learnDefects_5 : decode prog_4_method_14_code 5 = .ok (.invokestatic 102, 3) := by decide +kernel
theorem d_St_learnDefects_8 : decode prog_4_method_14_code 8 = .ok (.iconst 0, 1) := by decide +kernel
theorem d_St_learnDefects_9 : decode prog_4_method_14_code 9 = .ok (.istore_n 1, 1) := by decide +kernel
theorem d_St_learnDefects_10 : decode prog_4_method_14_code 10 = .ok (.iload_n 1, 1) := by decide +kernel
theorem d_St_learnDefects_11 : decode prog_4_method_14_code 11 = .ok (.iconst 1, 1) := by decide +kernel
theorem d_St_learnDefects_12 : decode prog_4_method_14_code 12 = .ok (.aload_n 0, 1) := by decide +kernel
theorem d_St_learnDefects_13 : decode prog_4_method_14_code 13 = .ok (.getfield 33, 3) := by decide +kernel
theorem d_St_learnDefects_16 : decode prog_4_method_14_code 16 = .ok (.ishl, 1) := by decide +kernel
theorem d_St_learnDefects_17 : decode prog_4_method_14_code 17 = .ok (.if_icmp .ge 48, 3) := by decide +kernel
theorem d_St_learnDefects_20 : decode prog_4_method_14_code 20 = .ok (.aload_n 0, 1) := by decide +kernel
theorem d_St_learnDefects_21 : decode prog_4_method_14_code 21 = .ok (.getfield 38, 3) := by decide +kernel
theorem d_St_learnDefects_24 : decode prog_4_method_14_code 24 = .ok (.aload_n 0, 1) := by decide +kernel
theorem d_St_learnDefects_25 : decode prog_4_method_14_code 25 = .ok (.getfield 9, 3) := by decide +kernel
theorem d_St_learnDefects_28 : decode prog_4_method_14_code 28 = .ok (.iload_n 1, 1) := by decide +kernel
theorem d_St_learnDefects_29 : decode prog_4_method_14_code 29 = .ok (.iaload, 1) := by decide +kernel
theorem d_St_learnDefects_30 : decode prog_4_method_14_code 30 = .ok (.isub, 1) := by decide +kernel
theorem d_St_learnDefects_31 : decode prog_4_method_14_code 31 = .ok (.istore_n 2, 1) := by decide +kernel
theorem d_St_learnDefects_32 : decode prog_4_method_14_code 32 = .ok (.iload_n 1, 1) := by decide +kernel
theorem d_St_learnDefects_33 : decode prog_4_method_14_code 33 = .ok (.invokestatic 90, 3) := by decide +kernel
theorem d_St_learnDefects_36 : decode prog_4_method_14_code 36 = .ok (.aload_n 0, 1) := by decide +kernel
theorem d_St_learnDefects_37 : decode prog_4_method_14_code 37 = .ok (.getfield 9, 3) := by decide +kernel
theorem d_St_learnDefects_40 : decode prog_4_method_14_code 40 = .ok (.iload_n 1, 1) := by decide +kernel
theorem d_St_learnDefects_41 : decode prog_4_method_14_code 41 = .ok (.iaload, 1) := by decide +kernel
theorem d_St_learnDefects_42 : decode prog_4_method_14_code 42 = .ok (.isub, 1) := by decide +kernel
theorem d_St_learnDefects_43 : decode prog_4_method_14_code 43 = .ok (.istore_n 3, 1) := by decide +kernel
theorem d_St_learnDefects_44 : decode prog_4_method_14_code 44 = .ok (.aload_n 0, 1) := by decide +kernel
theorem d_St_learnDefects_45 : decode prog_4_method_14_code 45 = .ok (.getfield 24, 3) := by decide +kernel
theorem d_St_learnDefects_48 : decode prog_4_method_14_code 48 = .ok (.iload_n 2, 1) := by decide +kernel
theorem d_St_learnDefects_49 : decode prog_4_method_14_code 49 = .ok (.bipush 13, 2) := by decide +kernel
theorem d_St_learnDefects_51 : decode prog_4_method_14_code 51 = .ok (.imul, 1) := by decide +kernel
theorem d_St_learnDefects_52 : decode prog_4_method_14_code 52 = .ok (.iload_n 3, 1) := by decide +kernel
theorem d_St_learnDefects_53 : decode prog_4_method_14_code 53 = .ok (.iadd, 1) := by decide +kernel
theorem d_St_learnDefects_54 : decode prog_4_method_14_code 54 = .ok (.dup2, 1) := by decide +kernel
theorem d_St_learnDefects_55 : decode prog_4_method_14_code 55 = .ok (.iaload, 1) := by decide +kernel
theorem d_St_learnDefects_56 : decode prog_4_method_14_code 56 = .ok (.iconst 1, 1) := by decide +kernel
theorem d_St_learnDefects_57 : decode prog_4_method_14_code 57 = .ok (.iadd, 1) := by decide +kernel
theorem d_St_learnDefects_58 : decode prog_4_method_14_code 58 = .ok (.iastore, 1) := by decide +kernel
theorem d_St_learnDefects_59 : decode prog_4_method_14_code 59 = .ok (.iinc 1 1, 3) := by decide +kernel
theorem d_St_learnDefects_62 : decode prog_4_method_14_code 62 = .ok (.goto (-52), 3) := by decide +kernel
theorem d_St_learnDefects_65 : decode prog_4_method_14_code 65 = .ok (.return_, 1) := by decide +kernel
def f_S_learnDefects (s_columnCount : Int32) (s_fullRank : Int32) (s_ranks_n : Nat) (s_ranks : Nat → Int32) (s_defects_n : Nat) (s_defects : Nat → Int32) : Option ((Nat → Int32)) :=
  ck_b1 (f_fillI s_defects_n s_defects 0) <| fun u_1 => lo2 (fun k_10 (v1_3 : Int32) (w_4 : Nat → Int32) => ck_if (((1 : Int32) <<< (s_columnCount &&& 31)) ≤ v1_3) (some w_4) (ck_in v1_3 s_ranks_n <| ck_nm (s_fullRank - (s_ranks v1_3.toNatClampNeg)) <| fun x_7 => ck_b1 (f_bitCount v1_3) <| fun r_8 => ck_in v1_3 s_ranks_n <| ck_nm (r_8 - (s_ranks v1_3.toNatClampNeg)) <| fun x_11 => ck_in ((x_7 * 13) + x_11) s_defects_n <| ck_in ((x_7 * 13) + x_11) s_defects_n <| ck_nm (v1_3 + 1) <| fun x_14 => k_10 x_14 (upd w_4 ((x_7 * 13) + x_11).toNatClampNeg ((w_4 ((x_7 * 13) + x_11).toNatClampNeg) + 1)))) ck_F 0 u_1
set_option maxHeartbeats 4000000 in
set_option maxRecDepth 100000 in
theorem c_S_learnDefects (l : Launch) (dC : Nat → ClassId) (dI : Nat → Nat → Nat) (cI cJ cB cZ cT cN : ClassId) (sz : Nat) (h_s : Nat) (h_s_ranks : Nat) (h_s_signs : Nat) (h_s_members : Nat) (h_s_starts : Nat) (h_s_defects : Nat) (s_columnCount : Int32) (s_fullRank : Int32) (s_ranks_n : Nat) (s_ranks : Nat → Int32) (s_defects_n : Nat) (s_defects : Nat → Int32) (r : (Nat → Int32)) (h : f_S_learnDefects s_columnCount s_fullRank s_ranks_n s_ranks s_defects_n s_defects = some r) : Met l y_St_learnDefects w_St_learnDefects ({ frames := 1, cells := 0, slots := 0, locals := 23 } : Room) (va_Pc [.ref h_s] (fun U => U.heap.size = sz ∧ va_P (dC, dI) cl_all [(h_s, .inr (2, [.int s_columnCount, .int s_fullRank, .ref h_s_ranks, .ref h_s_signs, .ref h_s_members, .ref h_s_starts, .ref h_s_defects])), (h_s_ranks, .inl (cI, s_ranks_n, .inl s_ranks)), (h_s_defects, .inl (cI, s_defects_n, .inl s_defects))] U.heap ∧ va_K (dC, dI) cl_all [(cI, .int), (cJ, .long), (cB, .byte), (cZ, .boolean), (cT, .object "BasisWalk$Table"), (cN, .object "BasisWalkModel$Num")] U ∧ NW U ∧ va_D (fun _ => True) [(h_s, .inr (2, [.int s_columnCount, .int s_fullRank, .ref h_s_ranks, .ref h_s_signs, .ref h_s_members, .ref h_s_starts, .ref h_s_defects])), (h_s_ranks, .inl (cI, s_ranks_n, .inl s_ranks)), (h_s_defects, .inl (cI, s_defects_n, .inl s_defects))])) (va_Qv (fun u : (Nat → Int32) => u = r) (fun (u : (Nat → Int32)) (t : State) => va_P (dC, dI) cl_all [(h_s, .inr (2, [.int s_columnCount, .int s_fullRank, .ref h_s_ranks, .ref h_s_signs, .ref h_s_members, .ref h_s_starts, .ref h_s_defects])), (h_s_ranks, .inl (cI, s_ranks_n, .inl s_ranks)), (h_s_defects, .inl (cI, s_defects_n, .inl u))] t.heap ∧ va_K (dC, dI) cl_all [(cI, .int), (cJ, .long), (cB, .byte), (cZ, .boolean), (cT, .object "BasisWalk$Table"), (cN, .object "BasisWalkModel$Num")] t ∧ va_D (va_A [(h_s, .inr (2, [.int s_columnCount, .int s_fullRank, .ref h_s_ranks, .ref h_s_signs, .ref h_s_members, .ref h_s_starts, .ref h_s_defects])), (h_s_ranks, .inl (cI, s_ranks_n, .inl s_ranks)), (h_s_defects, .inl (cI, s_defects_n, .inl s_defects))] sz) [(h_s, .inr (2, [.int s_columnCount, .int s_fullRank, .ref h_s_ranks, .ref h_s_signs, .ref h_s_members, .ref h_s_starts, .ref h_s_defects])), (h_s_ranks, .inl (cI, s_ranks_n, .inl s_ranks)), (h_s_defects, .inl (cI, s_defects_n, .inl u))]) (va_A [(h_s, .inr (2, [.int s_columnCount, .int s_fullRank, .ref h_s_ranks, .ref h_s_signs, .ref h_s_members, .ref h_s_starts, .ref h_s_defects])), (h_s_ranks, .inl (cI, s_ranks_n, .inl s_ranks)), (h_s_defects, .inl (cI, s_defects_n, .inl s_defects))] sz)) 0 0 (va_A [(h_s, .inr (2, [.int s_columnCount, .int s_fullRank, .ref h_s_ranks, .ref h_s_signs, .ref h_s_members, .ref h_s_starts, .ref h_s_defects])), (h_s_ranks, .inl (cI, s_ranks_n, .inl s_ranks)), (h_s_defects, .inl (cI, s_defects_n, .inl s_defects))] sz) := by
  refine Met.ofW (cc := prog_4_method_14_code) (maxL := 4) (ret := (Option.none : Option Jvm.ClassFile.FieldType)) (by decide) rfl ?_
  intro p e s m args below meth c s₁ B hml hv
  obtain ⟨hAR, hsz, hP, hK, hN, hD0⟩ := hv
  have hx := B.exec
  have hb := B.bytes
  have hr := B.returns
  have hts := atoms_spec (ws := w_St_learnDefects) B.pre
  have hown : s.vm.findClass "BasisWalk$Study" = some m.cls := findClass_of_methodNamed B.named
  have hlocks := B.notSynchronized
  clear B
  subst hsz
  have hD := hD0.self (sz := s.heap.size)
  generalize hAe : va_A [(h_s, .inr (2, [.int s_columnCount, .int s_fullRank, .ref h_s_ranks, .ref h_s_signs, .ref h_s_members, .ref h_s_starts, .ref h_s_defects])), (h_s_ranks, .inl (cI, s_ranks_n, .inl s_ranks)), (h_s_defects, .inl (cI, s_defects_n, .inl s_defects))] s.heap.size = A at hD ⊢
  have hA : ∀ q : Nat, s.heap.size ≤ q → A q := fun q h => by rw [← hAe]; exact Or.inr h
  clear hAe hD0
  have hS : va_S A s.heap s.heap [] := va_S.rf
  have hl := lv_entry ([.ref h_s]) (n := 4) (Nat.le_of_ble_eq_true rfl)
  subst hAR
  rw [lg_entry_eq]
  generalize (lg_sl ([.ref h_s]) ++ List.replicate (4 - (lg_sl ([.ref h_s])).length) Slot.unset).toArray = ls at hl ⊢
  have hl : lv_has ls 4 [(0, .ref h_s)] := hl
  change W p l e ({ frames := 1, cells := 0, slots := 0, locals := 23 } : Room) s m _ below meth c s.heap [] 0 0 _ _
  generalize hARe : ([.ref h_s] : List Value).toArray = AR at hts ⊢
  clear hARe
  generalize hQ : MQ below _ AR s 0 0 A = QQ
  have fl0 := hts _ (List.mem_cons_of_mem _ tw_41)
  have iw1 := (fun w hw => List.mem_cons_of_mem _ (in_St w hw) : ∀ w ∈ u_ws "BasisWalk$Study" T_St 7, w ∈ w_St_learnDefects)
  have fl2 := hts _ (List.mem_cons_of_mem _ tw_32)
  have fl3 := hts _ (List.mem_cons_of_mem _ tw_33)
  have fl4 := hts _ (List.mem_cons_of_mem _ tw_35)
  obtain ⟨H, hHe⟩ : ∃ H : Heap, H = s.heap := ⟨_, rfl⟩
  rw [← hHe] at hP ⊢
  replace hS : va_S A s.heap H [] := by rw [hHe]; exact va_S.rf
  clear hHe
  unfold f_S_learnDefects at h
  refine lv_aload_n hx hb d_St_learnDefects_0 rfl (lv_at hl 0 rfl) ?_
  refine va_get (D := (dC, dI)) (ci := 2) (v := .ref h_s_defects) (C := "BasisWalk$Study") (T := T_St) (N := 7) hx hb hts iw1 hown hK hP 0 rfl rfl 6 (by decide) fl0 (fun _ h9 => h9) rfl d_St_learnDefects_1 ?_
  refine lv_iconst (v := 0) hx hb d_St_learnDefects_4 (by decide) ?_
  obtain ⟨u_1, hc_2, h⟩ := ck_b1_s h
  have hPc := hP.sub (ws' := [(h_s_defects, .inl (cI, s_defects_n, .inl s_defects))]) [2] rfl
  have hDc := hD.sub (ws' := [(h_s_defects, .inl (cI, s_defects_n, .inl s_defects))]) [2] (by decide) rfl
  have hFc := va_free (wc := [(h_s_defects, .inl (cI, s_defects_n, .inl s_defects))]) hD hS hA [2] rfl
  refine va_callv (va_runS (As := [.ref h_s_defects, .int 0]) (rest := []) ⟨hx, hb, hml, hown, hts⟩ (c_fillI l dC dI cI cJ cB cZ cT cN H.size h_s_defects s_defects_n s_defects 0 _ hc_2) (va_cwS 2 hts (tb_S tw_259 tw_155 tw_8 tw_156) rfl rfl rfl (by decide +kernel) ⟨Nat.le_of_ble_eq_true rfl, Nat.le_of_ble_eq_true rfl⟩) ⟨fun a U g mk q => by obtain ⟨q0, q1, qP, qK, qN, qD⟩ := q; exact ⟨q0, q1, qP, va_K.moved (u := U) (U := U.calling g mk a) (Vm.Alike.refl U.vm) qK, qN.same rfl, qD⟩, fun U hU hW => ⟨rfl, by rw [hU], by rw [hU]; exact hPc, va_K.moved hW.alike hK, hN.warm hW, hDc.weaken (fun _ _ _ _ => trivial)⟩⟩ rfl rfl hl.1 rfl (lv_room (Nat.le_of_ble_eq_true rfl)) d_St_learnDefects_5 ⟨Nat.zero_le _, Nat.zero_le _⟩) hS (fun q _ h => hFc q h) hFc (fun u t H1 locs ht hvm hw hB hz1 hk1 hS => ?_)
  replace hw := hw.symm
  subst hw
  obtain ⟨hP1, -, hD1⟩ := hB
  rw [ht] at hP1
  obtain ⟨hP, hD⟩ := va_join (wr := [(h_s, .inr (2, [.int s_columnCount, .int s_fullRank, .ref h_s_ranks, .ref h_s_signs, .ref h_s_members, .ref h_s_starts, .ref h_s_defects])), (h_s_ranks, .inl (cI, s_ranks_n, .inl s_ranks))]) (w1 := [(h_s_defects, .inl (cI, s_defects_n, .inl u_1))]) hP hD [2] [0, 1] rfl rfl (by decide) (by decide) hk1 hFc hP1 hD1
  generalize H1 = H at hP hS ⊢
  have hP : va_P (dC, dI) cl_all [(h_s, .inr (2, [.int s_columnCount, .int s_fullRank, .ref h_s_ranks, .ref h_s_signs, .ref h_s_members, .ref h_s_starts, .ref h_s_defects])), (h_s_ranks, .inl (cI, s_ranks_n, .inl s_ranks)), (h_s_defects, .inl (cI, s_defects_n, .inl u_1))] H := hP.sub [0, 1, 2] rfl
  have hD : va_D A [(h_s, .inr (2, [.int s_columnCount, .int s_fullRank, .ref h_s_ranks, .ref h_s_signs, .ref h_s_members, .ref h_s_starts, .ref h_s_defects])), (h_s_ranks, .inl (cI, s_ranks_n, .inl s_ranks)), (h_s_defects, .inl (cI, s_defects_n, .inl u_1))] := hD.sub [0, 1, 2] (by decide) rfl
  refine lv_iconst (v := 0) hx hb d_St_learnDefects_8 (by decide) ?_
  refine lv_istore_n (lv' := [(1, .int 0), (0, .ref h_s)]) hx hb d_St_learnDefects_9 rfl hl (by decide) rfl (fun ls hl => ?_)
  refine lo2_W (r := r) (fun (v1_3 : Int32) (w_4 : Nat → Int32) => ∀ (H : Heap) (locs : List Loc), va_P (dC, dI) cl_all [(h_s, .inr (2, [.int s_columnCount, .int s_fullRank, .ref h_s_ranks, .ref h_s_signs, .ref h_s_members, .ref h_s_starts, .ref h_s_defects])), (h_s_ranks, .inl (cI, s_ranks_n, .inl s_ranks)), (h_s_defects, .inl (cI, s_defects_n, .inl w_4))] H → va_D A [(h_s, .inr (2, [.int s_columnCount, .int s_fullRank, .ref h_s_ranks, .ref h_s_signs, .ref h_s_members, .ref h_s_starts, .ref h_s_defects])), (h_s_ranks, .inl (cI, s_ranks_n, .inl s_ranks)), (h_s_defects, .inl (cI, s_defects_n, .inl w_4))] → va_S A s.heap H locs → ∀ ls : Array Slot, lv_has ls 4 [(0, .ref h_s), (1, .int v1_3)] → W p l e ({ frames := 1, cells := 0, slots := 0, locals := 23 } : Room) s m AR below meth c H locs 0 0 QQ (F0 m 10 ls [])) ?_ _ _ _ h _ _ hP hD hS _ (lv_sub hl [1, 0] rfl)
  intro k_10 v1_3 w_4 J_10 h H locs hP hD hS ls hl
  refine lv_iload_n hx hb d_St_learnDefects_10 rfl (lv_at hl 1 rfl) ?_
  refine lv_iconst (v := 1) hx hb d_St_learnDefects_11 (by decide) ?_
  refine lv_aload_n hx hb d_St_learnDefects_12 rfl (lv_at hl 0 rfl) ?_
  refine va_get (D := (dC, dI)) (ci := 2) (v := .int s_columnCount) (C := "BasisWalk$Study") (T := T_St) (N := 7) hx hb hts iw1 hown hK hP 0 rfl rfl 0 (by decide) fl2 (fun _ h9 => h9) rfl d_St_learnDefects_13 ?_
  refine lv_ishl hx hb d_St_learnDefects_16 ?_
  refine lv_icmp_ge (tgt := 65) hx hb d_St_learnDefects_17 (by decide) (fun c_5 => ?_) (fun c_5 => ?_)
  · replace h := ck_if_t h c_5
    obtain rfl := Option.some.inj h
    subst hQ
    exact W.vret hx hb hr (fun t ht hW => ⟨⟨w_4, rfl, rfl, by rw [ht]; exact hP, va_K.moved hW.alike hK, hD⟩, hS.F ht⟩) hS.2.2 d_St_learnDefects_65
  · replace h := ck_if_f h c_5
    refine lv_aload_n hx hb d_St_learnDefects_20 rfl (lv_at hl 0 rfl) ?_
    refine va_get (D := (dC, dI)) (ci := 2) (v := .int s_fullRank) (C := "BasisWalk$Study") (T := T_St) (N := 7) hx hb hts iw1 hown hK hP 0 rfl rfl 1 (by decide) fl3 (fun _ h9 => h9) rfl d_St_learnDefects_21 ?_
    refine lv_aload_n hx hb d_St_learnDefects_24 rfl (lv_at hl 0 rfl) ?_
    refine va_get (D := (dC, dI)) (ci := 2) (v := .ref h_s_ranks) (C := "BasisWalk$Study") (T := T_St) (N := 7) hx hb hts iw1 hown hK hP 0 rfl rfl 2 (by decide) fl4 (fun _ h9 => h9) rfl d_St_learnDefects_25 ?_
    refine lv_iload_n hx hb d_St_learnDefects_28 rfl (lv_at hl 1 rfl) ?_
    obtain ⟨g_6, h⟩ := ck_in_s h
    refine va_iald hx hb hK hP 1 0 rfl rfl g_6 d_St_learnDefects_29 ?_
    refine lv_isub hx hb d_St_learnDefects_30 ?_
    refine lv_topi (fun x_7 ex_7 => ?_)
    replace h := ck_nm_s h ex_7
    refine lv_istore_n (lv' := [(2, .int x_7), (0, .ref h_s), (1, .int v1_3)]) hx hb d_St_learnDefects_31 rfl hl (by decide) rfl (fun ls hl => ?_)
    refine lv_iload_n hx hb d_St_learnDefects_32 rfl (lv_at hl 2 rfl) ?_
    obtain ⟨r_8, hc_9, h⟩ := ck_b1_s h
    have hPc := hP.sub (ws' := []) [] rfl
    have hDc := hD.sub (ws' := []) [] (by decide) rfl
    have hFc := va_free (wc := []) hD hS hA [] rfl
    refine va_calli (va_runS (As := [.int v1_3]) (rest := []) ⟨hx, hb, hml, hown, hts⟩ (c_bitCount l dC dI cI cJ cB cZ cT cN H.size v1_3 _ hc_9) (va_cwS 1 hts (tb_S tw_242 tw_196 tw_10 tw_197) rfl rfl rfl (by decide +kernel) ⟨Nat.le_of_ble_eq_true rfl, Nat.le_of_ble_eq_true rfl⟩) ⟨fun a U g mk q => by obtain ⟨q0, q1, qP, qK, qN, qD⟩ := q; exact ⟨q0, q1, qP, va_K.moved (u := U) (U := U.calling g mk a) (Vm.Alike.refl U.vm) qK, qN.same rfl, qD⟩, fun U hU hW => ⟨rfl, by rw [hU], by rw [hU]; exact hPc, va_K.moved hW.alike hK, hN.warm hW, hDc.weaken (fun _ _ _ _ => trivial)⟩⟩ rfl rfl hl.1 rfl (lv_room (Nat.le_of_ble_eq_true rfl)) d_St_learnDefects_33 ⟨Nat.zero_le _, Nat.zero_le _⟩) hS (fun q _ h => hFc q h) hFc (fun rr u t H1 locs ht hvm hw hB hz1 hk1 hS => ?_)
    replace hw := hw.symm
    subst hw
    obtain ⟨hP1, -, hD1⟩ := hB
    rw [ht] at hP1
    obtain ⟨hP, hD⟩ := va_join (wr := [(h_s, .inr (2, [.int s_columnCount, .int s_fullRank, .ref h_s_ranks, .ref h_s_signs, .ref h_s_members, .ref h_s_starts, .ref h_s_defects])), (h_s_ranks, .inl (cI, s_ranks_n, .inl s_ranks)), (h_s_defects, .inl (cI, s_defects_n, .inl w_4))]) (w1 := []) hP hD [] [0, 1, 2] rfl rfl (by decide) (by decide) hk1 hFc hP1 hD1
    generalize H1 = H at hP hS ⊢
    have hP : va_P (dC, dI) cl_all [(h_s, .inr (2, [.int s_columnCount, .int s_fullRank, .ref h_s_ranks, .ref h_s_signs, .ref h_s_members, .ref h_s_starts, .ref h_s_defects])), (h_s_ranks, .inl (cI, s_ranks_n, .inl s_ranks)), (h_s_defects, .inl (cI, s_defects_n, .inl w_4))] H := hP.sub [0, 1, 2] rfl
    have hD : va_D A [(h_s, .inr (2, [.int s_columnCount, .int s_fullRank, .ref h_s_ranks, .ref h_s_signs, .ref h_s_members, .ref h_s_starts, .ref h_s_defects])), (h_s_ranks, .inl (cI, s_ranks_n, .inl s_ranks)), (h_s_defects, .inl (cI, s_defects_n, .inl w_4))] := hD.sub [0, 1, 2] (by decide) rfl
    refine lv_aload_n hx hb d_St_learnDefects_36 rfl (lv_at hl 1 rfl) ?_
    refine va_get (D := (dC, dI)) (ci := 2) (v := .ref h_s_ranks) (C := "BasisWalk$Study") (T := T_St) (N := 7) hx hb hts iw1 hown hK hP 0 rfl rfl 2 (by decide) fl4 (fun _ h9 => h9) rfl d_St_learnDefects_37 ?_
    refine lv_iload_n hx hb d_St_learnDefects_40 rfl (lv_at hl 2 rfl) ?_
    obtain ⟨g_10, h⟩ := ck_in_s h
    refine va_iald hx hb hK hP 1 0 rfl rfl g_10 d_St_learnDefects_41 ?_
    refine lv_isub hx hb d_St_learnDefects_42 ?_
    refine lv_topi (fun x_11 ex_11 => ?_)
    replace h := ck_nm_s h ex_11
    refine lv_istore_n (lv' := [(3, .int x_11), (2, .int x_7), (0, .ref h_s), (1, .int v1_3)]) hx hb d_St_learnDefects_43 rfl hl (by decide) rfl (fun ls hl => ?_)
    refine lv_aload_n hx hb d_St_learnDefects_44 rfl (lv_at hl 2 rfl) ?_
    refine va_get (D := (dC, dI)) (ci := 2) (v := .ref h_s_defects) (C := "BasisWalk$Study") (T := T_St) (N := 7) hx hb hts iw1 hown hK hP 0 rfl rfl 6 (by decide) fl0 (fun _ h9 => h9) rfl d_St_learnDefects_45 ?_
    refine lv_iload_n hx hb d_St_learnDefects_48 rfl (lv_at hl 1 rfl) ?_
    refine lv_bipush (v := 13) hx hb d_St_learnDefects_49 (by decide) ?_
    refine lv_imul hx hb d_St_learnDefects_51 ?_
    refine lv_iload_n hx hb d_St_learnDefects_52 rfl (lv_at hl 0 rfl) ?_
    refine lv_iadd hx hb d_St_learnDefects_53 ?_
    refine lv_dup2_11 hx hb d_St_learnDefects_54 rfl rfl ?_
    obtain ⟨g_12, h⟩ := ck_in_s h
    refine va_iald hx hb hK hP 2 0 rfl rfl g_12 d_St_learnDefects_55 ?_
    refine lv_iconst (v := 1) hx hb d_St_learnDefects_56 (by decide) ?_
    refine lv_iadd hx hb d_St_learnDefects_57 ?_
    obtain ⟨g_13, h⟩ := ck_in_s h
    refine va_iast hx hb hK hP hD hS 2 0 rfl rfl g_13 d_St_learnDefects_58 (fun H locs hP hD hS => ?_)
    have hP : va_P (dC, dI) cl_all [(h_s, .inr (2, [.int s_columnCount, .int s_fullRank, .ref h_s_ranks, .ref h_s_signs, .ref h_s_members, .ref h_s_starts, .ref h_s_defects])), (h_s_ranks, .inl (cI, s_ranks_n, .inl s_ranks)), (h_s_defects, .inl (cI, s_defects_n, .inl (upd w_4 ((x_7 * 13) + x_11).toNatClampNeg ((w_4 ((x_7 * 13) + x_11).toNatClampNeg) + 1))))] H := hP
    have hD : va_D A [(h_s, .inr (2, [.int s_columnCount, .int s_fullRank, .ref h_s_ranks, .ref h_s_signs, .ref h_s_members, .ref h_s_starts, .ref h_s_defects])), (h_s_ranks, .inl (cI, s_ranks_n, .inl s_ranks)), (h_s_defects, .inl (cI, s_defects_n, .inl (upd w_4 ((x_7 * 13) + x_11).toNatClampNeg ((w_4 ((x_7 * 13) + x_11).toNatClampNeg) + 1))))] := hD
    obtain ⟨x_14, ex_14⟩ : ∃ y : Int32, y = v1_3 + 1 := ⟨_, rfl⟩
    replace h := ck_nm_s h ex_14
    refine lv_iinc (v := x_14) (lv' := [(1, .int x_14), (3, .int x_11), (2, .int x_7), (0, .ref h_s)]) hx hb d_St_learnDefects_59 hl (k := 3) rfl (by rw [ex_14]; rfl) (by decide) rfl (fun ls hl => ?_)
    refine lv_goto (tgt := 10) hx hb d_St_learnDefects_62 (by decide) ?_
    exact J_10 _ _ h _ _ hP hD hS _ (lv_sub hl [3, 0] rfl)
theorem d_St_learnMembers_0 : decode prog_4_method_15_code 0 = .ok (.iconst 0, 1) := by decide +kernel
theorem d_St_learnMembers_1 : decode prog_4_method_15_code 1 = .ok (.istore_n 2, 1) := by decide +kernel
theorem d_St_learnMembers_2 : decode prog_4_method_15_code 2 = .ok (.iconst 0, 1) := by decide +kernel
theorem d_St_learnMembers_3 : decode prog_4_method_15_code 3 = .ok (.istore_n 3, 1) := by decide +kernel
theorem d_St_learnMembers_4 : decode prog_4_method_15_code 4 = .ok (.iload_n 3, 1) := by decide +kernel
theorem d_St_learnMembers_5 : decode prog_4_method_15_code 5 = .ok (.iconst 4, 1) := by decide +kernel
theorem d_St_learnMembers_6 : decode prog_4_method_15_code 6 = .ok (.if_icmp .ge 66, 3) := by decide +kernel
theorem d_St_learnMembers_9 : decode prog_4_method_15_code 9 = .ok (.aload_n 0, 1) := by decide +kernel
theorem d_St_learnMembers_10 : decode prog_4_method_15_code 10 = .ok (.getfield 21, 3) := by decide +kernel
theorem d_St_learnMembers_13 : decode prog_4_method_15_code 13 = .ok (.iload_n 3, 1) := by decide +kernel
theorem d_St_learnMembers_14 : decode prog_4_method_15_code 14 = .ok (.iload_n 2, 1) := by decide +kernel
theorem d_St_learnMembers_15 : decode prog_4_method_15_code 15 = .ok (.iastore, 1) := by decide +kernel
theorem d_St_learnMembers_16 : decode prog_4_method_15_code 16 = .ok (.iconst 0, 1) := by decide +kernel
theorem d_St_learnMembers_17 : decode prog_4_method_15_code 17 = .ok (.istore 4, 2) := by decide +kernel
theorem d_St_learnMembers_19 : decode prog_4_method_15_code 19 = .ok (.iload 4, 2) := by decide +kernel
theorem d_St_learnMembers_21 : decode prog_4_method_15_code 21 = .ok (.iconst 1, 1) := by decide +kernel
theorem d_St_learnMembers_22 : decode prog_4_method_15_code 22 = .ok (.aload_n 0, 1) := by decide +kernel
theorem d_St_learnMembers_23 : decode prog_4_method_15_code 23 = .ok (.getfield 33, 3) := by decide +kernel
theorem d_St_learnMembers_26 : decode prog_4_method_15_code 26 = .ok (.ishl, 1) := by decide +kernel
theorem d_St_learnMembers_27 : decode prog_4_method_15_code 27 = .ok (.if_icmp .ge 39, 3) := by decide +kernel
theorem d_St_learnMembers_30 : decode prog_4_method_15_code 30 = .ok (.aload_n 1, 1) := by decide +kernel
theorem d_St_learnMembers_31 : decode prog_4_method_15_code 31 = .ok (.getfield 84, 3) := by decide +kernel
theorem d_St_learnMembers_34 : decode prog_4_method_15_code 34 = .ok (.iload 4, 2) := by decide +kernel
theorem d_St_learnMembers_36 : decode prog_4_method_15_code 36 = .ok (.iaload, 1) := by decide +kernel
theorem d_St_learnMembers_37 : decode prog_4_method_15_code 37 = .ok (.istore 5, 2) := by decide +kernel
theorem d_St_learnMembers_39 : decode prog_4_method_15_code 39 = .ok (.aload_n 0, 1) := by decide +kernel
theorem d_St_learnMembers_40 : decode prog_4_method_15_code 40 = .ok (.iload_n 3, 1) := by decide +kernel
theorem d_St_learnMembers_41 : decode prog_4_method_15_code 41 = .ok (.iload 5, 2) := by decide +kernel
theorem d_St_learnMembers_43 : decode prog_4_method_15_code 43 = .ok (.invokevirtual 108, 3) := by decide +kernel
theorem d_St_learnMembers_46 : decode prog_4_method_15_code 46 = .ok (.ifCond .eq 14, 3) := by decide +kernel
theorem d_St_learnMembers_49 : decode prog_4_method_15_code 49 = .ok (.aload_n 0, 1) := by decide +kernel
theorem d_St_learnMembers_50 : decode prog_4_method_15_code 50 = .ok (.getfield 18, 3) := by decide +kernel
theorem d_St_learnMembers_53 : decode prog_4_method_15_code 53 = .ok (.iload_n 2, 1) := by decide +kernel
theorem d_St_learnMembers_54 : decode prog_4_method_15_code 54 = .ok (.iload 5, 2) := by decide +kernel
theorem d_St_learnMembers_56 : decode prog_4_method_15_code 56 = .ok (.iastore, 1) := by decide +kernel
theorem d_St_learnMembers_57 : decode prog_4_method_15_code 57 = .ok (.iinc 2 1, 3) := by decide +kernel
theorem d_St_learnMembers_60 : decode prog_4_method_15_code 60 = .ok (.iinc 4 1, 3) := by decide +kernel
theorem d_St_learnMembers_63 : decode prog_4_method_15_code 63 = .ok (.goto (-44), 3) := by decide +kernel
theorem d_St_learnMembers_66 : decode prog_4_method_15_code 66 = .ok (.iinc 3 1, 3) := by decide +kernel
theorem d_St_learnMembers_69 : decode prog_4_method_15_code 69 = .ok (.goto (-65), 3) := by decide +kernel
theorem d_St_learnMembers_72 : decode prog_4_method_15_code 72 = .ok (.aload_n 0, 1) := by decide +kernel
theorem d_St_learnMembers_73 : decode prog_4_method_15_code 73 = .ok (.getfield 21, 3) := by decide +kernel
theorem d_St_learnMembers_76 : decode prog_4_method_15_code 76 = .ok (.iconst 4, 1) := by decide +kernel
theorem d_St_learnMembers_77 : decode prog_4_method_15_code 77 = .ok (.iload_n 2, 1) := by decide +kernel
theorem d_St_learnMembers_78 : decode prog_4_method_15_code 78 = .ok (.iastore, 1) := by decide +kernel
theorem d_St_learnMembers_79 : decode prog_4_method_15_code 79 = .ok (.return_, 1) := by decide +kernel
def f_S_learnMembers (s_columnCount : Int32) (s_fullRank : Int32) (s_ranks_n : Nat) (s_ranks : Nat → Int32) (s_members_n : Nat) (s_members : Nat → Int32) (s_starts_n : Nat) (s_starts : Nat → Int32) (o_sets_n : Nat) (o_sets : Nat → Int32) : Option ((Nat → Int32) × (Nat → Int32)) :=
  lo4 (fun k_4 (v3_1 : Int32) (v2_2 : Int32) (w_3 : Nat → Int32) (w_4 : Nat → Int32) => ck_if (4 ≤ v3_1) (ck_in 4 s_starts_n <| some (w_3, (upd w_4 (4 : Int32).toNatClampNeg v2_2))) (ck_in v3_1 s_starts_n <| ck_jn (fun (v2_8 : Int32) (w_9 : Nat → Int32) => ck_nm (v3_1 + 1) <| fun x_10 => k_4 x_10 v2_8 w_9 (upd w_4 v3_1.toNatClampNeg v2_2)) <| fun k_66 => lo3 (fun k_19 (v4_11 : Int32) (v2_12 : Int32) (w_13 : Nat → Int32) => ck_if (((1 : Int32) <<< (s_columnCount &&& 31)) ≤ v4_11) (k_66 v2_12 w_13) (ck_in v4_11 o_sets_n <| ck_nm (o_sets v4_11.toNatClampNeg) <| fun x_16 => ck_b1 (f_S_isOfKind s_columnCount s_fullRank s_ranks_n s_ranks v3_1 x_16) <| fun r_17 => ck_jn (fun (v2_19 : Int32) (w_20 : Nat → Int32) => ck_nm (v4_11 + 1) <| fun x_21 => k_19 x_21 v2_19 w_20) <| fun k_60 => ck_if (r_17 = 0) (k_60 v2_12 w_13) (ck_in v2_12 s_members_n <| ck_nm (v2_12 + 1) <| fun x_24 => k_60 x_24 (upd w_13 v2_12.toNatClampNeg x_16)))) ck_F 0 v2_2 w_3)) ck_F 0 0 s_members s_starts
set_option maxHeartbeats 4000000 in
set_option maxRecDepth 100000 in
theorem c_S_learnMembers (l : Launch) (dC : Nat → ClassId) (dI : Nat → Nat → Nat) (cI cJ cB cZ cT cN : ClassId) (sz : Nat) (h_s : Nat) (h_o : Nat) (h_s_ranks : Nat) (h_s_signs : Nat) (h_s_members : Nat) (h_s_starts : Nat) (h_s_defects : Nat) (h_o_sets : Nat) (h_o_starts : Nat) (h_o_nexts : Nat) (s_columnCount : Int32) (s_fullRank : Int32) (s_ranks_n : Nat) (s_ranks : Nat → Int32) (s_members_n : Nat) (s_members : Nat → Int32) (s_starts_n : Nat) (s_starts : Nat → Int32) (o_columnCount : Int32) (o_sets_n : Nat) (o_sets : Nat → Int32) (r : (Nat → Int32) × (Nat → Int32)) (h : f_S_learnMembers s_columnCount s_fullRank s_ranks_n s_ranks s_members_n s_members s_starts_n s_starts o_sets_n o_sets = some r) : Met l y_St_learnMembers w_St_learnMembers ({ frames := 3, cells := 0, slots := 0, locals := 66 } : Room) (va_Pc [.ref h_s, .ref h_o] (fun U => U.heap.size = sz ∧ va_P (dC, dI) cl_all [(h_s, .inr (2, [.int s_columnCount, .int s_fullRank, .ref h_s_ranks, .ref h_s_signs, .ref h_s_members, .ref h_s_starts, .ref h_s_defects])), (h_s_ranks, .inl (cI, s_ranks_n, .inl s_ranks)), (h_s_members, .inl (cI, s_members_n, .inl s_members)), (h_s_starts, .inl (cI, s_starts_n, .inl s_starts)), (h_o, .inr (1, [.int o_columnCount, .ref h_o_sets, .ref h_o_starts, .ref h_o_nexts])), (h_o_sets, .inl (cI, o_sets_n, .inl o_sets))] U.heap ∧ va_K (dC, dI) cl_all [(cI, .int), (cJ, .long), (cB, .byte), (cZ, .boolean), (cT, .object "BasisWalk$Table"), (cN, .object "BasisWalkModel$Num")] U ∧ NW U ∧ va_D (fun _ => True) [(h_s, .inr (2, [.int s_columnCount, .int s_fullRank, .ref h_s_ranks, .ref h_s_signs, .ref h_s_members, .ref h_s_starts, .ref h_s_defects])), (h_s_ranks, .inl (cI, s_ranks_n, .inl s_ranks)), (h_s_members, .inl (cI, s_members_n, .inl s_members)), (h_s_starts, .inl (cI, s_starts_n, .inl s_starts)), (h_o, .inr (1, [.int o_columnCount, .ref h_o_sets, .ref h_o_starts, .ref h_o_nexts])), (h_o_sets, .inl (cI, o_sets_n, .inl o_sets))])) (va_Qv (fun u : (Nat → Int32) × (Nat → Int32) => u = r) (fun (u : (Nat → Int32) × (Nat → Int32)) (t : State) => va_P (dC, dI) cl_all [(h_s, .inr (2, [.int s_columnCount, .int s_fullRank, .ref h_s_ranks, .ref h_s_signs, .ref h_s_members, .ref h_s_starts, .ref h_s_defects])), (h_s_ranks, .inl (cI, s_ranks_n, .inl s_ranks)), (h_s_members, .inl (cI, s_members_n, .inl u.1)), (h_s_starts, .inl (cI, s_starts_n, .inl u.2)), (h_o, .inr (1, [.int o_columnCount, .ref h_o_sets, .ref h_o_starts, .ref h_o_nexts])), (h_o_sets, .inl (cI, o_sets_n, .inl o_sets))] t.heap ∧ va_K (dC, dI) cl_all [(cI, .int), (cJ, .long), (cB, .byte), (cZ, .boolean), (cT, .object "BasisWalk$Table"), (cN, .object "BasisWalkModel$Num")] t ∧ va_D (va_A [(h_s, .inr (2, [.int s_columnCount, .int s_fullRank, .ref h_s_ranks, .ref h_s_signs, .ref h_s_members, .ref h_s_starts, .ref h_s_defects])), (h_s_ranks, .inl (cI, s_ranks_n, .inl s_ranks)), (h_s_members, .inl (cI, s_members_n, .inl s_members)), (h_s_starts, .inl (cI, s_starts_n, .inl s_starts)), (h_o, .inr (1, [.int o_columnCount, .ref h_o_sets, .ref h_o_starts, .ref h_o_nexts])), (h_o_sets, .inl (cI, o_sets_n, .inl o_sets))] sz) [(h_s, .inr (2, [.int s_columnCount, .int s_fullRank, .ref h_s_ranks, .ref h_s_signs, .ref h_s_members, .ref h_s_starts, .ref h_s_defects])), (h_s_ranks, .inl (cI, s_ranks_n, .inl s_ranks)), (h_s_members, .inl (cI, s_members_n, .inl u.1)), (h_s_starts, .inl (cI, s_starts_n, .inl u.2)), (h_o, .inr (1, [.int o_columnCount, .ref h_o_sets, .ref h_o_starts, .ref h_o_nexts])), (h_o_sets, .inl (cI, o_sets_n, .inl o_sets))]) (va_A [(h_s, .inr (2, [.int s_columnCount, .int s_fullRank, .ref h_s_ranks, .ref h_s_signs, .ref h_s_members, .ref h_s_starts, .ref h_s_defects])), (h_s_ranks, .inl (cI, s_ranks_n, .inl s_ranks)), (h_s_members, .inl (cI, s_members_n, .inl s_members)), (h_s_starts, .inl (cI, s_starts_n, .inl s_starts)), (h_o, .inr (1, [.int o_columnCount, .ref h_o_sets, .ref h_o_starts, .ref h_o_nexts])), (h_o_sets, .inl (cI, o_sets_n, .inl o_sets))] sz)) 0 0 (va_A [(h_s, .inr (2, [.int s_columnCount, .int s_fullRank, .ref h_s_ranks, .ref h_s_signs, .ref h_s_members, .ref h_s_starts, .ref h_s_defects])), (h_s_ranks, .inl (cI, s_ranks_n, .inl s_ranks)), (h_s_members, .inl (cI, s_members_n, .inl s_members)), (h_s_starts, .inl (cI, s_starts_n, .inl s_starts)), (h_o, .inr (1, [.int o_columnCount, .ref h_o_sets, .ref h_o_starts, .ref h_o_nexts])), (h_o_sets, .inl (cI, o_sets_n, .inl o_sets))] sz) := by
  refine Met.ofW (cc := prog_4_method_15_code) (maxL := 6) (ret := (Option.none : Option Jvm.ClassFile.FieldType)) (by decide) rfl ?_
  intro p e s m args below meth c s₁ B hml hv
  obtain ⟨hAR, hsz, hP, hK, hN, hD0⟩ := hv
  have hx := B.exec
  have hb := B.bytes
  have hr := B.returns
  have hts := atoms_spec (ws := w_St_learnMembers) B.pre
  have hown : s.vm.findClass "BasisWalk$Study" = some m.cls := findClass_of_methodNamed B.named
  have hlocks := B.notSynchronized
  clear B
  subst hsz
  have hD := hD0.self (sz := s.heap.size)
  generalize hAe : va_A [(h_s, .inr (2, [.int s_columnCount, .int s_fullRank, .ref h_s_ranks, .ref h_s_signs, .ref h_s_members, .ref h_s_starts, .ref h_s_defects])), (h_s_ranks, .inl (cI, s_ranks_n, .inl s_ranks)), (h_s_members, .inl (cI, s_members_n, .inl s_members)), (h_s_starts, .inl (cI, s_starts_n, .inl s_starts)), (h_o, .inr (1, [.int o_columnCount, .ref h_o_sets, .ref h_o_starts, .ref h_o_nexts])), (h_o_sets, .inl (cI, o_sets_n, .inl o_sets))] s.heap.size = A at hD ⊢
  have hA : ∀ q : Nat, s.heap.size ≤ q → A q := fun q h => by rw [← hAe]; exact Or.inr h
  clear hAe hD0
  have hS : va_S A s.heap s.heap [] := va_S.rf
  have hl := lv_entry ([.ref h_s, .ref h_o]) (n := 6) (Nat.le_of_ble_eq_true rfl)
  subst hAR
  rw [lg_entry_eq]
  generalize (lg_sl ([.ref h_s, .ref h_o]) ++ List.replicate (6 - (lg_sl ([.ref h_s, .ref h_o])).length) Slot.unset).toArray = ls at hl ⊢
  have hl : lv_has ls 6 [(0, .ref h_s), (1, .ref h_o)] := hl
  change W p l e ({ frames := 3, cells := 0, slots := 0, locals := 66 } : Room) s m _ below meth c s.heap [] 0 0 _ _
  generalize hARe : ([.ref h_s, .ref h_o] : List Value).toArray = AR at hts ⊢
  clear hARe
  generalize hQ : MQ below _ AR s 0 0 A = QQ
  have fl0 := hts _ (List.mem_cons_of_mem _ tw_40)
  have iw1 := (fun w hw => List.mem_cons_of_mem _ (in_St w hw) : ∀ w ∈ u_ws "BasisWalk$Study" T_St 7, w ∈ w_St_learnMembers)
  have fl2 := hts _ (List.mem_cons_of_mem _ tw_32)
  have fl3 := va_Nw.use (A := AR) rfl (hN _ tn_95)
  have iw4 := (fun w hw => List.mem_cons_of_mem _ (in_Or w hw) : ∀ w ∈ u_ws "BasisWalk$Order" T_Or 4, w ∈ w_St_learnMembers)
  have fl5 := hts _ (List.mem_cons_of_mem _ tw_39)
  obtain ⟨H, hHe⟩ : ∃ H : Heap, H = s.heap := ⟨_, rfl⟩
  rw [← hHe] at hP ⊢
  replace hS : va_S A s.heap H [] := by rw [hHe]; exact va_S.rf
  clear hHe
  unfold f_S_learnMembers at h
  refine lv_iconst (v := 0) hx hb d_St_learnMembers_0 (by decide) ?_
  refine lv_istore_n (lv' := [(2, .int 0), (0, .ref h_s), (1, .ref h_o)]) hx hb d_St_learnMembers_1 rfl hl (by decide) rfl (fun ls hl => ?_)
  refine lv_iconst (v := 0) hx hb d_St_learnMembers_2 (by decide) ?_
  refine lv_istore_n (lv' := [(3, .int 0), (2, .int 0), (0, .ref h_s), (1, .ref h_o)]) hx hb d_St_learnMembers_3 rfl hl (by decide) rfl (fun ls hl => ?_)
  refine lo4_W (r := r) (fun (v3_1 : Int32) (v2_2 : Int32) (w_3 : Nat → Int32) (w_4 : Nat → Int32) => ∀ (H : Heap) (locs : List Loc), va_P (dC, dI) cl_all [(h_s, .inr (2, [.int s_columnCount, .int s_fullRank, .ref h_s_ranks, .ref h_s_signs, .ref h_s_members, .ref h_s_starts, .ref h_s_defects])), (h_s_ranks, .inl (cI, s_ranks_n, .inl s_ranks)), (h_s_members, .inl (cI, s_members_n, .inl w_3)), (h_s_starts, .inl (cI, s_starts_n, .inl w_4)), (h_o, .inr (1, [.int o_columnCount, .ref h_o_sets, .ref h_o_starts, .ref h_o_nexts])), (h_o_sets, .inl (cI, o_sets_n, .inl o_sets))] H → va_D A [(h_s, .inr (2, [.int s_columnCount, .int s_fullRank, .ref h_s_ranks, .ref h_s_signs, .ref h_s_members, .ref h_s_starts, .ref h_s_defects])), (h_s_ranks, .inl (cI, s_ranks_n, .inl s_ranks)), (h_s_members, .inl (cI, s_members_n, .inl w_3)), (h_s_starts, .inl (cI, s_starts_n, .inl w_4)), (h_o, .inr (1, [.int o_columnCount, .ref h_o_sets, .ref h_o_starts, .ref h_o_nexts])), (h_o_sets, .inl (cI, o_sets_n, .inl o_sets))] → va_S A s.heap H locs → ∀ ls : Array Slot, lv_has ls 6 [(0, .ref h_s), (1, .ref h_o), (2, .int v2_2), (3, .int v3_1)] → W p l e ({ frames := 3, cells := 0, slots := 0, locals := 66 } : Room) s m AR below meth c H locs 0 0 QQ (F0 m 4 ls [])) ?_ _ _ _ _ _ h _ _ hP hD hS _ (lv_sub hl [2, 3, 1, 0] rfl)
  intro k_4 v3_1 v2_2 w_3 w_4 J_4 h H locs hP hD hS ls hl
  refine lv_iload_n hx hb d_St_learnMembers_4 rfl (lv_at hl 3 rfl) ?_
  refine lv_iconst (v := 4) hx hb d_St_learnMembers_5 (by decide) ?_
  refine lv_icmp_ge (tgt := 72) hx hb d_St_learnMembers_6 (by decide) (fun c_5 => ?_) (fun c_5 => ?_)
  · replace h := ck_if_t h c_5
    refine lv_aload_n hx hb d_St_learnMembers_72 rfl (lv_at hl 0 rfl) ?_
    refine va_get (D := (dC, dI)) (ci := 2) (v := .ref h_s_starts) (C := "BasisWalk$Study") (T := T_St) (N := 7) hx hb hts iw1 hown hK hP 0 rfl rfl 5 (by decide) fl0 (fun _ h9 => h9) rfl d_St_learnMembers_73 ?_
    refine lv_iconst (v := 4) hx hb d_St_learnMembers_76 (by decide) ?_
    refine lv_iload_n hx hb d_St_learnMembers_77 rfl (lv_at hl 2 rfl) ?_
    obtain ⟨g_6, h⟩ := ck_in_s h
    refine va_iast hx hb hK hP hD hS 3 0 rfl rfl g_6 d_St_learnMembers_78 (fun H locs hP hD hS => ?_)
    have hP : va_P (dC, dI) cl_all [(h_s, .inr (2, [.int s_columnCount, .int s_fullRank, .ref h_s_ranks, .ref h_s_signs, .ref h_s_members, .ref h_s_starts, .ref h_s_defects])), (h_s_ranks, .inl (cI, s_ranks_n, .inl s_ranks)), (h_s_members, .inl (cI, s_members_n, .inl w_3)), (h_s_starts, .inl (cI, s_starts_n, .inl (upd w_4 (4 : Int32).toNatClampNeg v2_2))), (h_o, .inr (1, [.int o_columnCount, .ref h_o_sets, .ref h_o_starts, .ref h_o_nexts])), (h_o_sets, .inl (cI, o_sets_n, .inl o_sets))] H := hP
    have hD : va_D A [(h_s, .inr (2, [.int s_columnCount, .int s_fullRank, .ref h_s_ranks, .ref h_s_signs, .ref h_s_members, .ref h_s_starts, .ref h_s_defects])), (h_s_ranks, .inl (cI, s_ranks_n, .inl s_ranks)), (h_s_members, .inl (cI, s_members_n, .inl w_3)), (h_s_starts, .inl (cI, s_starts_n, .inl (upd w_4 (4 : Int32).toNatClampNeg v2_2))), (h_o, .inr (1, [.int o_columnCount, .ref h_o_sets, .ref h_o_starts, .ref h_o_nexts])), (h_o_sets, .inl (cI, o_sets_n, .inl o_sets))] := hD
    obtain rfl := Option.some.inj h
    subst hQ
    exact W.vret hx hb hr (fun t ht hW => ⟨⟨(w_3, (upd w_4 (4 : Int32).toNatClampNeg v2_2)), rfl, rfl, by rw [ht]; exact hP, va_K.moved hW.alike hK, hD⟩, hS.F ht⟩) hS.2.2 d_St_learnMembers_79
  · replace h := ck_if_f h c_5
    refine lv_aload_n hx hb d_St_learnMembers_9 rfl (lv_at hl 0 rfl) ?_
    refine va_get (D := (dC, dI)) (ci := 2) (v := .ref h_s_starts) (C := "BasisWalk$Study") (T := T_St) (N := 7) hx hb hts iw1 hown hK hP 0 rfl rfl 5 (by decide) fl0 (fun _ h9 => h9) rfl d_St_learnMembers_10 ?_
    refine lv_iload_n hx hb d_St_learnMembers_13 rfl (lv_at hl 3 rfl) ?_
    refine lv_iload_n hx hb d_St_learnMembers_14 rfl (lv_at hl 2 rfl) ?_
    obtain ⟨g_7, h⟩ := ck_in_s h
    refine va_iast hx hb hK hP hD hS 3 0 rfl rfl g_7 d_St_learnMembers_15 (fun H locs hP hD hS => ?_)
    have hP : va_P (dC, dI) cl_all [(h_s, .inr (2, [.int s_columnCount, .int s_fullRank, .ref h_s_ranks, .ref h_s_signs, .ref h_s_members, .ref h_s_starts, .ref h_s_defects])), (h_s_ranks, .inl (cI, s_ranks_n, .inl s_ranks)), (h_s_members, .inl (cI, s_members_n, .inl w_3)), (h_s_starts, .inl (cI, s_starts_n, .inl (upd w_4 v3_1.toNatClampNeg v2_2))), (h_o, .inr (1, [.int o_columnCount, .ref h_o_sets, .ref h_o_starts, .ref h_o_nexts])), (h_o_sets, .inl (cI, o_sets_n, .inl o_sets))] H := hP
    have hD : va_D A [(h_s, .inr (2, [.int s_columnCount, .int s_fullRank, .ref h_s_ranks, .ref h_s_signs, .ref h_s_members, .ref h_s_starts, .ref h_s_defects])), (h_s_ranks, .inl (cI, s_ranks_n, .inl s_ranks)), (h_s_members, .inl (cI, s_members_n, .inl w_3)), (h_s_starts, .inl (cI, s_starts_n, .inl (upd w_4 v3_1.toNatClampNeg v2_2))), (h_o, .inr (1, [.int o_columnCount, .ref h_o_sets, .ref h_o_starts, .ref h_o_nexts])), (h_o_sets, .inl (cI, o_sets_n, .inl o_sets))] := hD
    refine lv_iconst (v := 0) hx hb d_St_learnMembers_16 (by decide) ?_
    refine lv_istore (lv' := [(4, .int 0), (0, .ref h_s), (1, .ref h_o), (2, .int v2_2), (3, .int v3_1)]) hx hb d_St_learnMembers_17 hl (by decide) rfl (fun ls hl => ?_)
    refine ck_jn_W h (fun k' => ∀ (v2_8 : Int32) (w_9 : Nat → Int32), k' v2_8 w_9 = some r → ∀ (H : Heap) (locs : List Loc), va_P (dC, dI) cl_all [(h_s, .inr (2, [.int s_columnCount, .int s_fullRank, .ref h_s_ranks, .ref h_s_signs, .ref h_s_members, .ref h_s_starts, .ref h_s_defects])), (h_s_ranks, .inl (cI, s_ranks_n, .inl s_ranks)), (h_s_members, .inl (cI, s_members_n, .inl w_9)), (h_s_starts, .inl (cI, s_starts_n, .inl (upd w_4 v3_1.toNatClampNeg v2_2))), (h_o, .inr (1, [.int o_columnCount, .ref h_o_sets, .ref h_o_starts, .ref h_o_nexts])), (h_o_sets, .inl (cI, o_sets_n, .inl o_sets))] H → va_D A [(h_s, .inr (2, [.int s_columnCount, .int s_fullRank, .ref h_s_ranks, .ref h_s_signs, .ref h_s_members, .ref h_s_starts, .ref h_s_defects])), (h_s_ranks, .inl (cI, s_ranks_n, .inl s_ranks)), (h_s_members, .inl (cI, s_members_n, .inl w_9)), (h_s_starts, .inl (cI, s_starts_n, .inl (upd w_4 v3_1.toNatClampNeg v2_2))), (h_o, .inr (1, [.int o_columnCount, .ref h_o_sets, .ref h_o_starts, .ref h_o_nexts])), (h_o_sets, .inl (cI, o_sets_n, .inl o_sets))] → va_S A s.heap H locs → ∀ ls : Array Slot, lv_has ls 6 [(0, .ref h_s), (1, .ref h_o), (2, .int v2_8), (3, .int v3_1)] → W p l e ({ frames := 3, cells := 0, slots := 0, locals := 66 } : Room) s m AR below meth c H locs 0 0 QQ (F0 m 66 ls [])) ?_ ?_
    · intro v2_8 w_9 h H locs hP hD hS ls hl
      obtain ⟨x_10, ex_10⟩ : ∃ y : Int32, y = v3_1 + 1 := ⟨_, rfl⟩
      replace h := ck_nm_s h ex_10
      refine lv_iinc (v := x_10) (lv' := [(3, .int x_10), (0, .ref h_s), (1, .ref h_o), (2, .int v2_8)]) hx hb d_St_learnMembers_66 hl (k := 3) rfl (by rw [ex_10]; rfl) (by decide) rfl (fun ls hl => ?_)
      refine lv_goto (tgt := 4) hx hb d_St_learnMembers_69 (by decide) ?_
      exact J_4 _ _ _ _ h _ _ hP hD hS _ (lv_sub hl [1, 2, 3, 0] rfl)
    · intro k_66 J_66 h
      refine lo3_W (r := r) (fun (v4_11 : Int32) (v2_12 : Int32) (w_13 : Nat → Int32) => ∀ (H : Heap) (locs : List Loc), va_P (dC, dI) cl_all [(h_s, .inr (2, [.int s_columnCount, .int s_fullRank, .ref h_s_ranks, .ref h_s_signs, .ref h_s_members, .ref h_s_starts, .ref h_s_defects])), (h_s_ranks, .inl (cI, s_ranks_n, .inl s_ranks)), (h_s_members, .inl (cI, s_members_n, .inl w_13)), (h_s_starts, .inl (cI, s_starts_n, .inl (upd w_4 v3_1.toNatClampNeg v2_2))), (h_o, .inr (1, [.int o_columnCount, .ref h_o_sets, .ref h_o_starts, .ref h_o_nexts])), (h_o_sets, .inl (cI, o_sets_n, .inl o_sets))] H → va_D A [(h_s, .inr (2, [.int s_columnCount, .int s_fullRank, .ref h_s_ranks, .ref h_s_signs, .ref h_s_members, .ref h_s_starts, .ref h_s_defects])), (h_s_ranks, .inl (cI, s_ranks_n, .inl s_ranks)), (h_s_members, .inl (cI, s_members_n, .inl w_13)), (h_s_starts, .inl (cI, s_starts_n, .inl (upd w_4 v3_1.toNatClampNeg v2_2))), (h_o, .inr (1, [.int o_columnCount, .ref h_o_sets, .ref h_o_starts, .ref h_o_nexts])), (h_o_sets, .inl (cI, o_sets_n, .inl o_sets))] → va_S A s.heap H locs → ∀ ls : Array Slot, lv_has ls 6 [(0, .ref h_s), (1, .ref h_o), (2, .int v2_12), (3, .int v3_1), (4, .int v4_11)] → W p l e ({ frames := 3, cells := 0, slots := 0, locals := 66 } : Room) s m AR below meth c H locs 0 0 QQ (F0 m 19 ls [])) ?_ _ _ _ _ h _ _ hP hD hS _ (lv_sub hl [1, 2, 3, 4, 0] rfl)
      intro k_19 v4_11 v2_12 w_13 J_19 h H locs hP hD hS ls hl
      refine lv_iload hx hb d_St_learnMembers_19 (lv_at hl 4 rfl) ?_
      refine lv_iconst (v := 1) hx hb d_St_learnMembers_21 (by decide) ?_
      refine lv_aload_n hx hb d_St_learnMembers_22 rfl (lv_at hl 0 rfl) ?_
      refine va_get (D := (dC, dI)) (ci := 2) (v := .int s_columnCount) (C := "BasisWalk$Study") (T := T_St) (N := 7) hx hb hts iw1 hown hK hP 0 rfl rfl 0 (by decide) fl2 (fun _ h9 => h9) rfl d_St_learnMembers_23 ?_
      refine lv_ishl hx hb d_St_learnMembers_26 ?_
      refine lv_icmp_ge (tgt := 66) hx hb d_St_learnMembers_27 (by decide) (fun c_14 => ?_) (fun c_14 => ?_)
      · replace h := ck_if_t h c_14
        exact J_66 _ _ h _ _ hP hD hS _ (lv_sub hl [0, 1, 2, 3] rfl)
      · replace h := ck_if_f h c_14
        refine lv_aload_n hx hb d_St_learnMembers_30 rfl (lv_at hl 1 rfl) ?_
        refine va_getN (D := (dC, dI)) (ci := 1) (v := .ref h_o_sets) (C := "BasisWalk$Order") (T := T_Or) (N := 4) hx hb hts iw4 hown hK hP 4 rfl rfl 1 (by decide) fl3 (fun _ h9 => h9) rfl d_St_learnMembers_31 ?_
        refine lv_iload hx hb d_St_learnMembers_34 (lv_at hl 4 rfl) ?_
        obtain ⟨g_15, h⟩ := ck_in_s h
        refine va_iald hx hb hK hP 5 0 rfl rfl g_15 d_St_learnMembers_36 ?_
        refine lv_topi (fun x_16 ex_16 => ?_)
        replace h := ck_nm_s h ex_16
        refine lv_istore (lv' := [(5, .int x_16), (0, .ref h_s), (1, .ref h_o), (2, .int v2_12), (3, .int v3_1), (4, .int v4_11)]) hx hb d_St_learnMembers_37 hl (by decide) rfl (fun ls hl => ?_)
        refine lv_aload_n hx hb d_St_learnMembers_39 rfl (lv_at hl 1 rfl) ?_
        refine lv_iload_n hx hb d_St_learnMembers_40 rfl (lv_at hl 4 rfl) ?_
        refine lv_iload hx hb d_St_learnMembers_41 (lv_at hl 0 rfl) ?_
        obtain ⟨r_17, hc_18, h⟩ := ck_b1_s h
        have hPc := hP.sub (ws' := [(h_s, .inr (2, [.int s_columnCount, .int s_fullRank, .ref h_s_ranks, .ref h_s_signs, .ref h_s_members, .ref h_s_starts, .ref h_s_defects])), (h_s_ranks, .inl (cI, s_ranks_n, .inl s_ranks))]) [0, 1] rfl
        have hDc := hD.sub (ws' := [(h_s, .inr (2, [.int s_columnCount, .int s_fullRank, .ref h_s_ranks, .ref h_s_signs, .ref h_s_members, .ref h_s_starts, .ref h_s_defects])), (h_s_ranks, .inl (cI, s_ranks_n, .inl s_ranks))]) [0, 1] (by decide) rfl
        have hFc := va_free (wc := [(h_s, .inr (2, [.int s_columnCount, .int s_fullRank, .ref h_s_ranks, .ref h_s_signs, .ref h_s_members, .ref h_s_starts, .ref h_s_defects])), (h_s_ranks, .inl (cI, s_ranks_n, .inl s_ranks))]) hD hS hA [0, 1] rfl
        refine va_calli (va_runV (As := [.int v3_1, .int x_16]) (rest := []) ⟨hx, hb, hml, hown, hts⟩ (c_S_isOfKind l dC dI cI cJ cB cZ cT cN H.size h_s h_s_ranks h_s_signs h_s_members h_s_starts h_s_defects s_columnCount s_fullRank s_ranks_n s_ranks v3_1 x_16 _ hc_18) (cwV 2 hts (tb_V tw_264 tw_266 tp_12 tw_3 tw_267) rfl rfl rfl (by decide +kernel) ⟨Nat.le_of_ble_eq_true rfl, Nat.le_of_ble_eq_true rfl⟩) ⟨fun a U g mk q => by obtain ⟨q0, q1, qP, qK, qN, qD⟩ := q; exact ⟨q0, q1, qP, va_K.moved (u := U) (U := U.calling g mk a) (Vm.Alike.refl U.vm) qK, qN.same rfl, qD⟩, va_recv hK hPc (ci := 2) (q0 := 0) rfl rfl, fun U hU hW => ⟨rfl, by rw [hU], by rw [hU]; exact hPc, va_K.moved hW.alike hK, hN.warm hW, hDc.weaken (fun _ _ _ _ => trivial)⟩⟩ rfl rfl hl.1 rfl (lv_room (Nat.le_of_ble_eq_true rfl)) d_St_learnMembers_43 ⟨Nat.zero_le _, Nat.zero_le _⟩) hS (fun q _ h => hFc q h) hFc (fun rr u t H1 locs ht hvm hw hB hz1 hk1 hS => ?_)
        replace hw := hw.symm
        subst hw
        obtain ⟨hP1, -, hD1⟩ := hB
        rw [ht] at hP1
        obtain ⟨hP, hD⟩ := va_join (wr := [(h_s_members, .inl (cI, s_members_n, .inl w_13)), (h_s_starts, .inl (cI, s_starts_n, .inl (upd w_4 v3_1.toNatClampNeg v2_2))), (h_o, .inr (1, [.int o_columnCount, .ref h_o_sets, .ref h_o_starts, .ref h_o_nexts])), (h_o_sets, .inl (cI, o_sets_n, .inl o_sets))]) (w1 := [(h_s, .inr (2, [.int s_columnCount, .int s_fullRank, .ref h_s_ranks, .ref h_s_signs, .ref h_s_members, .ref h_s_starts, .ref h_s_defects])), (h_s_ranks, .inl (cI, s_ranks_n, .inl s_ranks))]) hP hD [0, 1] [2, 3, 4, 5] rfl rfl (by decide) (by decide) hk1 hFc hP1 hD1
        generalize H1 = H at hP hS ⊢
        have hP : va_P (dC, dI) cl_all [(h_s, .inr (2, [.int s_columnCount, .int s_fullRank, .ref h_s_ranks, .ref h_s_signs, .ref h_s_members, .ref h_s_starts, .ref h_s_defects])), (h_s_ranks, .inl (cI, s_ranks_n, .inl s_ranks)), (h_s_members, .inl (cI, s_members_n, .inl w_13)), (h_s_starts, .inl (cI, s_starts_n, .inl (upd w_4 v3_1.toNatClampNeg v2_2))), (h_o, .inr (1, [.int o_columnCount, .ref h_o_sets, .ref h_o_starts, .ref h_o_nexts])), (h_o_sets, .inl (cI, o_sets_n, .inl o_sets))] H := hP.sub [4, 5, 0, 1, 2, 3] rfl
        have hD : va_D A [(h_s, .inr (2, [.int s_columnCount, .int s_fullRank, .ref h_s_ranks, .ref h_s_signs, .ref h_s_members, .ref h_s_starts, .ref h_s_defects])), (h_s_ranks, .inl (cI, s_ranks_n, .inl s_ranks)), (h_s_members, .inl (cI, s_members_n, .inl w_13)), (h_s_starts, .inl (cI, s_starts_n, .inl (upd w_4 v3_1.toNatClampNeg v2_2))), (h_o, .inr (1, [.int o_columnCount, .ref h_o_sets, .ref h_o_starts, .ref h_o_nexts])), (h_o_sets, .inl (cI, o_sets_n, .inl o_sets))] := hD.sub [4, 5, 0, 1, 2, 3] (by decide) rfl
        refine ck_jn_W h (fun k' => ∀ (v2_19 : Int32) (w_20 : Nat → Int32), k' v2_19 w_20 = some r → ∀ (H : Heap) (locs : List Loc), va_P (dC, dI) cl_all [(h_s, .inr (2, [.int s_columnCount, .int s_fullRank, .ref h_s_ranks, .ref h_s_signs, .ref h_s_members, .ref h_s_starts, .ref h_s_defects])), (h_s_ranks, .inl (cI, s_ranks_n, .inl s_ranks)), (h_s_members, .inl (cI, s_members_n, .inl w_20)), (h_s_starts, .inl (cI, s_starts_n, .inl (upd w_4 v3_1.toNatClampNeg v2_2))), (h_o, .inr (1, [.int o_columnCount, .ref h_o_sets, .ref h_o_starts, .ref h_o_nexts])), (h_o_sets, .inl (cI, o_sets_n, .inl o_sets))] H → va_D A [(h_s, .inr (2, [.int s_columnCount, .int s_fullRank, .ref h_s_ranks, .ref h_s_signs, .ref h_s_members, .ref h_s_starts, .ref h_s_defects])), (h_s_ranks, .inl (cI, s_ranks_n, .inl s_ranks)), (h_s_members, .inl (cI, s_members_n, .inl w_20)), (h_s_starts, .inl (cI, s_starts_n, .inl (upd w_4 v3_1.toNatClampNeg v2_2))), (h_o, .inr (1, [.int o_columnCount, .ref h_o_sets, .ref h_o_starts, .ref h_o_nexts])), (h_o_sets, .inl (cI, o_sets_n, .inl o_sets))] → va_S A s.heap H locs → ∀ ls : Array Slot, lv_has ls 6 [(0, .ref h_s), (1, .ref h_o), (2, .int v2_19), (3, .int v3_1), (4, .int v4_11)] → W p l e ({ frames := 3, cells := 0, slots := 0, locals := 66 } : Room) s m AR below meth c H locs 0 0 QQ (F0 m 60 ls [])) ?_ ?_
        · intro v2_19 w_20 h H locs hP hD hS ls hl
          obtain ⟨x_21, ex_21⟩ : ∃ y : Int32, y = v4_11 + 1 := ⟨_, rfl⟩
          replace h := ck_nm_s h ex_21
          refine lv_iinc (v := x_21) (lv' := [(4, .int x_21), (0, .ref h_s), (1, .ref h_o), (2, .int v2_19), (3, .int v3_1)]) hx hb d_St_learnMembers_60 hl (k := 4) rfl (by rw [ex_21]; rfl) (by decide) rfl (fun ls hl => ?_)
          refine lv_goto (tgt := 19) hx hb d_St_learnMembers_63 (by decide) ?_
          exact J_19 _ _ _ h _ _ hP hD hS _ (lv_sub hl [1, 2, 3, 4, 0] rfl)
        · intro k_60 J_60 h
          refine lv_if_eq (tgt := 60) hx hb d_St_learnMembers_46 (by decide) (fun c_22 => ?_) (fun c_22 => ?_)
          · replace h := ck_if_t h c_22
            exact J_60 _ _ h _ _ hP hD hS _ (lv_sub hl [1, 2, 3, 4, 5] rfl)
          · replace h := ck_if_f h c_22
            refine lv_aload_n hx hb d_St_learnMembers_49 rfl (lv_at hl 1 rfl) ?_
            refine va_get (D := (dC, dI)) (ci := 2) (v := .ref h_s_members) (C := "BasisWalk$Study") (T := T_St) (N := 7) hx hb hts iw1 hown hK hP 0 rfl rfl 4 (by decide) fl5 (fun _ h9 => h9) rfl d_St_learnMembers_50 ?_
            refine lv_iload_n hx hb d_St_learnMembers_53 rfl (lv_at hl 3 rfl) ?_
            refine lv_iload hx hb d_St_learnMembers_54 (lv_at hl 0 rfl) ?_
            obtain ⟨g_23, h⟩ := ck_in_s h
            refine va_iast hx hb hK hP hD hS 2 0 rfl rfl g_23 d_St_learnMembers_56 (fun H locs hP hD hS => ?_)
            have hP : va_P (dC, dI) cl_all [(h_s, .inr (2, [.int s_columnCount, .int s_fullRank, .ref h_s_ranks, .ref h_s_signs, .ref h_s_members, .ref h_s_starts, .ref h_s_defects])), (h_s_ranks, .inl (cI, s_ranks_n, .inl s_ranks)), (h_s_members, .inl (cI, s_members_n, .inl (upd w_13 v2_12.toNatClampNeg x_16))), (h_s_starts, .inl (cI, s_starts_n, .inl (upd w_4 v3_1.toNatClampNeg v2_2))), (h_o, .inr (1, [.int o_columnCount, .ref h_o_sets, .ref h_o_starts, .ref h_o_nexts])), (h_o_sets, .inl (cI, o_sets_n, .inl o_sets))] H := hP
            have hD : va_D A [(h_s, .inr (2, [.int s_columnCount, .int s_fullRank, .ref h_s_ranks, .ref h_s_signs, .ref h_s_members, .ref h_s_starts, .ref h_s_defects])), (h_s_ranks, .inl (cI, s_ranks_n, .inl s_ranks)), (h_s_members, .inl (cI, s_members_n, .inl (upd w_13 v2_12.toNatClampNeg x_16))), (h_s_starts, .inl (cI, s_starts_n, .inl (upd w_4 v3_1.toNatClampNeg v2_2))), (h_o, .inr (1, [.int o_columnCount, .ref h_o_sets, .ref h_o_starts, .ref h_o_nexts])), (h_o_sets, .inl (cI, o_sets_n, .inl o_sets))] := hD
            obtain ⟨x_24, ex_24⟩ : ∃ y : Int32, y = v2_12 + 1 := ⟨_, rfl⟩
            replace h := ck_nm_s h ex_24
            refine lv_iinc (v := x_24) (lv' := [(2, .int x_24), (5, .int x_16), (0, .ref h_s), (1, .ref h_o), (3, .int v3_1), (4, .int v4_11)]) hx hb d_St_learnMembers_57 hl (k := 3) rfl (by rw [ex_24]; rfl) (by decide) rfl (fun ls hl => ?_)
            exact J_60 _ _ h _ _ hP hD hS _ (lv_sub hl [2, 3, 0, 4, 5] rfl)
