theorem d_Or_fit_0 : decode prog_3_method_2_code 0 = .ok (.iload_n 1, 1) := by decide +kernel
theorem d_Or_fit_1 : decode prog_3_method_2_code 1 = .ok (.aload_n 0, 1) := by decide +kernel
theorem d_Or_fit_2 : decode prog_3_method_2_code 2 = .ok (.getfield 21, 3) := by decide +kernel
theorem d_Or_fit_5 : decode prog_3_method_2_code 5 = .ok (.if_icmp .ne 4, 3) := by decide +kernel
theorem d_Or_fit_8 : decode prog_3_method_2_code 8 = .ok (.return_, 1) := by decide +kernel
theorem d_Or_fit_9 : decode prog_3_method_2_code 9 = .ok (.aload_n 0, 1) := by decide +kernel
theorem d_Or_fit_10 : decode prog_3_method_2_code 10 = .ok (.iload_n 1, 1) := by decide +kernel
theorem d_Or_fit_11 : decode prog_3_method_2_code 11 = .ok (.putfield 21, 3) := by decide +kernel
theorem d_Or_fit_14 : decode prog_3_method_2_code 14 = .ok (.iconst 1, 1) := by decide +kernel
theorem d_Or_fit_15 : decode prog_3_method_2_code 15 = .ok (.aload_n 0, 1) := by decide +kernel
theorem d_Or_fit_16 : decode prog_3_method_2_code 16 = .ok (.getfield 21, 3) := by decide +kernel
theorem d_Or_fit_19 : decode prog_3_method_2_code 19 = .ok (.ishl, 1) := by decide +kernel
theorem d_Or_fit_20 : decode prog_3_method_2_code 20 = .ok (.istore_n 2, 1) := by decide +kernel
theorem d_Or_fit_21 : decode prog_3_method_2_code 21 = .ok (.iconst 0, 1) := by decide +kernel
theorem d_Or_fit_22 : decode prog_3_method_2_code 22 = .ok (.istore_n 3, 1) := by decide +kernel
theorem d_Or_fit_23 : decode prog_3_method_2_code 23 = .ok (.iload_n 3, 1) := by decide +kernel
theorem d_Or_fit_24 : decode prog_3_method_2_code 24 = .ok (.aload_n 0, 1) := by decide +kernel
theorem d_Or_fit_25 : decode prog_3_method_2_code 25 = .ok (.getfield 21, 3) := by decide +kernel
theorem d_Or_fit_28 : decode prog_3_method_2_code 28 = .ok (.if_icmp .gt 44, 3) := by decide +kernel
theorem d_Or_fit_31 : decode prog_3_method_2_code 31 = .ok (.aload_n 0, 1) := by decide +kernel
theorem d_Or_fit_32 : decode prog_3_method_2_code 32 = .ok (.getfield 18, 3) := by decide +kernel
theorem d_Or_fit_35 : decode prog_3_method_2_code 35 = .ok (.iload_n 3, 1) := by decide +kernel
theorem d_Or_fit_36 : decode prog_3_method_2_code 36 = .ok (.aload_n 0, 1) := by decide +kernel
theorem d_Or_fit_37 : decode prog_3_method_2_code 37 = .ok (.getfield 15, 3) := by decide +kernel
theorem d_Or_fit_40 : decode prog_3_method_2_code 40 = .ok (.iload_n 3, 1) := by decide +kernel
theorem d_Or_fit_41 : decode prog_3_method_2_code 41 = .ok (.iaload, 1) := by decide +kernel
theorem d_Or_fit_42 : decode prog_3_method_2_code 42 = .ok (.iastore, 1) := by decide +kernel
theorem d_Or_fit_43 : decode prog_3_method_2_code 43 = .ok (.aload_n 0, 1) := by decide +kernel
theorem d_Or_fit_44 : decode prog_3_method_2_code 44 = .ok (.getfield 15, 3) := by decide +kernel
theorem d_Or_fit_47 : decode prog_3_method_2_code 47 = .ok (.iload_n 3, 1) := by decide +kernel
theorem d_Or_fit_48 : decode prog_3_method_2_code 48 = .ok (.iconst 1, 1) := by decide +kernel
theorem d_Or_fit_49 : decode prog_3_method_2_code 49 = .ok (.iadd, 1) := by decide +kernel
theorem d_Or_fit_50 : decode prog_3_method_2_code 50 = .ok (.aload_n 0, 1) := by decide +kernel
theorem d_Or_fit_51 : decode prog_3_method_2_code 51 = .ok (.getfield 15, 3) := by decide +kernel
theorem d_Or_fit_54 : decode prog_3_method_2_code 54 = .ok (.iload_n 3, 1) := by decide +kernel
theorem d_Or_fit_55 : decode prog_3_method_2_code 55 = .ok (.iaload, 1) := by decide +kernel
theorem d_Or_fit_56 : decode prog_3_method_2_code 56 = .ok (.aload_n 0, 1) := by decide +kernel
theorem d_Or_fit_57 : decode prog_3_method_2_code 57 = .ok (.getfield 21, 3) := by decide +kernel
theorem d_Or_fit_60 : decode prog_3_method_2_code 60 = .ok (.iload_n 3, 1) := by decide +kernel
theorem d_Or_fit_61 : decode prog_3_method_2_code 61 = .ok (.invokestatic 25, 3) := by decide +kernel
theorem d_Or_fit_64 : decode prog_3_method_2_code 64 = .ok (.iadd, 1) := by decide +kernel
theorem d_Or_fit_65 : decode prog_3_method_2_code 65 = .ok (.iastore, 1) := by decide +kernel
theorem d_Or_fit_66 : decode prog_3_method_2_code 66 = .ok (.iinc 3 1, 3) := by decide +kernel
theorem d_Or_fit_69 : decode prog_3_method_2_code 69 = .ok (.goto (-46), 3) := by decide +kernel
theorem d_Or_fit_72 : decode prog_3_method_2_code 72 = .ok (.iload_n 2, 1) := by decide +kernel
theorem d_Or_fit_73 : decode prog_3_method_2_code 73 = .ok (.iconst 1, 1) := by decide +kernel
theorem d_Or_fit_74 : decode prog_3_method_2_code 74 = .ok (.isub, 1) := by decide +kernel
theorem d_Or_fit_75 : decode prog_3_method_2_code 75 = .ok (.istore_n 3, 1) := by decide +kernel
theorem d_Or_fit_76 : decode prog_3_method_2_code 76 = .ok (.iconst 0, 1) := by decide +kernel
theorem d_Or_fit_77 : decode prog_3_method_2_code 77 = .ok (.istore 4, 2) := by decide +kernel
theorem d_Or_fit_79 : decode prog_3_method_2_code 79 = .ok (.iload 4, 2) := by decide +kernel
theorem d_Or_fit_81 : decode prog_3_method_2_code 81 = .ok (.iload_n 2, 1) := by decide +kernel
theorem d_Or_fit_82 : decode prog_3_method_2_code 82 = .ok (.if_icmp .ge 45, 3) := by decide +kernel
theorem d_Or_fit_85 : decode prog_3_method_2_code 85 = .ok (.iload_n 3, 1) := by decide +kernel
theorem d_Or_fit_86 : decode prog_3_method_2_code 86 = .ok (.invokestatic 29, 3) := by decide +kernel
theorem d_Or_fit_89 : decode prog_3_method_2_code 89 = .ok (.istore 5, 2) := by decide +kernel
theorem d_Or_fit_91 : decode prog_3_method_2_code 91 = .ok (.aload_n 0, 1) := by decide +kernel
theorem d_Or_fit_92 : decode prog_3_method_2_code 92 = .ok (.getfield 9, 3) := by decide +kernel
theorem d_Or_fit_95 : decode prog_3_method_2_code 95 = .ok (.aload_n 0, 1) := by decide +kernel
theorem d_Or_fit_96 : decode prog_3_method_2_code 96 = .ok (.getfield 18, 3) := by decide +kernel
theorem d_Or_fit_99 : decode prog_3_method_2_code 99 = .ok (.iload 5, 2) := by decide +kernel
theorem d_Or_fit_101 : decode prog_3_method_2_code 101 = .ok (.iaload, 1) := by decide +kernel
theorem d_Or_fit_102 : decode prog_3_method_2_code 102 = .ok (.iload_n 3, 1) := by decide +kernel
theorem d_Or_fit_103 : decode prog_3_method_2_code 103 = .ok (.iastore, 1) := by decide +kernel
theorem d_Or_fit_104 : decode prog_3_method_2_code 104 = .ok (.aload_n 0, 1) := by decide +kernel
theorem d_Or_fit_105 : decode prog_3_method_2_code 105 = .ok (.getfield 18, 3) := by decide +kernel
theorem d_Or_fit_108 : decode prog_3_method_2_code 108 = .ok (.iload 5, 2) := by decide +kernel
theorem d_Or_fit_110 : decode prog_3_method_2_code 110 = .ok (.dup2, 1) := by decide +kernel
theorem d_Or_fit_111 : decode prog_3_method_2_code 111 = .ok (.iaload, 1) := by decide +kernel
theorem d_Or_fit_112 : decode prog_3_method_2_code 112 = .ok (.iconst 1, 1) := by decide +kernel
theorem d_Or_fit_113 : decode prog_3_method_2_code 113 = .ok (.iadd, 1) := by decide +kernel
theorem d_Or_fit_114 : decode prog_3_method_2_code 114 = .ok (.iastore, 1) := by decide +kernel
theorem d_Or_fit_115 : decode prog_3_method_2_code 115 = .ok (.aload_n 0, 1) := by decide +kernel
theorem d_Or_fit_116 : decode prog_3_method_2_code 116 = .ok (.iload_n 3, 1) := by decide +kernel
theorem d_Or_fit_117 : decode prog_3_method_2_code 117 = .ok (.invokevirtual 35, 3) := by decide +kernel
theorem d_Or_fit_120 : decode prog_3_method_2_code 120 = .ok (.istore_n 3, 1) := by decide +kernel
theorem d_Or_fit_121 : decode prog_3_method_2_code 121 = .ok (.iinc 4 1, 3) := by decide +kernel
theorem d_Or_fit_124 : decode prog_3_method_2_code 124 = .ok (.goto (-45), 3) := by decide +kernel
theorem d_Or_fit_127 : decode prog_3_method_2_code 127 = .ok (.return_, 1) := by decide +kernel
def f_O_fit (o_columnCount : Int32) (o_sets_n : Nat) (o_sets : Nat → Int32) (o_starts_n : Nat) (o_starts : Nat → Int32) (o_nexts_n : Nat) (o_nexts : Nat → Int32) (nc0 : Int32) : Option (Int32 × (Nat → Int32) × (Nat → Int32) × (Nat → Int32)) :=
  ck_if (nc0 = o_columnCount) (some (o_columnCount, o_sets, o_starts, o_nexts)) (ck_nm ((1 : Int32) <<< (nc0 &&& 31)) <| fun x_2 => ck_jn (fun (w_3 : Nat → Int32) (w_4 : Nat → Int32) => ck_nm (x_2 - 1) <| fun x_5 => lo4 (fun k_79 (v4_6 : Int32) (v3_7 : Int32) (w_8 : Nat → Int32) (w_9 : Nat → Int32) => ck_if (x_2 ≤ v4_6) (some (nc0, w_8, w_3, w_9)) (ck_b1 (f_bitCount v3_7) <| fun r_11 => ck_in r_11 o_nexts_n <| ck_in (w_9 r_11.toNatClampNeg) o_sets_n <| ck_in r_11 o_nexts_n <| ck_in r_11 o_nexts_n <| ck_b1 (f_O_oneLess nc0 v3_7) <| fun r_17 => ck_nm (v4_6 + 1) <| fun x_19 => k_79 x_19 r_17 (upd w_8 (w_9 r_11.toNatClampNeg).toNatClampNeg v3_7) (upd w_9 r_11.toNatClampNeg ((w_9 r_11.toNatClampNeg) + 1)))) ck_F 0 x_5 o_sets w_4) <| fun k_72 => lo3 (fun k_23 (v3_20 : Int32) (w_21 : Nat → Int32) (w_22 : Nat → Int32) => ck_if (nc0 < v3_20) (k_72 w_21 w_22) (ck_in v3_20 o_starts_n <| ck_in v3_20 o_nexts_n <| ck_in v3_20 o_starts_n <| ck_b1 (f_choose nc0 v3_20) <| fun r_27 => ck_in (v3_20 + 1) o_starts_n <| ck_nm (v3_20 + 1) <| fun x_30 => k_23 x_30 (upd w_21 (v3_20 + 1).toNatClampNeg ((w_21 v3_20.toNatClampNeg) + r_27)) (upd w_22 v3_20.toNatClampNeg (w_21 v3_20.toNatClampNeg)))) ck_F 0 o_starts o_nexts)
set_option maxHeartbeats 4000000 in
set_option maxRecDepth 100000 in
theorem c_O_fit (l : Launch) (dC : Nat → ClassId) (dI : Nat → Nat → Nat) (cI cJ cB cZ cT cN : ClassId) (sz : Nat) (h_o : Nat) (h_o_sets : Nat) (h_o_starts : Nat) (h_o_nexts : Nat) (o_columnCount : Int32) (o_sets_n : Nat) (o_sets : Nat → Int32) (o_starts_n : Nat) (o_starts : Nat → Int32) (o_nexts_n : Nat) (o_nexts : Nat → Int32) (nc0 : Int32) (r : Int32 × (Nat → Int32) × (Nat → Int32) × (Nat → Int32)) (h : f_O_fit o_columnCount o_sets_n o_sets o_starts_n o_starts o_nexts_n o_nexts nc0 = some r) : Met l y_Or_fit w_Or_fit ({ frames := 1, cells := 0, slots := 0, locals := 23 } : Room) (va_Pc [.ref h_o, .int nc0] (fun U => U.heap.size = sz ∧ va_P (dC, dI) cl_all [(h_o, .inr (1, [.int o_columnCount, .ref h_o_sets, .ref h_o_starts, .ref h_o_nexts])), (h_o_sets, .inl (cI, o_sets_n, .inl o_sets)), (h_o_starts, .inl (cI, o_starts_n, .inl o_starts)), (h_o_nexts, .inl (cI, o_nexts_n, .inl o_nexts))] U.heap ∧ va_K (dC, dI) cl_all [(cI, .int), (cJ, .long), (cB, .byte), (cZ, .boolean), (cT, .object "BasisWalk$Table"), (cN, .object "BasisWalkModel$Num")] U ∧ NW U ∧ va_D (fun _ => True) [(h_o, .inr (1, [.int o_columnCount, .ref h_o_sets, .ref h_o_starts, .ref h_o_nexts])), (h_o_sets, .inl (cI, o_sets_n, .inl o_sets)), (h_o_starts, .inl (cI, o_starts_n, .inl o_starts)), (h_o_nexts, .inl (cI, o_nexts_n, .inl o_nexts))])) (va_Qv (fun u : Int32 × (Nat → Int32) × (Nat → Int32) × (Nat → Int32) => u = r) (fun (u : Int32 × (Nat → Int32) × (Nat → Int32) × (Nat → Int32)) (t : State) => va_P (dC, dI) cl_all [(h_o, .inr (1, [.int u.1, .ref h_o_sets, .ref h_o_starts, .ref h_o_nexts])), (h_o_sets, .inl (cI, o_sets_n, .inl u.2.1)), (h_o_starts, .inl (cI, o_starts_n, .inl u.2.2.1)), (h_o_nexts, .inl (cI, o_nexts_n, .inl u.2.2.2))] t.heap ∧ va_K (dC, dI) cl_all [(cI, .int), (cJ, .long), (cB, .byte), (cZ, .boolean), (cT, .object "BasisWalk$Table"), (cN, .object "BasisWalkModel$Num")] t ∧ va_D (va_A [(h_o, .inr (1, [.int o_columnCount, .ref h_o_sets, .ref h_o_starts, .ref h_o_nexts])), (h_o_sets, .inl (cI, o_sets_n, .inl o_sets)), (h_o_starts, .inl (cI, o_starts_n, .inl o_starts)), (h_o_nexts, .inl (cI, o_nexts_n, .inl o_nexts))] sz) [(h_o, .inr (1, [.int u.1, .ref h_o_sets, .ref h_o_starts, .ref h_o_nexts])), (h_o_sets, .inl (cI, o_sets_n, .inl u.2.1)), (h_o_starts, .inl (cI, o_starts_n, .inl u.2.2.1)), (h_o_nexts, .inl (cI, o_nexts_n, .inl u.2.2.2))]) (va_A [(h_o, .inr (1, [.int o_columnCount, .ref h_o_sets, .ref h_o_starts, .ref h_o_nexts])), (h_o_sets, .inl (cI, o_sets_n, .inl o_sets)), (h_o_starts, .inl (cI, o_starts_n, .inl o_starts)), (h_o_nexts, .inl (cI, o_nexts_n, .inl o_nexts))] sz)) 0 0 (va_A [(h_o, .inr (1, [.int o_columnCount, .ref h_o_sets, .ref h_o_starts, .ref h_o_nexts])), (h_o_sets, .inl (cI, o_sets_n, .inl o_sets)), (h_o_starts, .inl (cI, o_starts_n, .inl o_starts)), (h_o_nexts, .inl (cI, o_nexts_n, .inl o_nexts))] sz) := by
  refine Met.ofW (cc := prog_3_method_2_code) (maxL := 6) (ret := (Option.none : Option Jvm.ClassFile.FieldType)) (by decide) rfl ?_
  intro p e s m args below meth c s₁ B hml hv
  obtain ⟨hAR, hsz, hP, hK, hN, hD0⟩ := hv
  have hx := B.exec
  have hb := B.bytes
  have hr := B.returns
  have hts := atoms_spec (ws := w_Or_fit) B.pre
  have hown : s.vm.findClass "BasisWalk$Order" = some m.cls := findClass_of_methodNamed B.named
  have hlocks := B.notSynchronized
  clear B
  subst hsz
  have hD := hD0.self (sz := s.heap.size)
  generalize hAe : va_A [(h_o, .inr (1, [.int o_columnCount, .ref h_o_sets, .ref h_o_starts, .ref h_o_nexts])), (h_o_sets, .inl (cI, o_sets_n, .inl o_sets)), (h_o_starts, .inl (cI, o_starts_n, .inl o_starts)), (h_o_nexts, .inl (cI, o_nexts_n, .inl o_nexts))] s.heap.size = A at hD ⊢
  have hA : ∀ q : Nat, s.heap.size ≤ q → A q := fun q h => by rw [← hAe]; exact Or.inr h
  clear hAe hD0
  have hS : va_S A s.heap s.heap [] := va_S.rf
  have hl := lv_entry ([.ref h_o, .int nc0]) (n := 6) (Nat.le_of_ble_eq_true rfl)
  subst hAR
  rw [lg_entry_eq]
  generalize (lg_sl ([.ref h_o, .int nc0]) ++ List.replicate (6 - (lg_sl ([.ref h_o, .int nc0])).length) Slot.unset).toArray = ls at hl ⊢
  have hl : lv_has ls 6 [(0, .ref h_o), (1, .int nc0)] := hl
  change W p l e ({ frames := 1, cells := 0, slots := 0, locals := 23 } : Room) s m _ below meth c s.heap [] 0 0 _ _
  generalize hARe : ([.ref h_o, .int nc0] : List Value).toArray = AR at hts ⊢
  clear hARe
  generalize hQ : MQ below _ AR s 0 0 A = QQ
  have fl0 := hts _ (List.mem_cons_of_mem _ tw_92)
  have iw1 := (fun w hw => List.mem_cons_of_mem _ (in_Or w hw) : ∀ w ∈ u_ws "BasisWalk$Order" T_Or 4, w ∈ w_Or_fit)
  have fl2 := hts _ (List.mem_cons_of_mem _ tw_93)
  have fl3 := hts _ (List.mem_cons_of_mem _ tw_99)
  have fl4 := hts _ (List.mem_cons_of_mem _ tw_96)
  obtain ⟨H, hHe⟩ : ∃ H : Heap, H = s.heap := ⟨_, rfl⟩
  rw [← hHe] at hP ⊢
  replace hS : va_S A s.heap H [] := by rw [hHe]; exact va_S.rf
  clear hHe
  unfold f_O_fit at h
  refine lv_iload_n hx hb d_Or_fit_0 rfl (lv_at hl 1 rfl) ?_
  refine lv_aload_n hx hb d_Or_fit_1 rfl (lv_at hl 0 rfl) ?_
  refine va_get (D := (dC, dI)) (ci := 1) (v := .int o_columnCount) (C := "BasisWalk$Order") (T := T_Or) (N := 4) hx hb hts iw1 hown hK hP 0 rfl rfl 0 (by decide) fl0 (fun _ h9 => h9) rfl d_Or_fit_2 ?_
  refine lv_icmp_ne (tgt := 9) hx hb d_Or_fit_5 (by decide) (fun c_1 => ?_) (fun c_1 => ?_)
  · replace h := ck_if_f h c_1
    refine lv_aload_n hx hb d_Or_fit_9 rfl (lv_at hl 0 rfl) ?_
    refine lv_iload_n hx hb d_Or_fit_10 rfl (lv_at hl 1 rfl) ?_
    refine va_put (D := (dC, dI)) (ci := 1) (v := .int nc0) (ty := .int) (C := "BasisWalk$Order") (T := T_Or) (N := 4) hx hb hts iw1 ty_Or tyok_Or nm_Or hown hK hP hD hS 0 rfl rfl 0 (by decide) fl0 (fun _ h9 => h9) rfl (by decide +kernel) rfl rfl (Nat.le_of_ble_eq_true rfl) d_Or_fit_11 (fun H locs hP hD hS => ?_)
    have hP : va_P (dC, dI) cl_all [(h_o, .inr (1, [.int nc0, .ref h_o_sets, .ref h_o_starts, .ref h_o_nexts])), (h_o_sets, .inl (cI, o_sets_n, .inl o_sets)), (h_o_starts, .inl (cI, o_starts_n, .inl o_starts)), (h_o_nexts, .inl (cI, o_nexts_n, .inl o_nexts))] H := hP
    have hD : va_D A [(h_o, .inr (1, [.int nc0, .ref h_o_sets, .ref h_o_starts, .ref h_o_nexts])), (h_o_sets, .inl (cI, o_sets_n, .inl o_sets)), (h_o_starts, .inl (cI, o_starts_n, .inl o_starts)), (h_o_nexts, .inl (cI, o_nexts_n, .inl o_nexts))] := hD
    refine lv_iconst (v := 1) hx hb d_Or_fit_14 (by decide) ?_
    refine lv_aload_n hx hb d_Or_fit_15 rfl (lv_at hl 0 rfl) ?_
    refine va_get (D := (dC, dI)) (ci := 1) (v := .int nc0) (C := "BasisWalk$Order") (T := T_Or) (N := 4) hx hb hts iw1 hown hK hP 0 rfl rfl 0 (by decide) fl0 (fun _ h9 => h9) rfl d_Or_fit_16 ?_
    refine lv_ishl hx hb d_Or_fit_19 ?_
    refine lv_topi (fun x_2 ex_2 => ?_)
    replace h := ck_nm_s h ex_2
    refine lv_istore_n (lv' := [(2, .int x_2), (0, .ref h_o), (1, .int nc0)]) hx hb d_Or_fit_20 rfl hl (by decide) rfl (fun ls hl => ?_)
    refine lv_iconst (v := 0) hx hb d_Or_fit_21 (by decide) ?_
    refine lv_istore_n (lv' := [(3, .int 0), (2, .int x_2), (0, .ref h_o), (1, .int nc0)]) hx hb d_Or_fit_22 rfl hl (by decide) rfl (fun ls hl => ?_)
    refine ck_jn_W h (fun k' => ∀ (w_3 : Nat → Int32) (w_4 : Nat → Int32), k' w_3 w_4 = some r → ∀ (H : Heap) (locs : List Loc), va_P (dC, dI) cl_all [(h_o, .inr (1, [.int nc0, .ref h_o_sets, .ref h_o_starts, .ref h_o_nexts])), (h_o_sets, .inl (cI, o_sets_n, .inl o_sets)), (h_o_starts, .inl (cI, o_starts_n, .inl w_3)), (h_o_nexts, .inl (cI, o_nexts_n, .inl w_4))] H → va_D A [(h_o, .inr (1, [.int nc0, .ref h_o_sets, .ref h_o_starts, .ref h_o_nexts])), (h_o_sets, .inl (cI, o_sets_n, .inl o_sets)), (h_o_starts, .inl (cI, o_starts_n, .inl w_3)), (h_o_nexts, .inl (cI, o_nexts_n, .inl w_4))] → va_S A s.heap H locs → ∀ ls : Array Slot, lv_has ls 6 [(0, .ref h_o), (2, .int x_2)] → W p l e ({ frames := 1, cells := 0, slots := 0, locals := 23 } : Room) s m AR below meth c H locs 0 0 QQ (F0 m 72 ls [])) ?_ ?_
    · intro w_3 w_4 h H locs hP hD hS ls hl
      refine lv_iload_n hx hb d_Or_fit_72 rfl (lv_at hl 1 rfl) ?_
      refine lv_iconst (v := 1) hx hb d_Or_fit_73 (by decide) ?_
      refine lv_isub hx hb d_Or_fit_74 ?_
      refine lv_topi (fun x_5 ex_5 => ?_)
      replace h := ck_nm_s h ex_5
      refine lv_istore_n (lv' := [(3, .int x_5), (0, .ref h_o), (2, .int x_2)]) hx hb d_Or_fit_75 rfl hl (by decide) rfl (fun ls hl => ?_)
      refine lv_iconst (v := 0) hx hb d_Or_fit_76 (by decide) ?_
      refine lv_istore (lv' := [(4, .int 0), (3, .int x_5), (0, .ref h_o), (2, .int x_2)]) hx hb d_Or_fit_77 hl (by decide) rfl (fun ls hl => ?_)
      refine lo4_W (r := r) (fun (v4_6 : Int32) (v3_7 : Int32) (w_8 : Nat → Int32) (w_9 : Nat → Int32) => ∀ (H : Heap) (locs : List Loc), va_P (dC, dI) cl_all [(h_o, .inr (1, [.int nc0, .ref h_o_sets, .ref h_o_starts, .ref h_o_nexts])), (h_o_sets, .inl (cI, o_sets_n, .inl w_8)), (h_o_starts, .inl (cI, o_starts_n, .inl w_3)), (h_o_nexts, .inl (cI, o_nexts_n, .inl w_9))] H → va_D A [(h_o, .inr (1, [.int nc0, .ref h_o_sets, .ref h_o_starts, .ref h_o_nexts])), (h_o_sets, .inl (cI, o_sets_n, .inl w_8)), (h_o_starts, .inl (cI, o_starts_n, .inl w_3)), (h_o_nexts, .inl (cI, o_nexts_n, .inl w_9))] → va_S A s.heap H locs → ∀ ls : Array Slot, lv_has ls 6 [(0, .ref h_o), (2, .int x_2), (3, .int v3_7), (4, .int v4_6)] → W p l e ({ frames := 1, cells := 0, slots := 0, locals := 23 } : Room) s m AR below meth c H locs 0 0 QQ (F0 m 79 ls [])) ?_ _ _ _ _ _ h _ _ hP hD hS _ (lv_sub hl [2, 3, 1, 0] rfl)
      intro k_79 v4_6 v3_7 w_8 w_9 J_79 h H locs hP hD hS ls hl
      refine lv_iload hx hb d_Or_fit_79 (lv_at hl 3 rfl) ?_
      refine lv_iload_n hx hb d_Or_fit_81 rfl (lv_at hl 1 rfl) ?_
      refine lv_icmp_ge (tgt := 127) hx hb d_Or_fit_82 (by decide) (fun c_10 => ?_) (fun c_10 => ?_)
      · replace h := ck_if_t h c_10
        obtain rfl := Option.some.inj h
        subst hQ
        exact W.vret hx hb hr (fun t ht hW => ⟨⟨(nc0, w_8, w_3, w_9), rfl, rfl, by rw [ht]; exact hP, va_K.moved hW.alike hK, hD⟩, hS.F ht⟩) hS.2.2 d_Or_fit_127
      · replace h := ck_if_f h c_10
        refine lv_iload_n hx hb d_Or_fit_85 rfl (lv_at hl 2 rfl) ?_
        obtain ⟨r_11, hc_12, h⟩ := ck_b1_s h
        have hPc := hP.sub (ws' := []) [] rfl
        have hDc := hD.sub (ws' := []) [] (by decide) rfl
        have hFc := va_free (wc := []) hD hS hA [] rfl
        refine va_calli (va_runS (As := [.int v3_7]) (rest := []) ⟨hx, hb, hml, hown, hts⟩ (c_bitCount l dC dI cI cJ cB cZ cT cN H.size v3_7 _ hc_12) (va_cwS 1 hts (tb_S tw_195 tw_196 tw_10 tw_197) rfl rfl rfl (by decide +kernel) ⟨Nat.le_of_ble_eq_true rfl, Nat.le_of_ble_eq_true rfl⟩) ⟨fun a U g mk q => by obtain ⟨q0, q1, qP, qK, qN, qD⟩ := q; exact ⟨q0, q1, qP, va_K.moved (u := U) (U := U.calling g mk a) (Vm.Alike.refl U.vm) qK, qN.same rfl, qD⟩, fun U hU hW => ⟨rfl, by rw [hU], by rw [hU]; exact hPc, va_K.moved hW.alike hK, hN.warm hW, hDc.weaken (fun _ _ _ _ => trivial)⟩⟩ rfl rfl hl.1 rfl (lv_room (Nat.le_of_ble_eq_true rfl)) d_Or_fit_86 ⟨Nat.zero_le _, Nat.zero_le _⟩) hS (fun q _ h => hFc q h) hFc (fun rr u t H1 locs ht hvm hw hB hz1 hk1 hS => ?_)
        replace hw := hw.symm
        subst hw
        obtain ⟨hP1, -, hD1⟩ := hB
        rw [ht] at hP1
        obtain ⟨hP, hD⟩ := va_join (wr := [(h_o, .inr (1, [.int nc0, .ref h_o_sets, .ref h_o_starts, .ref h_o_nexts])), (h_o_sets, .inl (cI, o_sets_n, .inl w_8)), (h_o_starts, .inl (cI, o_starts_n, .inl w_3)), (h_o_nexts, .inl (cI, o_nexts_n, .inl w_9))]) (w1 := []) hP hD [] [0, 1, 2, 3] rfl rfl (by decide) (by decide) hk1 hFc hP1 hD1
        generalize H1 = H at hP hS ⊢
        have hP : va_P (dC, dI) cl_all [(h_o, .inr (1, [.int nc0, .ref h_o_sets, .ref h_o_starts, .ref h_o_nexts])), (h_o_sets, .inl (cI, o_sets_n, .inl w_8)), (h_o_starts, .inl (cI, o_starts_n, .inl w_3)), (h_o_nexts, .inl (cI, o_nexts_n, .inl w_9))] H := hP.sub [0, 1, 2, 3] rfl
        have hD : va_D A [(h_o, .inr (1, [.int nc0, .ref h_o_sets, .ref h_o_starts, .ref h_o_nexts])), (h_o_sets, .inl (cI, o_sets_n, .inl w_8)), (h_o_starts, .inl (cI, o_starts_n, .inl w_3)), (h_o_nexts, .inl (cI, o_nexts_n, .inl w_9))] := hD.sub [0, 1, 2, 3] (by decide) rfl
        refine lv_istore (lv' := [(5, .int r_11), (0, .ref h_o), (2, .int x_2), (3, .int v3_7), (4, .int v4_6)]) hx hb d_Or_fit_89 hl (by decide) rfl (fun ls hl => ?_)
        refine lv_aload_n hx hb d_Or_fit_91 rfl (lv_at hl 1 rfl) ?_
        refine va_get (D := (dC, dI)) (ci := 1) (v := .ref h_o_sets) (C := "BasisWalk$Order") (T := T_Or) (N := 4) hx hb hts iw1 hown hK hP 0 rfl rfl 1 (by decide) fl2 (fun _ h9 => h9) rfl d_Or_fit_92 ?_
        refine lv_aload_n hx hb d_Or_fit_95 rfl (lv_at hl 1 rfl) ?_
        refine va_get (D := (dC, dI)) (ci := 1) (v := .ref h_o_nexts) (C := "BasisWalk$Order") (T := T_Or) (N := 4) hx hb hts iw1 hown hK hP 0 rfl rfl 3 (by decide) fl3 (fun _ h9 => h9) rfl d_Or_fit_96 ?_
        refine lv_iload hx hb d_Or_fit_99 (lv_at hl 0 rfl) ?_
        obtain ⟨g_13, h⟩ := ck_in_s h
        refine va_iald hx hb hK hP 3 0 rfl rfl g_13 d_Or_fit_101 ?_
        refine lv_iload_n hx hb d_Or_fit_102 rfl (lv_at hl 3 rfl) ?_
        obtain ⟨g_14, h⟩ := ck_in_s h
        refine va_iast hx hb hK hP hD hS 1 0 rfl rfl g_14 d_Or_fit_103 (fun H locs hP hD hS => ?_)
        have hP : va_P (dC, dI) cl_all [(h_o, .inr (1, [.int nc0, .ref h_o_sets, .ref h_o_starts, .ref h_o_nexts])), (h_o_sets, .inl (cI, o_sets_n, .inl (upd w_8 (w_9 r_11.toNatClampNeg).toNatClampNeg v3_7))), (h_o_starts, .inl (cI, o_starts_n, .inl w_3)), (h_o_nexts, .inl (cI, o_nexts_n, .inl w_9))] H := hP
        have hD : va_D A [(h_o, .inr (1, [.int nc0, .ref h_o_sets, .ref h_o_starts, .ref h_o_nexts])), (h_o_sets, .inl (cI, o_sets_n, .inl (upd w_8 (w_9 r_11.toNatClampNeg).toNatClampNeg v3_7))), (h_o_starts, .inl (cI, o_starts_n, .inl w_3)), (h_o_nexts, .inl (cI, o_nexts_n, .inl w_9))] := hD
        refine lv_aload_n hx hb d_Or_fit_104 rfl (lv_at hl 1 rfl) ?_
        refine va_get (D := (dC, dI)) (ci := 1) (v := .ref h_o_nexts) (C := "BasisWalk$Order") (T := T_Or) (N := 4) hx hb hts iw1 hown hK hP 0 rfl rfl 3 (by decide) fl3 (fun _ h9 => h9) rfl d_Or_fit_105 ?_
        refine lv_iload hx hb d_Or_fit_108 (lv_at hl 0 rfl) ?_
        refine lv_dup2_11 hx hb d_Or_fit_110 rfl rfl ?_
        obtain ⟨g_15, h⟩ := ck_in_s h
        refine va_iald hx hb hK hP 3 0 rfl rfl g_15 d_Or_fit_111 ?_
        refine lv_iconst (v := 1) hx hb d_Or_fit_112 (by decide) ?_
        refine lv_iadd hx hb d_Or_fit_113 ?_
        obtain ⟨g_16, h⟩ := ck_in_s h
        refine va_iast hx hb hK hP hD hS 3 0 rfl rfl g_16 d_Or_fit_114 (fun H locs hP hD hS => ?_)
        have hP : va_P (dC, dI) cl_all [(h_o, .inr (1, [.int nc0, .ref h_o_sets, .ref h_o_starts, .ref h_o_nexts])), (h_o_sets, .inl (cI, o_sets_n, .inl (upd w_8 (w_9 r_11.toNatClampNeg).toNatClampNeg v3_7))), (h_o_starts, .inl (cI, o_starts_n, .inl w_3)), (h_o_nexts, .inl (cI, o_nexts_n, .inl (upd w_9 r_11.toNatClampNeg ((w_9 r_11.toNatClampNeg) + 1))))] H := hP
        have hD : va_D A [(h_o, .inr (1, [.int nc0, .ref h_o_sets, .ref h_o_starts, .ref h_o_nexts])), (h_o_sets, .inl (cI, o_sets_n, .inl (upd w_8 (w_9 r_11.toNatClampNeg).toNatClampNeg v3_7))), (h_o_starts, .inl (cI, o_starts_n, .inl w_3)), (h_o_nexts, .inl (cI, o_nexts_n, .inl (upd w_9 r_11.toNatClampNeg ((w_9 r_11.toNatClampNeg) + 1))))] := hD
        refine lv_aload_n hx hb d_Or_fit_115 rfl (lv_at hl 1 rfl) ?_
        refine lv_iload_n hx hb d_Or_fit_116 rfl (lv_at hl 3 rfl) ?_
        obtain ⟨r_17, hc_18, h⟩ := ck_b1_s h
        have hPc := hP.sub (ws' := [(h_o, .inr (1, [.int nc0, .ref h_o_sets, .ref h_o_starts, .ref h_o_nexts]))]) [0] rfl
        have hDc := hD.sub (ws' := [(h_o, .inr (1, [.int nc0, .ref h_o_sets, .ref h_o_starts, .ref h_o_nexts]))]) [0] (by decide) rfl
        have hFc := va_free (wc := [(h_o, .inr (1, [.int nc0, .ref h_o_sets, .ref h_o_starts, .ref h_o_nexts]))]) hD hS hA [0] rfl
        refine va_calli (va_runV (As := [.int v3_7]) (rest := []) ⟨hx, hb, hml, hown, hts⟩ (c_O_oneLess l dC dI cI cJ cB cZ cT cN H.size h_o h_o_sets h_o_starts h_o_nexts nc0 v3_7 _ hc_18) (cwV 1 hts (tb_V tw_201 tw_203 tp_2 tw_4 tw_204) rfl rfl rfl (by decide +kernel) ⟨Nat.le_of_ble_eq_true rfl, Nat.le_of_ble_eq_true rfl⟩) ⟨fun a U g mk q => by obtain ⟨q0, q1, qP, qK, qN, qD⟩ := q; exact ⟨q0, q1, qP, va_K.moved (u := U) (U := U.calling g mk a) (Vm.Alike.refl U.vm) qK, qN.same rfl, qD⟩, va_recv hK hPc (ci := 1) (q0 := 0) rfl rfl, fun U hU hW => ⟨rfl, by rw [hU], by rw [hU]; exact hPc, va_K.moved hW.alike hK, hN.warm hW, hDc.weaken (fun _ _ _ _ => trivial)⟩⟩ rfl rfl hl.1 rfl (lv_room (Nat.le_of_ble_eq_true rfl)) d_Or_fit_117 ⟨Nat.zero_le _, Nat.zero_le _⟩) hS (fun q _ h => hFc q h) hFc (fun rr u t H1 locs ht hvm hw hB hz1 hk1 hS => ?_)
        replace hw := hw.symm
        subst hw
        obtain ⟨hP1, -, hD1⟩ := hB
        rw [ht] at hP1
        obtain ⟨hP, hD⟩ := va_join (wr := [(h_o_sets, .inl (cI, o_sets_n, .inl (upd w_8 (w_9 r_11.toNatClampNeg).toNatClampNeg v3_7))), (h_o_starts, .inl (cI, o_starts_n, .inl w_3)), (h_o_nexts, .inl (cI, o_nexts_n, .inl (upd w_9 r_11.toNatClampNeg ((w_9 r_11.toNatClampNeg) + 1))))]) (w1 := [(h_o, .inr (1, [.int nc0, .ref h_o_sets, .ref h_o_starts, .ref h_o_nexts]))]) hP hD [0] [1, 2, 3] rfl rfl (by decide) (by decide) hk1 hFc hP1 hD1
        generalize H1 = H at hP hS ⊢
        have hP : va_P (dC, dI) cl_all [(h_o, .inr (1, [.int nc0, .ref h_o_sets, .ref h_o_starts, .ref h_o_nexts])), (h_o_sets, .inl (cI, o_sets_n, .inl (upd w_8 (w_9 r_11.toNatClampNeg).toNatClampNeg v3_7))), (h_o_starts, .inl (cI, o_starts_n, .inl w_3)), (h_o_nexts, .inl (cI, o_nexts_n, .inl (upd w_9 r_11.toNatClampNeg ((w_9 r_11.toNatClampNeg) + 1))))] H := hP.sub [3, 0, 1, 2] rfl
        have hD : va_D A [(h_o, .inr (1, [.int nc0, .ref h_o_sets, .ref h_o_starts, .ref h_o_nexts])), (h_o_sets, .inl (cI, o_sets_n, .inl (upd w_8 (w_9 r_11.toNatClampNeg).toNatClampNeg v3_7))), (h_o_starts, .inl (cI, o_starts_n, .inl w_3)), (h_o_nexts, .inl (cI, o_nexts_n, .inl (upd w_9 r_11.toNatClampNeg ((w_9 r_11.toNatClampNeg) + 1))))] := hD.sub [3, 0, 1, 2] (by decide) rfl
        refine lv_istore_n (lv' := [(3, .int r_17), (5, .int r_11), (0, .ref h_o), (2, .int x_2), (4, .int v4_6)]) hx hb d_Or_fit_120 rfl hl (by decide) rfl (fun ls hl => ?_)
        obtain ⟨x_19, ex_19⟩ : ∃ y : Int32, y = v4_6 + 1 := ⟨_, rfl⟩
        replace h := ck_nm_s h ex_19
        refine lv_iinc (v := x_19) (lv' := [(4, .int x_19), (3, .int r_17), (5, .int r_11), (0, .ref h_o), (2, .int x_2)]) hx hb d_Or_fit_121 hl (k := 4) rfl (by rw [ex_19]; rfl) (by decide) rfl (fun ls hl => ?_)
        refine lv_goto (tgt := 79) hx hb d_Or_fit_124 (by decide) ?_
        exact J_79 _ _ _ _ h _ _ hP hD hS _ (lv_sub hl [3, 4, 1, 0] rfl)
    · intro k_72 J_72 h
      refine lo3_W (r := r) (fun (v3_20 : Int32) (w_21 : Nat → Int32) (w_22 : Nat → Int32) => ∀ (H : Heap) (locs : List Loc), va_P (dC, dI) cl_all [(h_o, .inr (1, [.int nc0, .ref h_o_sets, .ref h_o_starts, .ref h_o_nexts])), (h_o_sets, .inl (cI, o_sets_n, .inl o_sets)), (h_o_starts, .inl (cI, o_starts_n, .inl w_21)), (h_o_nexts, .inl (cI, o_nexts_n, .inl w_22))] H → va_D A [(h_o, .inr (1, [.int nc0, .ref h_o_sets, .ref h_o_starts, .ref h_o_nexts])), (h_o_sets, .inl (cI, o_sets_n, .inl o_sets)), (h_o_starts, .inl (cI, o_starts_n, .inl w_21)), (h_o_nexts, .inl (cI, o_nexts_n, .inl w_22))] → va_S A s.heap H locs → ∀ ls : Array Slot, lv_has ls 6 [(0, .ref h_o), (2, .int x_2), (3, .int v3_20)] → W p l e ({ frames := 1, cells := 0, slots := 0, locals := 23 } : Room) s m AR below meth c H locs 0 0 QQ (F0 m 23 ls [])) ?_ _ _ _ _ h _ _ hP hD hS _ (lv_sub hl [2, 1, 0] rfl)
      intro k_23 v3_20 w_21 w_22 J_23 h H locs hP hD hS ls hl
      refine lv_iload_n hx hb d_Or_fit_23 rfl (lv_at hl 2 rfl) ?_
      refine lv_aload_n hx hb d_Or_fit_24 rfl (lv_at hl 0 rfl) ?_
      refine va_get (D := (dC, dI)) (ci := 1) (v := .int nc0) (C := "BasisWalk$Order") (T := T_Or) (N := 4) hx hb hts iw1 hown hK hP 0 rfl rfl 0 (by decide) fl0 (fun _ h9 => h9) rfl d_Or_fit_25 ?_
      refine lv_icmp_gt (tgt := 72) hx hb d_Or_fit_28 (by decide) (fun c_23 => ?_) (fun c_23 => ?_)
      · replace h := ck_if_t h c_23
        exact J_72 _ _ h _ _ hP hD hS _ (lv_sub hl [0, 1] rfl)
      · replace h := ck_if_f h c_23
        refine lv_aload_n hx hb d_Or_fit_31 rfl (lv_at hl 0 rfl) ?_
        refine va_get (D := (dC, dI)) (ci := 1) (v := .ref h_o_nexts) (C := "BasisWalk$Order") (T := T_Or) (N := 4) hx hb hts iw1 hown hK hP 0 rfl rfl 3 (by decide) fl3 (fun _ h9 => h9) rfl d_Or_fit_32 ?_
        refine lv_iload_n hx hb d_Or_fit_35 rfl (lv_at hl 2 rfl) ?_
        refine lv_aload_n hx hb d_Or_fit_36 rfl (lv_at hl 0 rfl) ?_
        refine va_get (D := (dC, dI)) (ci := 1) (v := .ref h_o_starts) (C := "BasisWalk$Order") (T := T_Or) (N := 4) hx hb hts iw1 hown hK hP 0 rfl rfl 2 (by decide) fl4 (fun _ h9 => h9) rfl d_Or_fit_37 ?_
        refine lv_iload_n hx hb d_Or_fit_40 rfl (lv_at hl 2 rfl) ?_
        obtain ⟨g_24, h⟩ := ck_in_s h
        refine va_iald hx hb hK hP 2 0 rfl rfl g_24 d_Or_fit_41 ?_
        obtain ⟨g_25, h⟩ := ck_in_s h
        refine va_iast hx hb hK hP hD hS 3 0 rfl rfl g_25 d_Or_fit_42 (fun H locs hP hD hS => ?_)
        have hP : va_P (dC, dI) cl_all [(h_o, .inr (1, [.int nc0, .ref h_o_sets, .ref h_o_starts, .ref h_o_nexts])), (h_o_sets, .inl (cI, o_sets_n, .inl o_sets)), (h_o_starts, .inl (cI, o_starts_n, .inl w_21)), (h_o_nexts, .inl (cI, o_nexts_n, .inl (upd w_22 v3_20.toNatClampNeg (w_21 v3_20.toNatClampNeg))))] H := hP
        have hD : va_D A [(h_o, .inr (1, [.int nc0, .ref h_o_sets, .ref h_o_starts, .ref h_o_nexts])), (h_o_sets, .inl (cI, o_sets_n, .inl o_sets)), (h_o_starts, .inl (cI, o_starts_n, .inl w_21)), (h_o_nexts, .inl (cI, o_nexts_n, .inl (upd w_22 v3_20.toNatClampNeg (w_21 v3_20.toNatClampNeg))))] := hD
        refine lv_aload_n hx hb d_Or_fit_43 rfl (lv_at hl 0 rfl) ?_
        refine va_get (D := (dC, dI)) (ci := 1) (v := .ref h_o_starts) (C := "BasisWalk$Order") (T := T_Or) (N := 4) hx hb hts iw1 hown hK hP 0 rfl rfl 2 (by decide) fl4 (fun _ h9 => h9) rfl d_Or_fit_44 ?_
        refine lv_iload_n hx hb d_Or_fit_47 rfl (lv_at hl 2 rfl) ?_
        refine lv_iconst (v := 1) hx hb d_Or_fit_48 (by decide) ?_
        refine lv_iadd hx hb d_Or_fit_49 ?_
        refine lv_aload_n hx hb d_Or_fit_50 rfl (lv_at hl 0 rfl) ?_
        refine va_get (D := (dC, dI)) (ci := 1) (v := .ref h_o_starts) (C := "BasisWalk$Order") (T := T_Or) (N := 4) hx hb hts iw1 hown hK hP 0 rfl rfl 2 (by decide) fl4 (fun _ h9 => h9) rfl d_Or_fit_51 ?_
        refine lv_iload_n hx hb d_Or_fit_54 rfl (lv_at hl 2 rfl) ?_
        obtain ⟨g_26, h⟩ := ck_in_s h
        refine va_iald hx hb hK hP 2 0 rfl rfl g_26 d_Or_fit_55 ?_
        refine lv_aload_n hx hb d_Or_fit_56 rfl (lv_at hl 0 rfl) ?_
        refine va_get (D := (dC, dI)) (ci := 1) (v := .int nc0) (C := "BasisWalk$Order") (T := T_Or) (N := 4) hx hb hts iw1 hown hK hP 0 rfl rfl 0 (by decide) fl0 (fun _ h9 => h9) rfl d_Or_fit_57 ?_
        refine lv_iload_n hx hb d_Or_fit_60 rfl (lv_at hl 2 rfl) ?_
        obtain ⟨r_27, hc_28, h⟩ := ck_b1_s h
        have hPc := hP.sub (ws' := []) [] rfl
        have hDc := hD.sub (ws' := []) [] (by decide) rfl
        have hFc := va_free (wc := []) hD hS hA [] rfl
        refine va_calli (va_runSN (As := [.int nc0, .int v3_20]) (rest := [.int (w_21 v3_20.toNatClampNeg), .int (v3_20 + 1), .ref h_o_starts]) ⟨hx, hb, hml, hown, hts⟩ (c_choose l dC dI cI cJ cB cZ cT cN H.size nc0 v3_20 _ hc_28) ⟨va_cnB 2 hts (tb_G tw_194) rfl rfl rfl (hN _ tn_192) (hts _ (List.mem_cons_of_mem _ tw_1)) (by decide +kernel) ⟨Nat.le_of_ble_eq_true rfl, Nat.le_of_ble_eq_true rfl⟩, hts _ (List.mem_cons_of_mem _ tw_193), trivial⟩ ⟨fun a U g mk q => by obtain ⟨q0, q1, qP, qK, qN, qD⟩ := q; exact ⟨q0, q1, qP, va_K.moved (u := U) (U := U.calling g mk a) (Vm.Alike.refl U.vm) qK, qN.same rfl, qD⟩, fun U hU hW => ⟨rfl, by rw [hU], by rw [hU]; exact hPc, va_K.moved hW.alike hK, hN.warm hW, hDc.weaken (fun _ _ _ _ => trivial)⟩⟩ rfl rfl hl.1 rfl (lv_room (Nat.le_of_ble_eq_true rfl)) d_Or_fit_61 ⟨Nat.zero_le _, Nat.zero_le _⟩) hS (fun q _ h => hFc q h) hFc (fun rr u t H1 locs ht hvm hw hB hz1 hk1 hS => ?_)
        replace hw := hw.symm
        subst hw
        obtain ⟨hP1, -, hD1⟩ := hB
        rw [ht] at hP1
        obtain ⟨hP, hD⟩ := va_join (wr := [(h_o, .inr (1, [.int nc0, .ref h_o_sets, .ref h_o_starts, .ref h_o_nexts])), (h_o_sets, .inl (cI, o_sets_n, .inl o_sets)), (h_o_starts, .inl (cI, o_starts_n, .inl w_21)), (h_o_nexts, .inl (cI, o_nexts_n, .inl (upd w_22 v3_20.toNatClampNeg (w_21 v3_20.toNatClampNeg))))]) (w1 := []) hP hD [] [0, 1, 2, 3] rfl rfl (by decide) (by decide) hk1 hFc hP1 hD1
        generalize H1 = H at hP hS ⊢
        have hP : va_P (dC, dI) cl_all [(h_o, .inr (1, [.int nc0, .ref h_o_sets, .ref h_o_starts, .ref h_o_nexts])), (h_o_sets, .inl (cI, o_sets_n, .inl o_sets)), (h_o_starts, .inl (cI, o_starts_n, .inl w_21)), (h_o_nexts, .inl (cI, o_nexts_n, .inl (upd w_22 v3_20.toNatClampNeg (w_21 v3_20.toNatClampNeg))))] H := hP.sub [0, 1, 2, 3] rfl
        have hD : va_D A [(h_o, .inr (1, [.int nc0, .ref h_o_sets, .ref h_o_starts, .ref h_o_nexts])), (h_o_sets, .inl (cI, o_sets_n, .inl o_sets)), (h_o_starts, .inl (cI, o_starts_n, .inl w_21)), (h_o_nexts, .inl (cI, o_nexts_n, .inl (upd w_22 v3_20.toNatClampNeg (w_21 v3_20.toNatClampNeg))))] := hD.sub [0, 1, 2, 3] (by decide) rfl
        refine lv_iadd hx hb d_Or_fit_64 ?_
        obtain ⟨g_29, h⟩ := ck_in_s h
        refine va_iast hx hb hK hP hD hS 2 0 rfl rfl g_29 d_Or_fit_65 (fun H locs hP hD hS => ?_)
        have hP : va_P (dC, dI) cl_all [(h_o, .inr (1, [.int nc0, .ref h_o_sets, .ref h_o_starts, .ref h_o_nexts])), (h_o_sets, .inl (cI, o_sets_n, .inl o_sets)), (h_o_starts, .inl (cI, o_starts_n, .inl (upd w_21 (v3_20 + 1).toNatClampNeg ((w_21 v3_20.toNatClampNeg) + r_27)))), (h_o_nexts, .inl (cI, o_nexts_n, .inl (upd w_22 v3_20.toNatClampNeg (w_21 v3_20.toNatClampNeg))))] H := hP
        have hD : va_D A [(h_o, .inr (1, [.int nc0, .ref h_o_sets, .ref h_o_starts, .ref h_o_nexts])), (h_o_sets, .inl (cI, o_sets_n, .inl o_sets)), (h_o_starts, .inl (cI, o_starts_n, .inl (upd w_21 (v3_20 + 1).toNatClampNeg ((w_21 v3_20.toNatClampNeg) + r_27)))), (h_o_nexts, .inl (cI, o_nexts_n, .inl (upd w_22 v3_20.toNatClampNeg (w_21 v3_20.toNatClampNeg))))] := hD
        obtain ⟨x_30, ex_30⟩ : ∃ y : Int32, y = v3_20 + 1 := ⟨_, rfl⟩
        replace h := ck_nm_s h ex_30
        refine lv_iinc (v := x_30) (lv' := [(3, .int x_30), (0, .ref h_o), (2, .int x_2)]) hx hb d_Or_fit_66 hl (k := 2) rfl (by rw [ex_30]; rfl) (by decide) rfl (fun ls hl => ?_)
        refine lv_goto (tgt := 23) hx hb d_Or_fit_69 (by decide) ?_
        exact J_23 _ _ _ h _ _ hP hD hS _ (lv_sub hl [1, 2, 0] rfl)
  · replace h := ck_if_t h c_1
    obtain rfl := Option.some.inj h
    subst hQ
    exact W.vret hx hb hr (fun t ht hW => ⟨⟨(o_columnCount, o_sets, o_starts, o_nexts), rfl, rfl, by rw [ht]; exact hP, va_K.moved hW.alike hK, hD⟩, hS.F ht⟩) hS.2.2 d_Or_fit_8
theorem d_Mi_restart_0 : decode prog_2_method_2_code 0 = .ok (.aload_n 0, 1) := by decide +kernel
theorem d_Mi_restart_1 : decode prog_2_method_2_code 1 = .ok (.getfield 11, 3) := by decide +kernel
theorem d_Mi_restart_4 : decode prog_2_method_2_code 4 = .ok (.iconst 0, 1) := by decide +kernel
theorem d_Mi_restart_5 : decode prog_2_method_2_code 5 = .ok (.lconst 1, 1) := by decide +kernel
theorem d_Mi_restart_6 : decode prog_2_method_2_code 6 = .ok (.lastore, 1) := by decide +kernel
theorem d_Mi_restart_7 : decode prog_2_method_2_code 7 = .ok (.aload_n 0, 1) := by decide +kernel
theorem d_Mi_restart_8 : decode prog_2_method_2_code 8 = .ok (.getfield 15, 3) := by decide +kernel
theorem d_Mi_restart_11 : decode prog_2_method_2_code 11 = .ok (.iconst 0, 1) := by decide +kernel
theorem d_Mi_restart_12 : decode prog_2_method_2_code 12 = .ok (.lconst 0, 1) := by decide +kernel
theorem d_Mi_restart_13 : decode prog_2_method_2_code 13 = .ok (.lastore, 1) := by decide +kernel
theorem d_Mi_restart_14 : decode prog_2_method_2_code 14 = .ok (.aload_n 0, 1) := by decide +kernel
theorem d_Mi_restart_15 : decode prog_2_method_2_code 15 = .ok (.getfield 18, 3) := by decide +kernel
theorem d_Mi_restart_18 : decode prog_2_method_2_code 18 = .ok (.iconst 0, 1) := by decide +kernel
theorem d_Mi_restart_19 : decode prog_2_method_2_code 19 = .ok (.lconst 0, 1) := by decide +kernel
theorem d_Mi_restart_20 : decode prog_2_method_2_code 20 = .ok (.lastore, 1) := by decide +kernel
theorem d_Mi_restart_21 : decode prog_2_method_2_code 21 = .ok (.return_, 1) := by decide +kernel
def f_M_restart (m_low_n : Nat) (m_low : Nat → Int64) (m_middle_n : Nat) (m_middle : Nat → Int64) (m_high_n : Nat) (m_high : Nat → Int64) : Option ((Nat → Int64) × (Nat → Int64) × (Nat → Int64)) :=
  ck_in 0 m_low_n <| ck_in 0 m_middle_n <| ck_in 0 m_high_n <| some ((vp_updL m_low (0 : Int32).toNatClampNeg 1), (vp_updL m_middle (0 : Int32).toNatClampNeg 0), (vp_updL m_high (0 : Int32).toNatClampNeg 0))
set_option maxHeartbeats 4000000 in
set_option maxRecDepth 100000 in
theorem c_M_restart (l : Launch) (dC : Nat → ClassId) (dI : Nat → Nat → Nat) (cI cJ cB cZ cT cN : ClassId) (sz : Nat) (h_m : Nat) (h_m_low : Nat) (h_m_middle : Nat) (h_m_high : Nat) (m_low_n : Nat) (m_low : Nat → Int64) (m_middle_n : Nat) (m_middle : Nat → Int64) (m_high_n : Nat) (m_high : Nat → Int64) (r : (Nat → Int64) × (Nat → Int64) × (Nat → Int64)) (h : f_M_restart m_low_n m_low m_middle_n m_middle m_high_n m_high = some r) : Met l y_Mi_restart w_Mi_restart ({ frames := 0, cells := 0, slots := 0, locals := 0 } : Room) (va_Pc [.ref h_m] (fun U => U.heap.size = sz ∧ va_P (dC, dI) cl_all [(h_m, .inr (0, [.ref h_m_low, .ref h_m_middle, .ref h_m_high])), (h_m_low, .inl (cJ, m_low_n, .inr (.inl m_low))), (h_m_middle, .inl (cJ, m_middle_n, .inr (.inl m_middle))), (h_m_high, .inl (cJ, m_high_n, .inr (.inl m_high)))] U.heap ∧ va_K (dC, dI) cl_all [(cI, .int), (cJ, .long), (cB, .byte), (cZ, .boolean), (cT, .object "BasisWalk$Table"), (cN, .object "BasisWalkModel$Num")] U ∧ NW U ∧ va_D (fun _ => True) [(h_m, .inr (0, [.ref h_m_low, .ref h_m_middle, .ref h_m_high])), (h_m_low, .inl (cJ, m_low_n, .inr (.inl m_low))), (h_m_middle, .inl (cJ, m_middle_n, .inr (.inl m_middle))), (h_m_high, .inl (cJ, m_high_n, .inr (.inl m_high)))])) (va_Qv (fun u : (Nat → Int64) × (Nat → Int64) × (Nat → Int64) => u = r) (fun (u : (Nat → Int64) × (Nat → Int64) × (Nat → Int64)) (t : State) => va_P (dC, dI) cl_all [(h_m, .inr (0, [.ref h_m_low, .ref h_m_middle, .ref h_m_high])), (h_m_low, .inl (cJ, m_low_n, .inr (.inl u.1))), (h_m_middle, .inl (cJ, m_middle_n, .inr (.inl u.2.1))), (h_m_high, .inl (cJ, m_high_n, .inr (.inl u.2.2)))] t.heap ∧ va_K (dC, dI) cl_all [(cI, .int), (cJ, .long), (cB, .byte), (cZ, .boolean), (cT, .object "BasisWalk$Table"), (cN, .object "BasisWalkModel$Num")] t ∧ va_D (va_A [(h_m, .inr (0, [.ref h_m_low, .ref h_m_middle, .ref h_m_high])), (h_m_low, .inl (cJ, m_low_n, .inr (.inl m_low))), (h_m_middle, .inl (cJ, m_middle_n, .inr (.inl m_middle))), (h_m_high, .inl (cJ, m_high_n, .inr (.inl m_high)))] sz) [(h_m, .inr (0, [.ref h_m_low, .ref h_m_middle, .ref h_m_high])), (h_m_low, .inl (cJ, m_low_n, .inr (.inl u.1))), (h_m_middle, .inl (cJ, m_middle_n, .inr (.inl u.2.1))), (h_m_high, .inl (cJ, m_high_n, .inr (.inl u.2.2)))]) (va_A [(h_m, .inr (0, [.ref h_m_low, .ref h_m_middle, .ref h_m_high])), (h_m_low, .inl (cJ, m_low_n, .inr (.inl m_low))), (h_m_middle, .inl (cJ, m_middle_n, .inr (.inl m_middle))), (h_m_high, .inl (cJ, m_high_n, .inr (.inl m_high)))] sz)) 0 0 (va_A [(h_m, .inr (0, [.ref h_m_low, .ref h_m_middle, .ref h_m_high])), (h_m_low, .inl (cJ, m_low_n, .inr (.inl m_low))), (h_m_middle, .inl (cJ, m_middle_n, .inr (.inl m_middle))), (h_m_high, .inl (cJ, m_high_n, .inr (.inl m_high)))] sz) := by
  refine Met.ofW (cc := prog_2_method_2_code) (maxL := 1) (ret := (Option.none : Option Jvm.ClassFile.FieldType)) (by decide) rfl ?_
  intro p e s m args below meth c s₁ B hml hv
  obtain ⟨hAR, hsz, hP, hK, hN, hD0⟩ := hv
  have hx := B.exec
  have hb := B.bytes
  have hr := B.returns
  have hts := atoms_spec (ws := w_Mi_restart) B.pre
  have hown : s.vm.findClass "BasisWalk$Minors" = some m.cls := findClass_of_methodNamed B.named
  have hlocks := B.notSynchronized
  clear B
  subst hsz
  have hD := hD0.self (sz := s.heap.size)
  generalize hAe : va_A [(h_m, .inr (0, [.ref h_m_low, .ref h_m_middle, .ref h_m_high])), (h_m_low, .inl (cJ, m_low_n, .inr (.inl m_low))), (h_m_middle, .inl (cJ, m_middle_n, .inr (.inl m_middle))), (h_m_high, .inl (cJ, m_high_n, .inr (.inl m_high)))] s.heap.size = A at hD ⊢
  have hA : ∀ q : Nat, s.heap.size ≤ q → A q := fun q h => by rw [← hAe]; exact Or.inr h
  clear hAe hD0
  have hS : va_S A s.heap s.heap [] := va_S.rf
  have hl := lv_entry ([.ref h_m]) (n := 1) (Nat.le_of_ble_eq_true rfl)
  subst hAR
  rw [lg_entry_eq]
  generalize (lg_sl ([.ref h_m]) ++ List.replicate (1 - (lg_sl ([.ref h_m])).length) Slot.unset).toArray = ls at hl ⊢
  have hl : lv_has ls 1 [(0, .ref h_m)] := hl
  change W p l e ({ frames := 0, cells := 0, slots := 0, locals := 0 } : Room) s m _ below meth c s.heap [] 0 0 _ _
  generalize hARe : ([.ref h_m] : List Value).toArray = AR at hts ⊢
  clear hARe
  generalize hQ : MQ below _ AR s 0 0 A = QQ
  have fl0 := hts _ (List.mem_cons_of_mem _ tw_115)
  have iw1 := (fun w hw => List.mem_cons_of_mem _ (in_Mi w hw) : ∀ w ∈ u_ws "BasisWalk$Minors" T_Mi 3, w ∈ w_Mi_restart)
  have fl2 := hts _ (List.mem_cons_of_mem _ tw_116)
  have fl3 := hts _ (List.mem_cons_of_mem _ tw_117)
  obtain ⟨H, hHe⟩ : ∃ H : Heap, H = s.heap := ⟨_, rfl⟩
  rw [← hHe] at hP ⊢
  replace hS : va_S A s.heap H [] := by rw [hHe]; exact va_S.rf
  clear hHe
  unfold f_M_restart at h
  refine lv_aload_n hx hb d_Mi_restart_0 rfl (lv_at hl 0 rfl) ?_
  refine va_get (D := (dC, dI)) (ci := 0) (v := .ref h_m_low) (C := "BasisWalk$Minors") (T := T_Mi) (N := 3) hx hb hts iw1 hown hK hP 0 rfl rfl 0 (by decide) fl0 (fun _ h9 => h9) rfl d_Mi_restart_1 ?_
  refine lv_iconst (v := 0) hx hb d_Mi_restart_4 (by decide) ?_
  refine lv_lconst (v := 1) hx hb d_Mi_restart_5 (by decide) ?_
  obtain ⟨g_1, h⟩ := ck_in_s h
  refine va_last hx hb hK hP hD hS 1 1 rfl rfl g_1 d_Mi_restart_6 (fun H locs hP hD hS => ?_)
  have hP : va_P (dC, dI) cl_all [(h_m, .inr (0, [.ref h_m_low, .ref h_m_middle, .ref h_m_high])), (h_m_low, .inl (cJ, m_low_n, .inr (.inl (vp_updL m_low (0 : Int32).toNatClampNeg 1)))), (h_m_middle, .inl (cJ, m_middle_n, .inr (.inl m_middle))), (h_m_high, .inl (cJ, m_high_n, .inr (.inl m_high)))] H := hP
  have hD : va_D A [(h_m, .inr (0, [.ref h_m_low, .ref h_m_middle, .ref h_m_high])), (h_m_low, .inl (cJ, m_low_n, .inr (.inl (vp_updL m_low (0 : Int32).toNatClampNeg 1)))), (h_m_middle, .inl (cJ, m_middle_n, .inr (.inl m_middle))), (h_m_high, .inl (cJ, m_high_n, .inr (.inl m_high)))] := hD
  refine lv_aload_n hx hb d_Mi_restart_7 rfl (lv_at hl 0 rfl) ?_
  refine va_get (D := (dC, dI)) (ci := 0) (v := .ref h_m_middle) (C := "BasisWalk$Minors") (T := T_Mi) (N := 3) hx hb hts iw1 hown hK hP 0 rfl rfl 1 (by decide) fl2 (fun _ h9 => h9) rfl d_Mi_restart_8 ?_
  refine lv_iconst (v := 0) hx hb d_Mi_restart_11 (by decide) ?_
  refine lv_lconst (v := 0) hx hb d_Mi_restart_12 (by decide) ?_
  obtain ⟨g_2, h⟩ := ck_in_s h
  refine va_last hx hb hK hP hD hS 2 1 rfl rfl g_2 d_Mi_restart_13 (fun H locs hP hD hS => ?_)
  have hP : va_P (dC, dI) cl_all [(h_m, .inr (0, [.ref h_m_low, .ref h_m_middle, .ref h_m_high])), (h_m_low, .inl (cJ, m_low_n, .inr (.inl (vp_updL m_low (0 : Int32).toNatClampNeg 1)))), (h_m_middle, .inl (cJ, m_middle_n, .inr (.inl (vp_updL m_middle (0 : Int32).toNatClampNeg 0)))), (h_m_high, .inl (cJ, m_high_n, .inr (.inl m_high)))] H := hP
  have hD : va_D A [(h_m, .inr (0, [.ref h_m_low, .ref h_m_middle, .ref h_m_high])), (h_m_low, .inl (cJ, m_low_n, .inr (.inl (vp_updL m_low (0 : Int32).toNatClampNeg 1)))), (h_m_middle, .inl (cJ, m_middle_n, .inr (.inl (vp_updL m_middle (0 : Int32).toNatClampNeg 0)))), (h_m_high, .inl (cJ, m_high_n, .inr (.inl m_high)))] := hD
  refine lv_aload_n hx hb d_Mi_restart_14 rfl (lv_at hl 0 rfl) ?_
  refine va_get (D := (dC, dI)) (ci := 0) (v := .ref h_m_high) (C := "BasisWalk$Minors") (T := T_Mi) (N := 3) hx hb hts iw1 hown hK hP 0 rfl rfl 2 (by decide) fl3 (fun _ h9 => h9) rfl d_Mi_restart_15 ?_
  refine lv_iconst (v := 0) hx hb d_Mi_restart_18 (by decide) ?_
  refine lv_lconst (v := 0) hx hb d_Mi_restart_19 (by decide) ?_
  obtain ⟨g_3, h⟩ := ck_in_s h
  refine va_last hx hb hK hP hD hS 3 1 rfl rfl g_3 d_Mi_restart_20 (fun H locs hP hD hS => ?_)
  have hP : va_P (dC, dI) cl_all [(h_m, .inr (0, [.ref h_m_low, .ref h_m_middle, .ref h_m_high])), (h_m_low, .inl (cJ, m_low_n, .inr (.inl (vp_updL m_low (0 : Int32).toNatClampNeg 1)))), (h_m_middle, .inl (cJ, m_middle_n, .inr (.inl (vp_updL m_middle (0 : Int32).toNatClampNeg 0)))), (h_m_high, .inl (cJ, m_high_n, .inr (.inl (vp_updL m_high (0 : Int32).toNatClampNeg 0))))] H := hP
  have hD : va_D A [(h_m, .inr (0, [.ref h_m_low, .ref h_m_middle, .ref h_m_high])), (h_m_low, .inl (cJ, m_low_n, .inr (.inl (vp_updL m_low (0 : Int32).toNatClampNeg 1)))), (h_m_middle, .inl (cJ, m_middle_n, .inr (.inl (vp_updL m_middle (0 : Int32).toNatClampNeg 0)))), (h_m_high, .inl (cJ, m_high_n, .inr (.inl (vp_updL m_high (0 : Int32).toNatClampNeg 0))))] := hD
  obtain rfl := Option.some.inj h
  subst hQ
  exact W.vret hx hb hr (fun t ht hW => ⟨⟨((vp_updL m_low (0 : Int32).toNatClampNeg 1), (vp_updL m_middle (0 : Int32).toNatClampNeg 0), (vp_updL m_high (0 : Int32).toNatClampNeg 0)), rfl, rfl, by rw [ht]; exact hP, va_K.moved hW.alike hK, hD⟩, hS.F ht⟩) hS.2.2 d_Mi_restart_21
theorem d_St_takeRows_0 : decode prog_4_method_8_code 0 = .ok (.aload_n 3, 1) := by decide +kernel
theorem d_St_takeRows_1 : decode prog_4_method_8_code 1 = .ok (.invokevirtual 69, 3) := by decide +kernel
theorem d_St_takeRows_4 : decode prog_4_method_8_code 4 = .ok (.iconst 0, 1) := by decide +kernel
theorem d_St_takeRows_5 : decode prog_4_method_8_code 5 = .ok (.istore 4, 2) := by decide +kernel
theorem d_St_takeRows_7 : decode prog_4_method_8_code 7 = .ok (.iconst 0, 1) := by decide +kernel
theorem d_St_takeRows_8 : decode prog_4_method_8_code 8 = .ok (.istore 5, 2) := by decide +kernel
theorem d_St_takeRows_10 : decode prog_4_method_8_code 10 = .ok (.iload 5, 2) := by decide +kernel
theorem d_St_takeRows_12 : decode prog_4_method_8_code 12 = .ok (.aload_n 1, 1) := by decide +kernel
theorem d_St_takeRows_13 : decode prog_4_method_8_code 13 = .ok (.getfield 74, 3) := by decide +kernel
theorem d_St_takeRows_16 : decode prog_4_method_8_code 16 = .ok (.if_icmp .ge 36, 3) := by decide +kernel
theorem d_St_takeRows_19 : decode prog_4_method_8_code 19 = .ok (.iload 4, 2) := by decide +kernel
theorem d_St_takeRows_21 : decode prog_4_method_8_code 21 = .ok (.aload_n 0, 1) := by decide +kernel
theorem d_St_takeRows_22 : decode prog_4_method_8_code 22 = .ok (.getfield 33, 3) := by decide +kernel
theorem d_St_takeRows_25 : decode prog_4_method_8_code 25 = .ok (.if_icmp .ge 27, 3) := by decide +kernel
theorem d_St_takeRows_28 : decode prog_4_method_8_code 28 = .ok (.aload_n 3, 1) := by decide +kernel
theorem d_St_takeRows_29 : decode prog_4_method_8_code 29 = .ok (.aload_n 1, 1) := by decide +kernel
theorem d_St_takeRows_30 : decode prog_4_method_8_code 30 = .ok (.iload 5, 2) := by decide +kernel
theorem d_St_takeRows_32 : decode prog_4_method_8_code 32 = .ok (.aload_n 2, 1) := by decide +kernel
theorem d_St_takeRows_33 : decode prog_4_method_8_code 33 = .ok (.iload 4, 2) := by decide +kernel
theorem d_St_takeRows_35 : decode prog_4_method_8_code 35 = .ok (.iconst 1, 1) := by decide +kernel
theorem d_St_takeRows_36 : decode prog_4_method_8_code 36 = .ok (.iadd, 1) := by decide +kernel
theorem d_St_takeRows_37 : decode prog_4_method_8_code 37 = .ok (.invokevirtual 77, 3) := by decide +kernel
theorem d_St_takeRows_40 : decode prog_4_method_8_code 40 = .ok (.ifCond .eq 6, 3) := by decide +kernel
theorem d_St_takeRows_43 : decode prog_4_method_8_code 43 = .ok (.iinc 4 1, 3) := by decide +kernel
theorem d_St_takeRows_46 : decode prog_4_method_8_code 46 = .ok (.iinc 5 1, 3) := by decide +kernel
theorem d_St_takeRows_49 : decode prog_4_method_8_code 49 = .ok (.goto (-39), 3) := by decide +kernel
theorem d_St_takeRows_52 : decode prog_4_method_8_code 52 = .ok (.iload 4, 2) := by decide +kernel
theorem d_St_takeRows_54 : decode prog_4_method_8_code 54 = .ok (.ireturn, 1) := by decide +kernel
def f_S_takeRows (s_columnCount : Int32) (t_field : Int32) (t_rowCount : Int32) (t_columnCount : Int32) (t_numbers_n : Nat) (t_numbers : Nat → Int32) (o_sets_n : Nat) (o_sets : Nat → Int32) (o_starts_n : Nat) (o_starts : Nat → Int32) (m_low_n : Nat) (m_low : Nat → Int64) (m_middle_n : Nat) (m_middle : Nat → Int64) (m_high_n : Nat) (m_high : Nat → Int64) : Option (Int32 × (Nat → Int64) × (Nat → Int64) × (Nat → Int64)) :=
  ck_b3 (f_M_restart m_low_n m_low m_middle_n m_middle m_high_n m_high) <| fun u_1 u_2 u_3 => lo5 (fun k_10 (v5_5 : Int32) (v4_6 : Int32) (w_7 : Nat → Int64) (w_8 : Nat → Int64) (w_9 : Nat → Int64) => ck_if (t_rowCount ≤ v5_5) (some (v4_6, w_7, w_8, w_9)) (ck_if (s_columnCount ≤ v4_6) (some (v4_6, w_7, w_8, w_9)) (ck_b4 (f_M_takeRow m_low_n w_7 m_middle_n w_8 m_high_n w_9 t_field t_columnCount t_numbers_n t_numbers o_sets_n o_sets o_starts_n o_starts v5_5 (v4_6 + 1)) <| fun r_12 u_13 u_14 u_15 => ck_jn (fun (v4_17 : Int32) => ck_nm (v5_5 + 1) <| fun x_18 => k_10 x_18 v4_17 u_13 u_14 u_15) <| fun k_46 => ck_if (r_12 = 0) (k_46 v4_6) (ck_nm (v4_6 + 1) <| fun x_20 => k_46 x_20)))) ck_F 0 0 u_1 u_2 u_3
set_option maxHeartbeats 4000000 in
set_option maxRecDepth 100000 in
theorem c_S_takeRows (l : Launch) (dC : Nat → ClassId) (dI : Nat → Nat → Nat) (cI cJ cB cZ cT cN : ClassId) (sz : Nat) (h_s : Nat) (h_t : Nat) (h_o : Nat) (h_m : Nat) (h_s_ranks : Nat) (h_s_signs : Nat) (h_s_members : Nat) (h_s_starts : Nat) (h_s_defects : Nat) (h_t_numbers : Nat) (h_t_study : Nat) (h_o_sets : Nat) (h_o_starts : Nat) (h_o_nexts : Nat) (h_m_low : Nat) (h_m_middle : Nat) (h_m_high : Nat) (s_columnCount : Int32) (s_fullRank : Int32) (t_field : Int32) (t_rowCount : Int32) (t_columnCount : Int32) (t_studied : Int32) (t_numbers_n : Nat) (t_numbers : Nat → Int32) (o_columnCount : Int32) (o_sets_n : Nat) (o_sets : Nat → Int32) (o_starts_n : Nat) (o_starts : Nat → Int32) (m_low_n : Nat) (m_low : Nat → Int64) (m_middle_n : Nat) (m_middle : Nat → Int64) (m_high_n : Nat) (m_high : Nat → Int64) (r : Int32 × (Nat → Int64) × (Nat → Int64) × (Nat → Int64)) (h : f_S_takeRows s_columnCount t_field t_rowCount t_columnCount t_numbers_n t_numbers o_sets_n o_sets o_starts_n o_starts m_low_n m_low m_middle_n m_middle m_high_n m_high = some r) : Met l y_St_takeRows w_St_takeRows ({ frames := 3, cells := 0, slots := 0, locals := 86 } : Room) (va_Pc [.ref h_s, .ref h_t, .ref h_o, .ref h_m] (fun U => U.heap.size = sz ∧ va_P (dC, dI) cl_all [(h_s, .inr (2, [.int s_columnCount, .int s_fullRank, .ref h_s_ranks, .ref h_s_signs, .ref h_s_members, .ref h_s_starts, .ref h_s_defects])), (h_t, .inr (3, [.int t_field, .int t_rowCount, .int t_columnCount, .ref h_t_numbers, .int t_studied, .ref h_t_study])), (h_t_numbers, .inl (cI, t_numbers_n, .inl t_numbers)), (h_o, .inr (1, [.int o_columnCount, .ref h_o_sets, .ref h_o_starts, .ref h_o_nexts])), (h_o_sets, .inl (cI, o_sets_n, .inl o_sets)), (h_o_starts, .inl (cI, o_starts_n, .inl o_starts)), (h_m, .inr (0, [.ref h_m_low, .ref h_m_middle, .ref h_m_high])), (h_m_low, .inl (cJ, m_low_n, .inr (.inl m_low))), (h_m_middle, .inl (cJ, m_middle_n, .inr (.inl m_middle))), (h_m_high, .inl (cJ, m_high_n, .inr (.inl m_high)))] U.heap ∧ va_K (dC, dI) cl_all [(cI, .int), (cJ, .long), (cB, .byte), (cZ, .boolean), (cT, .object "BasisWalk$Table"), (cN, .object "BasisWalkModel$Num")] U ∧ NW U ∧ va_D (fun _ => True) [(h_s, .inr (2, [.int s_columnCount, .int s_fullRank, .ref h_s_ranks, .ref h_s_signs, .ref h_s_members, .ref h_s_starts, .ref h_s_defects])), (h_t, .inr (3, [.int t_field, .int t_rowCount, .int t_columnCount, .ref h_t_numbers, .int t_studied, .ref h_t_study])), (h_t_numbers, .inl (cI, t_numbers_n, .inl t_numbers)), (h_o, .inr (1, [.int o_columnCount, .ref h_o_sets, .ref h_o_starts, .ref h_o_nexts])), (h_o_sets, .inl (cI, o_sets_n, .inl o_sets)), (h_o_starts, .inl (cI, o_starts_n, .inl o_starts)), (h_m, .inr (0, [.ref h_m_low, .ref h_m_middle, .ref h_m_high])), (h_m_low, .inl (cJ, m_low_n, .inr (.inl m_low))), (h_m_middle, .inl (cJ, m_middle_n, .inr (.inl m_middle))), (h_m_high, .inl (cJ, m_high_n, .inr (.inl m_high)))])) (va_Qi (fun (v : Int32) (u : (Nat → Int64) × (Nat → Int64) × (Nat → Int64)) => (v, u) = r) (fun (u : (Nat → Int64) × (Nat → Int64) × (Nat → Int64)) (t : State) => va_P (dC, dI) cl_all [(h_s, .inr (2, [.int s_columnCount, .int s_fullRank, .ref h_s_ranks, .ref h_s_signs, .ref h_s_members, .ref h_s_starts, .ref h_s_defects])), (h_t, .inr (3, [.int t_field, .int t_rowCount, .int t_columnCount, .ref h_t_numbers, .int t_studied, .ref h_t_study])), (h_t_numbers, .inl (cI, t_numbers_n, .inl t_numbers)), (h_o, .inr (1, [.int o_columnCount, .ref h_o_sets, .ref h_o_starts, .ref h_o_nexts])), (h_o_sets, .inl (cI, o_sets_n, .inl o_sets)), (h_o_starts, .inl (cI, o_starts_n, .inl o_starts)), (h_m, .inr (0, [.ref h_m_low, .ref h_m_middle, .ref h_m_high])), (h_m_low, .inl (cJ, m_low_n, .inr (.inl u.1))), (h_m_middle, .inl (cJ, m_middle_n, .inr (.inl u.2.1))), (h_m_high, .inl (cJ, m_high_n, .inr (.inl u.2.2)))] t.heap ∧ va_K (dC, dI) cl_all [(cI, .int), (cJ, .long), (cB, .byte), (cZ, .boolean), (cT, .object "BasisWalk$Table"), (cN, .object "BasisWalkModel$Num")] t ∧ va_D (va_A [(h_s, .inr (2, [.int s_columnCount, .int s_fullRank, .ref h_s_ranks, .ref h_s_signs, .ref h_s_members, .ref h_s_starts, .ref h_s_defects])), (h_t, .inr (3, [.int t_field, .int t_rowCount, .int t_columnCount, .ref h_t_numbers, .int t_studied, .ref h_t_study])), (h_t_numbers, .inl (cI, t_numbers_n, .inl t_numbers)), (h_o, .inr (1, [.int o_columnCount, .ref h_o_sets, .ref h_o_starts, .ref h_o_nexts])), (h_o_sets, .inl (cI, o_sets_n, .inl o_sets)), (h_o_starts, .inl (cI, o_starts_n, .inl o_starts)), (h_m, .inr (0, [.ref h_m_low, .ref h_m_middle, .ref h_m_high])), (h_m_low, .inl (cJ, m_low_n, .inr (.inl m_low))), (h_m_middle, .inl (cJ, m_middle_n, .inr (.inl m_middle))), (h_m_high, .inl (cJ, m_high_n, .inr (.inl m_high)))] sz) [(h_s, .inr (2, [.int s_columnCount, .int s_fullRank, .ref h_s_ranks, .ref h_s_signs, .ref h_s_members, .ref h_s_starts, .ref h_s_defects])), (h_t, .inr (3, [.int t_field, .int t_rowCount, .int t_columnCount, .ref h_t_numbers, .int t_studied, .ref h_t_study])), (h_t_numbers, .inl (cI, t_numbers_n, .inl t_numbers)), (h_o, .inr (1, [.int o_columnCount, .ref h_o_sets, .ref h_o_starts, .ref h_o_nexts])), (h_o_sets, .inl (cI, o_sets_n, .inl o_sets)), (h_o_starts, .inl (cI, o_starts_n, .inl o_starts)), (h_m, .inr (0, [.ref h_m_low, .ref h_m_middle, .ref h_m_high])), (h_m_low, .inl (cJ, m_low_n, .inr (.inl u.1))), (h_m_middle, .inl (cJ, m_middle_n, .inr (.inl u.2.1))), (h_m_high, .inl (cJ, m_high_n, .inr (.inl u.2.2)))]) (va_A [(h_s, .inr (2, [.int s_columnCount, .int s_fullRank, .ref h_s_ranks, .ref h_s_signs, .ref h_s_members, .ref h_s_starts, .ref h_s_defects])), (h_t, .inr (3, [.int t_field, .int t_rowCount, .int t_columnCount, .ref h_t_numbers, .int t_studied, .ref h_t_study])), (h_t_numbers, .inl (cI, t_numbers_n, .inl t_numbers)), (h_o, .inr (1, [.int o_columnCount, .ref h_o_sets, .ref h_o_starts, .ref h_o_nexts])), (h_o_sets, .inl (cI, o_sets_n, .inl o_sets)), (h_o_starts, .inl (cI, o_starts_n, .inl o_starts)), (h_m, .inr (0, [.ref h_m_low, .ref h_m_middle, .ref h_m_high])), (h_m_low, .inl (cJ, m_low_n, .inr (.inl m_low))), (h_m_middle, .inl (cJ, m_middle_n, .inr (.inl m_middle))), (h_m_high, .inl (cJ, m_high_n, .inr (.inl m_high)))] sz)) 0 0 (va_A [(h_s, .inr (2, [.int s_columnCount, .int s_fullRank, .ref h_s_ranks, .ref h_s_signs, .ref h_s_members, .ref h_s_starts, .ref h_s_defects])), (h_t, .inr (3, [.int t_field, .int t_rowCount, .int t_columnCount, .ref h_t_numbers, .int t_studied, .ref h_t_study])), (h_t_numbers, .inl (cI, t_numbers_n, .inl t_numbers)), (h_o, .inr (1, [.int o_columnCount, .ref h_o_sets, .ref h_o_starts, .ref h_o_nexts])), (h_o_sets, .inl (cI, o_sets_n, .inl o_sets)), (h_o_starts, .inl (cI, o_starts_n, .inl o_starts)), (h_m, .inr (0, [.ref h_m_low, .ref h_m_middle, .ref h_m_high])), (h_m_low, .inl (cJ, m_low_n, .inr (.inl m_low))), (h_m_middle, .inl (cJ, m_middle_n, .inr (.inl m_middle))), (h_m_high, .inl (cJ, m_high_n, .inr (.inl m_high)))] sz) := by
  refine Met.ofW (cc := prog_4_method_8_code) (maxL := 6) (ret := (Option.some Jvm.ClassFile.FieldType.int)) (by decide) rfl ?_
  intro p e s m args below meth c s₁ B hml hv
  obtain ⟨hAR, hsz, hP, hK, hN, hD0⟩ := hv
  have hx := B.exec
  have hb := B.bytes
  have hr := B.returns
  have hts := atoms_spec (ws := w_St_takeRows) B.pre
  have hown : s.vm.findClass "BasisWalk$Study" = some m.cls := findClass_of_methodNamed B.named
  have hlocks := B.notSynchronized
  clear B
  subst hsz
  have hD := hD0.self (sz := s.heap.size)
  generalize hAe : va_A [(h_s, .inr (2, [.int s_columnCount, .int s_fullRank, .ref h_s_ranks, .ref h_s_signs, .ref h_s_members, .ref h_s_starts, .ref h_s_defects])), (h_t, .inr (3, [.int t_field, .int t_rowCount, .int t_columnCount, .ref h_t_numbers, .int t_studied, .ref h_t_study])), (h_t_numbers, .inl (cI, t_numbers_n, .inl t_numbers)), (h_o, .inr (1, [.int o_columnCount, .ref h_o_sets, .ref h_o_starts, .ref h_o_nexts])), (h_o_sets, .inl (cI, o_sets_n, .inl o_sets)), (h_o_starts, .inl (cI, o_starts_n, .inl o_starts)), (h_m, .inr (0, [.ref h_m_low, .ref h_m_middle, .ref h_m_high])), (h_m_low, .inl (cJ, m_low_n, .inr (.inl m_low))), (h_m_middle, .inl (cJ, m_middle_n, .inr (.inl m_middle))), (h_m_high, .inl (cJ, m_high_n, .inr (.inl m_high)))] s.heap.size = A at hD ⊢
  have hA : ∀ q : Nat, s.heap.size ≤ q → A q := fun q h => by rw [← hAe]; exact Or.inr h
  clear hAe hD0
  have hS : va_S A s.heap s.heap [] := va_S.rf
  have hl := lv_entry ([.ref h_s, .ref h_t, .ref h_o, .ref h_m]) (n := 6) (Nat.le_of_ble_eq_true rfl)
  subst hAR
  rw [lg_entry_eq]
  generalize (lg_sl ([.ref h_s, .ref h_t, .ref h_o, .ref h_m]) ++ List.replicate (6 - (lg_sl ([.ref h_s, .ref h_t, .ref h_o, .ref h_m])).length) Slot.unset).toArray = ls at hl ⊢
  have hl : lv_has ls 6 [(0, .ref h_s), (1, .ref h_t), (2, .ref h_o), (3, .ref h_m)] := hl
  change W p l e ({ frames := 3, cells := 0, slots := 0, locals := 86 } : Room) s m _ below meth c s.heap [] 0 0 _ _
  generalize hARe : ([.ref h_s, .ref h_t, .ref h_o, .ref h_m] : List Value).toArray = AR at hts ⊢
  clear hARe
  generalize hQ : MQ below _ AR s 0 0 A = QQ
  have fl0 := va_Nw.use (A := AR) rfl (hN _ tn_62)
  have iw1 := (fun w hw => List.mem_cons_of_mem _ (in_Ta w hw) : ∀ w ∈ u_ws "BasisWalk$Table" T_Ta 6, w ∈ w_St_takeRows)
  have fl2 := hts _ (List.mem_cons_of_mem _ tw_32)
  have iw3 := (fun w hw => List.mem_cons_of_mem _ (in_St w hw) : ∀ w ∈ u_ws "BasisWalk$Study" T_St 7, w ∈ w_St_takeRows)
  obtain ⟨H, hHe⟩ : ∃ H : Heap, H = s.heap := ⟨_, rfl⟩
  rw [← hHe] at hP ⊢
  replace hS : va_S A s.heap H [] := by rw [hHe]; exact va_S.rf
  clear hHe
  unfold f_S_takeRows at h
  refine lv_aload_n hx hb d_St_takeRows_0 rfl (lv_at hl 3 rfl) ?_
  obtain ⟨u_1, u_2, u_3, hc_4, h⟩ := ck_b3_s h
  have hPc := hP.sub (ws' := [(h_m, .inr (0, [.ref h_m_low, .ref h_m_middle, .ref h_m_high])), (h_m_low, .inl (cJ, m_low_n, .inr (.inl m_low))), (h_m_middle, .inl (cJ, m_middle_n, .inr (.inl m_middle))), (h_m_high, .inl (cJ, m_high_n, .inr (.inl m_high)))]) [6, 7, 8, 9] rfl
  have hDc := hD.sub (ws' := [(h_m, .inr (0, [.ref h_m_low, .ref h_m_middle, .ref h_m_high])), (h_m_low, .inl (cJ, m_low_n, .inr (.inl m_low))), (h_m_middle, .inl (cJ, m_middle_n, .inr (.inl m_middle))), (h_m_high, .inl (cJ, m_high_n, .inr (.inl m_high)))]) [6, 7, 8, 9] (by decide) rfl
  have hFc := va_free (wc := [(h_m, .inr (0, [.ref h_m_low, .ref h_m_middle, .ref h_m_high])), (h_m_low, .inl (cJ, m_low_n, .inr (.inl m_low))), (h_m_middle, .inl (cJ, m_middle_n, .inr (.inl m_middle))), (h_m_high, .inl (cJ, m_high_n, .inr (.inl m_high)))]) hD hS hA [6, 7, 8, 9] rfl
  refine va_callv (va_runV (As := []) (rest := []) ⟨hx, hb, hml, hown, hts⟩ (c_M_restart l dC dI cI cJ cB cZ cT cN H.size h_m h_m_low h_m_middle h_m_high m_low_n m_low m_middle_n m_middle m_high_n m_high _ hc_4) (cwV 0 hts (tb_V tw_213 tw_214 tw_215 tw_5 tw_216) rfl rfl rfl (by decide +kernel) ⟨Nat.le_of_ble_eq_true rfl, Nat.le_of_ble_eq_true rfl⟩) ⟨fun a U g mk q => by obtain ⟨q0, q1, qP, qK, qN, qD⟩ := q; exact ⟨q0, q1, qP, va_K.moved (u := U) (U := U.calling g mk a) (Vm.Alike.refl U.vm) qK, qN.same rfl, qD⟩, va_recv hK hPc (ci := 0) (q0 := 0) rfl rfl, fun U hU hW => ⟨rfl, by rw [hU], by rw [hU]; exact hPc, va_K.moved hW.alike hK, hN.warm hW, hDc.weaken (fun _ _ _ _ => trivial)⟩⟩ rfl rfl hl.1 rfl (lv_room (Nat.le_of_ble_eq_true rfl)) d_St_takeRows_1 ⟨Nat.zero_le _, Nat.zero_le _⟩) hS (fun q _ h => hFc q h) hFc (fun u t H1 locs ht hvm hw hB hz1 hk1 hS => ?_)
  replace hw := hw.symm
  subst hw
  obtain ⟨hP1, -, hD1⟩ := hB
  rw [ht] at hP1
  obtain ⟨hP, hD⟩ := va_join (wr := [(h_s, .inr (2, [.int s_columnCount, .int s_fullRank, .ref h_s_ranks, .ref h_s_signs, .ref h_s_members, .ref h_s_starts, .ref h_s_defects])), (h_t, .inr (3, [.int t_field, .int t_rowCount, .int t_columnCount, .ref h_t_numbers, .int t_studied, .ref h_t_study])), (h_t_numbers, .inl (cI, t_numbers_n, .inl t_numbers)), (h_o, .inr (1, [.int o_columnCount, .ref h_o_sets, .ref h_o_starts, .ref h_o_nexts])), (h_o_sets, .inl (cI, o_sets_n, .inl o_sets)), (h_o_starts, .inl (cI, o_starts_n, .inl o_starts))]) (w1 := [(h_m, .inr (0, [.ref h_m_low, .ref h_m_middle, .ref h_m_high])), (h_m_low, .inl (cJ, m_low_n, .inr (.inl u_1))), (h_m_middle, .inl (cJ, m_middle_n, .inr (.inl u_2))), (h_m_high, .inl (cJ, m_high_n, .inr (.inl u_3)))]) hP hD [6, 7, 8, 9] [0, 1, 2, 3, 4, 5] rfl rfl (by decide) (by decide) hk1 hFc hP1 hD1
  generalize H1 = H at hP hS ⊢
  have hP : va_P (dC, dI) cl_all [(h_s, .inr (2, [.int s_columnCount, .int s_fullRank, .ref h_s_ranks, .ref h_s_signs, .ref h_s_members, .ref h_s_starts, .ref h_s_defects])), (h_t, .inr (3, [.int t_field, .int t_rowCount, .int t_columnCount, .ref h_t_numbers, .int t_studied, .ref h_t_study])), (h_t_numbers, .inl (cI, t_numbers_n, .inl t_numbers)), (h_o, .inr (1, [.int o_columnCount, .ref h_o_sets, .ref h_o_starts, .ref h_o_nexts])), (h_o_sets, .inl (cI, o_sets_n, .inl o_sets)), (h_o_starts, .inl (cI, o_starts_n, .inl o_starts)), (h_m, .inr (0, [.ref h_m_low, .ref h_m_middle, .ref h_m_high])), (h_m_low, .inl (cJ, m_low_n, .inr (.inl u_1))), (h_m_middle, .inl (cJ, m_middle_n, .inr (.inl u_2))), (h_m_high, .inl (cJ, m_high_n, .inr (.inl u_3)))] H := hP.sub [0, 1, 2, 3, 4, 5, 6, 7, 8, 9] rfl
  have hD : va_D A [(h_s, .inr (2, [.int s_columnCount, .int s_fullRank, .ref h_s_ranks, .ref h_s_signs, .ref h_s_members, .ref h_s_starts, .ref h_s_defects])), (h_t, .inr (3, [.int t_field, .int t_rowCount, .int t_columnCount, .ref h_t_numbers, .int t_studied, .ref h_t_study])), (h_t_numbers, .inl (cI, t_numbers_n, .inl t_numbers)), (h_o, .inr (1, [.int o_columnCount, .ref h_o_sets, .ref h_o_starts, .ref h_o_nexts])), (h_o_sets, .inl (cI, o_sets_n, .inl o_sets)), (h_o_starts, .inl (cI, o_starts_n, .inl o_starts)), (h_m, .inr (0, [.ref h_m_low, .ref h_m_middle, .ref h_m_high])), (h_m_low, .inl (cJ, m_low_n, .inr (.inl u_1))), (h_m_middle, .inl (cJ, m_middle_n, .inr (.inl u_2))), (h_m_high, .inl (cJ, m_high_n, .inr (.inl u_3)))] := hD.sub [0, 1, 2, 3, 4, 5, 6, 7, 8, 9] (by decide) rfl
  refine lv_iconst (v := 0) hx hb d_St_takeRows_4 (by decide) ?_
  refine lv_istore (lv' := [(4, .int 0), (0, .ref h_s), (1, .ref h_t), (2, .ref h_o), (3, .ref h_m)]) hx hb d_St_takeRows_5 hl (by decide) rfl (fun ls hl => ?_)
  refine lv_iconst (v := 0) hx hb d_St_takeRows_7 (by decide) ?_
  refine lv_istore (lv' := [(5, .int 0), (4, .int 0), (0, .ref h_s), (1, .ref h_t), (2, .ref h_o), (3, .ref h_m)]) hx hb d_St_takeRows_8 hl (by decide) rfl (fun ls hl => ?_)
  refine lo5_W (r := r) (fun (v5_5 : Int32) (v4_6 : Int32) (w_7 : Nat → Int64) (w_8 : Nat → Int64) (w_9 : Nat → Int64) => ∀ (H : Heap) (locs : List Loc), va_P (dC, dI) cl_all [(h_s, .inr (2, [.int s_columnCount, .int s_fullRank, .ref h_s_ranks, .ref h_s_signs, .ref h_s_members, .ref h_s_starts, .ref h_s_defects])), (h_t, .inr (3, [.int t_field, .int t_rowCount, .int t_columnCount, .ref h_t_numbers, .int t_studied, .ref h_t_study])), (h_t_numbers, .inl (cI, t_numbers_n, .inl t_numbers)), (h_o, .inr (1, [.int o_columnCount, .ref h_o_sets, .ref h_o_starts, .ref h_o_nexts])), (h_o_sets, .inl (cI, o_sets_n, .inl o_sets)), (h_o_starts, .inl (cI, o_starts_n, .inl o_starts)), (h_m, .inr (0, [.ref h_m_low, .ref h_m_middle, .ref h_m_high])), (h_m_low, .inl (cJ, m_low_n, .inr (.inl w_7))), (h_m_middle, .inl (cJ, m_middle_n, .inr (.inl w_8))), (h_m_high, .inl (cJ, m_high_n, .inr (.inl w_9)))] H → va_D A [(h_s, .inr (2, [.int s_columnCount, .int s_fullRank, .ref h_s_ranks, .ref h_s_signs, .ref h_s_members, .ref h_s_starts, .ref h_s_defects])), (h_t, .inr (3, [.int t_field, .int t_rowCount, .int t_columnCount, .ref h_t_numbers, .int t_studied, .ref h_t_study])), (h_t_numbers, .inl (cI, t_numbers_n, .inl t_numbers)), (h_o, .inr (1, [.int o_columnCount, .ref h_o_sets, .ref h_o_starts, .ref h_o_nexts])), (h_o_sets, .inl (cI, o_sets_n, .inl o_sets)), (h_o_starts, .inl (cI, o_starts_n, .inl o_starts)), (h_m, .inr (0, [.ref h_m_low, .ref h_m_middle, .ref h_m_high])), (h_m_low, .inl (cJ, m_low_n, .inr (.inl w_7))), (h_m_middle, .inl (cJ, m_middle_n, .inr (.inl w_8))), (h_m_high, .inl (cJ, m_high_n, .inr (.inl w_9)))] → va_S A s.heap H locs → ∀ ls : Array Slot, lv_has ls 6 [(0, .ref h_s), (1, .ref h_t), (2, .ref h_o), (3, .ref h_m), (4, .int v4_6), (5, .int v5_5)] → W p l e ({ frames := 3, cells := 0, slots := 0, locals := 86 } : Room) s m AR below meth c H locs 0 0 QQ (F0 m 10 ls [])) ?_ _ _ _ _ _ _ h _ _ hP hD hS _ (lv_sub hl [2, 3, 4, 5, 1, 0] rfl)
  intro k_10 v5_5 v4_6 w_7 w_8 w_9 J_10 h H locs hP hD hS ls hl
  refine lv_iload hx hb d_St_takeRows_10 (lv_at hl 5 rfl) ?_
  refine lv_aload_n hx hb d_St_takeRows_12 rfl (lv_at hl 1 rfl) ?_
  refine va_getN (D := (dC, dI)) (ci := 3) (v := .int t_rowCount) (C := "BasisWalk$Table") (T := T_Ta) (N := 6) hx hb hts iw1 hown hK hP 1 rfl rfl 1 (by decide) fl0 (fun _ h9 => h9) rfl d_St_takeRows_13 ?_
  refine lv_icmp_ge (tgt := 52) hx hb d_St_takeRows_16 (by decide) (fun c_10 => ?_) (fun c_10 => ?_)
  · replace h := ck_if_t h c_10
    refine lv_iload hx hb d_St_takeRows_52 (lv_at hl 4 rfl) ?_
    obtain rfl := Option.some.inj h
    subst hQ
    exact W.iret (v := v4_6) hx hb hr (fun t ht hW => ⟨⟨v4_6, (w_7, w_8, w_9), rfl, rfl, by rw [ht]; exact hP, va_K.moved hW.alike hK, hD⟩, hS.F ht⟩) hS.2.2 d_St_takeRows_54
  · replace h := ck_if_f h c_10
    refine lv_iload hx hb d_St_takeRows_19 (lv_at hl 4 rfl) ?_
    refine lv_aload_n hx hb d_St_takeRows_21 rfl (lv_at hl 0 rfl) ?_
    refine va_get (D := (dC, dI)) (ci := 2) (v := .int s_columnCount) (C := "BasisWalk$Study") (T := T_St) (N := 7) hx hb hts iw3 hown hK hP 0 rfl rfl 0 (by decide) fl2 (fun _ h9 => h9) rfl d_St_takeRows_22 ?_
    refine lv_icmp_ge (tgt := 52) hx hb d_St_takeRows_25 (by decide) (fun c_11 => ?_) (fun c_11 => ?_)
    · replace h := ck_if_t h c_11
      refine lv_iload hx hb d_St_takeRows_52 (lv_at hl 4 rfl) ?_
      obtain rfl := Option.some.inj h
      subst hQ
      exact W.iret (v := v4_6) hx hb hr (fun t ht hW => ⟨⟨v4_6, (w_7, w_8, w_9), rfl, rfl, by rw [ht]; exact hP, va_K.moved hW.alike hK, hD⟩, hS.F ht⟩) hS.2.2 d_St_takeRows_54
    · replace h := ck_if_f h c_11
      refine lv_aload_n hx hb d_St_takeRows_28 rfl (lv_at hl 3 rfl) ?_
      refine lv_aload_n hx hb d_St_takeRows_29 rfl (lv_at hl 1 rfl) ?_
      refine lv_iload hx hb d_St_takeRows_30 (lv_at hl 5 rfl) ?_
      refine lv_aload_n hx hb d_St_takeRows_32 rfl (lv_at hl 2 rfl) ?_
      refine lv_iload hx hb d_St_takeRows_33 (lv_at hl 4 rfl) ?_
      refine lv_iconst (v := 1) hx hb d_St_takeRows_35 (by decide) ?_
      refine lv_iadd hx hb d_St_takeRows_36 ?_
      obtain ⟨r_12, u_13, u_14, u_15, hc_16, h⟩ := ck_b4_s h
      have hPc := hP.sub (ws' := [(h_m, .inr (0, [.ref h_m_low, .ref h_m_middle, .ref h_m_high])), (h_m_low, .inl (cJ, m_low_n, .inr (.inl w_7))), (h_m_middle, .inl (cJ, m_middle_n, .inr (.inl w_8))), (h_m_high, .inl (cJ, m_high_n, .inr (.inl w_9))), (h_t, .inr (3, [.int t_field, .int t_rowCount, .int t_columnCount, .ref h_t_numbers, .int t_studied, .ref h_t_study])), (h_t_numbers, .inl (cI, t_numbers_n, .inl t_numbers)), (h_o, .inr (1, [.int o_columnCount, .ref h_o_sets, .ref h_o_starts, .ref h_o_nexts])), (h_o_sets, .inl (cI, o_sets_n, .inl o_sets)), (h_o_starts, .inl (cI, o_starts_n, .inl o_starts))]) [6, 7, 8, 9, 1, 2, 3, 4, 5] rfl
      have hDc := hD.sub (ws' := [(h_m, .inr (0, [.ref h_m_low, .ref h_m_middle, .ref h_m_high])), (h_m_low, .inl (cJ, m_low_n, .inr (.inl w_7))), (h_m_middle, .inl (cJ, m_middle_n, .inr (.inl w_8))), (h_m_high, .inl (cJ, m_high_n, .inr (.inl w_9))), (h_t, .inr (3, [.int t_field, .int t_rowCount, .int t_columnCount, .ref h_t_numbers, .int t_studied, .ref h_t_study])), (h_t_numbers, .inl (cI, t_numbers_n, .inl t_numbers)), (h_o, .inr (1, [.int o_columnCount, .ref h_o_sets, .ref h_o_starts, .ref h_o_nexts])), (h_o_sets, .inl (cI, o_sets_n, .inl o_sets)), (h_o_starts, .inl (cI, o_starts_n, .inl o_starts))]) [6, 7, 8, 9, 1, 2, 3, 4, 5] (by decide) rfl
      have hFc := va_free (wc := [(h_m, .inr (0, [.ref h_m_low, .ref h_m_middle, .ref h_m_high])), (h_m_low, .inl (cJ, m_low_n, .inr (.inl w_7))), (h_m_middle, .inl (cJ, m_middle_n, .inr (.inl w_8))), (h_m_high, .inl (cJ, m_high_n, .inr (.inl w_9))), (h_t, .inr (3, [.int t_field, .int t_rowCount, .int t_columnCount, .ref h_t_numbers, .int t_studied, .ref h_t_study])), (h_t_numbers, .inl (cI, t_numbers_n, .inl t_numbers)), (h_o, .inr (1, [.int o_columnCount, .ref h_o_sets, .ref h_o_starts, .ref h_o_nexts])), (h_o_sets, .inl (cI, o_sets_n, .inl o_sets)), (h_o_starts, .inl (cI, o_starts_n, .inl o_starts))]) hD hS hA [6, 7, 8, 9, 1, 2, 3, 4, 5] rfl
      refine va_calli (va_runV (As := [.ref h_t, .int v5_5, .ref h_o, .int (v4_6 + 1)]) (rest := []) ⟨hx, hb, hml, hown, hts⟩ (c_M_takeRow l dC dI cI cJ cB cZ cT cN H.size h_m h_t h_o h_m_low h_m_middle h_m_high h_t_numbers h_t_study h_o_sets h_o_starts h_o_nexts m_low_n w_7 m_middle_n w_8 m_high_n w_9 t_field t_rowCount t_columnCount t_studied t_numbers_n t_numbers o_columnCount o_sets_n o_sets o_starts_n o_starts v5_5 (v4_6 + 1) _ hc_16) (cwV 4 hts (tb_V tw_217 tw_218 tw_219 tw_5 tw_220) rfl rfl rfl (by decide +kernel) ⟨Nat.le_of_ble_eq_true rfl, Nat.le_of_ble_eq_true rfl⟩) ⟨fun a U g mk q => by obtain ⟨q0, q1, qP, qK, qN, qD⟩ := q; exact ⟨q0, q1, qP, va_K.moved (u := U) (U := U.calling g mk a) (Vm.Alike.refl U.vm) qK, qN.same rfl, qD⟩, va_recv hK hPc (ci := 0) (q0 := 0) rfl rfl, fun U hU hW => ⟨rfl, by rw [hU], by rw [hU]; exact hPc, va_K.moved hW.alike hK, hN.warm hW, hDc.weaken (fun _ _ _ _ => trivial)⟩⟩ rfl rfl hl.1 rfl (lv_room (Nat.le_of_ble_eq_true rfl)) d_St_takeRows_37 ⟨Nat.zero_le _, Nat.zero_le _⟩) hS (fun q _ h => hFc q h) hFc (fun rr u t H1 locs ht hvm hw hB hz1 hk1 hS => ?_)
      obtain ⟨e1, e2⟩ := Prod.mk.inj hw
      replace e1 := e1.symm
      replace e2 := e2.symm
      subst e1
      subst e2
      obtain ⟨hP1, -, hD1⟩ := hB
      rw [ht] at hP1
      obtain ⟨hP, hD⟩ := va_join (wr := [(h_s, .inr (2, [.int s_columnCount, .int s_fullRank, .ref h_s_ranks, .ref h_s_signs, .ref h_s_members, .ref h_s_starts, .ref h_s_defects]))]) (w1 := [(h_m, .inr (0, [.ref h_m_low, .ref h_m_middle, .ref h_m_high])), (h_m_low, .inl (cJ, m_low_n, .inr (.inl u_13))), (h_m_middle, .inl (cJ, m_middle_n, .inr (.inl u_14))), (h_m_high, .inl (cJ, m_high_n, .inr (.inl u_15))), (h_t, .inr (3, [.int t_field, .int t_rowCount, .int t_columnCount, .ref h_t_numbers, .int t_studied, .ref h_t_study])), (h_t_numbers, .inl (cI, t_numbers_n, .inl t_numbers)), (h_o, .inr (1, [.int o_columnCount, .ref h_o_sets, .ref h_o_starts, .ref h_o_nexts])), (h_o_sets, .inl (cI, o_sets_n, .inl o_sets)), (h_o_starts, .inl (cI, o_starts_n, .inl o_starts))]) hP hD [6, 7, 8, 9, 1, 2, 3, 4, 5] [0] rfl rfl (by decide) (by decide) hk1 hFc hP1 hD1
      generalize H1 = H at hP hS ⊢
      have hP : va_P (dC, dI) cl_all [(h_s, .inr (2, [.int s_columnCount, .int s_fullRank, .ref h_s_ranks, .ref h_s_signs, .ref h_s_members, .ref h_s_starts, .ref h_s_defects])), (h_t, .inr (3, [.int t_field, .int t_rowCount, .int t_columnCount, .ref h_t_numbers, .int t_studied, .ref h_t_study])), (h_t_numbers, .inl (cI, t_numbers_n, .inl t_numbers)), (h_o, .inr (1, [.int o_columnCount, .ref h_o_sets, .ref h_o_starts, .ref h_o_nexts])), (h_o_sets, .inl (cI, o_sets_n, .inl o_sets)), (h_o_starts, .inl (cI, o_starts_n, .inl o_starts)), (h_m, .inr (0, [.ref h_m_low, .ref h_m_middle, .ref h_m_high])), (h_m_low, .inl (cJ, m_low_n, .inr (.inl u_13))), (h_m_middle, .inl (cJ, m_middle_n, .inr (.inl u_14))), (h_m_high, .inl (cJ, m_high_n, .inr (.inl u_15)))] H := hP.sub [0, 5, 6, 7, 8, 9, 1, 2, 3, 4] rfl
      have hD : va_D A [(h_s, .inr (2, [.int s_columnCount, .int s_fullRank, .ref h_s_ranks, .ref h_s_signs, .ref h_s_members, .ref h_s_starts, .ref h_s_defects])), (h_t, .inr (3, [.int t_field, .int t_rowCount, .int t_columnCount, .ref h_t_numbers, .int t_studied, .ref h_t_study])), (h_t_numbers, .inl (cI, t_numbers_n, .inl t_numbers)), (h_o, .inr (1, [.int o_columnCount, .ref h_o_sets, .ref h_o_starts, .ref h_o_nexts])), (h_o_sets, .inl (cI, o_sets_n, .inl o_sets)), (h_o_starts, .inl (cI, o_starts_n, .inl o_starts)), (h_m, .inr (0, [.ref h_m_low, .ref h_m_middle, .ref h_m_high])), (h_m_low, .inl (cJ, m_low_n, .inr (.inl u_13))), (h_m_middle, .inl (cJ, m_middle_n, .inr (.inl u_14))), (h_m_high, .inl (cJ, m_high_n, .inr (.inl u_15)))] := hD.sub [0, 5, 6, 7, 8, 9, 1, 2, 3, 4] (by decide) rfl
      refine ck_jn_W h (fun k' => ∀ (v4_17 : Int32), k' v4_17 = some r → ∀ (H : Heap) (locs : List Loc), va_P (dC, dI) cl_all [(h_s, .inr (2, [.int s_columnCount, .int s_fullRank, .ref h_s_ranks, .ref h_s_signs, .ref h_s_members, .ref h_s_starts, .ref h_s_defects])), (h_t, .inr (3, [.int t_field, .int t_rowCount, .int t_columnCount, .ref h_t_numbers, .int t_studied, .ref h_t_study])), (h_t_numbers, .inl (cI, t_numbers_n, .inl t_numbers)), (h_o, .inr (1, [.int o_columnCount, .ref h_o_sets, .ref h_o_starts, .ref h_o_nexts])), (h_o_sets, .inl (cI, o_sets_n, .inl o_sets)), (h_o_starts, .inl (cI, o_starts_n, .inl o_starts)), (h_m, .inr (0, [.ref h_m_low, .ref h_m_middle, .ref h_m_high])), (h_m_low, .inl (cJ, m_low_n, .inr (.inl u_13))), (h_m_middle, .inl (cJ, m_middle_n, .inr (.inl u_14))), (h_m_high, .inl (cJ, m_high_n, .inr (.inl u_15)))] H → va_D A [(h_s, .inr (2, [.int s_columnCount, .int s_fullRank, .ref h_s_ranks, .ref h_s_signs, .ref h_s_members, .ref h_s_starts, .ref h_s_defects])), (h_t, .inr (3, [.int t_field, .int t_rowCount, .int t_columnCount, .ref h_t_numbers, .int t_studied, .ref h_t_study])), (h_t_numbers, .inl (cI, t_numbers_n, .inl t_numbers)), (h_o, .inr (1, [.int o_columnCount, .ref h_o_sets, .ref h_o_starts, .ref h_o_nexts])), (h_o_sets, .inl (cI, o_sets_n, .inl o_sets)), (h_o_starts, .inl (cI, o_starts_n, .inl o_starts)), (h_m, .inr (0, [.ref h_m_low, .ref h_m_middle, .ref h_m_high])), (h_m_low, .inl (cJ, m_low_n, .inr (.inl u_13))), (h_m_middle, .inl (cJ, m_middle_n, .inr (.inl u_14))), (h_m_high, .inl (cJ, m_high_n, .inr (.inl u_15)))] → va_S A s.heap H locs → ∀ ls : Array Slot, lv_has ls 6 [(0, .ref h_s), (1, .ref h_t), (2, .ref h_o), (3, .ref h_m), (4, .int v4_17), (5, .int v5_5)] → W p l e ({ frames := 3, cells := 0, slots := 0, locals := 86 } : Room) s m AR below meth c H locs 0 0 QQ (F0 m 46 ls [])) ?_ ?_
      · intro v4_17 h H locs hP hD hS ls hl
        obtain ⟨x_18, ex_18⟩ : ∃ y : Int32, y = v5_5 + 1 := ⟨_, rfl⟩
        replace h := ck_nm_s h ex_18
        refine lv_iinc (v := x_18) (lv' := [(5, .int x_18), (0, .ref h_s), (1, .ref h_t), (2, .ref h_o), (3, .ref h_m), (4, .int v4_17)]) hx hb d_St_takeRows_46 hl (k := 5) rfl (by rw [ex_18]; rfl) (by decide) rfl (fun ls hl => ?_)
        refine lv_goto (tgt := 10) hx hb d_St_takeRows_49 (by decide) ?_
        exact J_10 _ _ _ _ _ h _ _ hP hD hS _ (lv_sub hl [1, 2, 3, 4, 5, 0] rfl)
      · intro k_46 J_46 h
        refine lv_if_eq (tgt := 46) hx hb d_St_takeRows_40 (by decide) (fun c_19 => ?_) (fun c_19 => ?_)
        · replace h := ck_if_t h c_19
          exact J_46 _ h _ _ hP hD hS _ (lv_sub hl [0, 1, 2, 3, 4, 5] rfl)
        · replace h := ck_if_f h c_19
          obtain ⟨x_20, ex_20⟩ : ∃ y : Int32, y = v4_6 + 1 := ⟨_, rfl⟩
          replace h := ck_nm_s h ex_20
          refine lv_iinc (v := x_20) (lv' := [(4, .int x_20), (0, .ref h_s), (1, .ref h_t), (2, .ref h_o), (3, .ref h_m), (5, .int v5_5)]) hx hb d_St_takeRows_43 hl (k := 4) rfl (by rw [ex_20]; rfl) (by decide) rfl (fun ls hl => ?_)
          exact J_46 _ h _ _ hP hD hS _ (lv_sub hl [1, 2, 3, 4, 0, 5] rfl)
theorem d_St_learn_0 : decode prog_4_method_2_code 0 = .ok (.aload_n 0, 1) := by decide +kernel
theorem d_St_learn_1 : decode prog_4_method_2_code 1 = .ok (.aload_n 1, 1) := by decide +kernel
theorem d_St_learn_2 : decode prog_4_method_2_code 2 = .ok (.getfield 27, 3) := by decide +kernel
theorem d_St_learn_5 : decode prog_4_method_2_code 5 = .ok (.putfield 33, 3) := by decide +kernel
theorem d_St_learn_8 : decode prog_4_method_2_code 8 = .ok (.aload_n 0, 1) := by decide +kernel
theorem d_St_learn_9 : decode prog_4_method_2_code 9 = .ok (.aload_n 0, 1) := by decide +kernel
theorem d_St_learn_10 : decode prog_4_method_2_code 10 = .ok (.aload_n 1, 1) := by decide +kernel
theorem d_St_learn_11 : decode prog_4_method_2_code 11 = .ok (.aload_n 2, 1) := by decide +kernel
theorem d_St_learn_12 : decode prog_4_method_2_code 12 = .ok (.aload_n 3, 1) := by decide +kernel
theorem d_St_learn_13 : decode prog_4_method_2_code 13 = .ok (.invokevirtual 34, 3) := by decide +kernel
theorem d_St_learn_16 : decode prog_4_method_2_code 16 = .ok (.putfield 38, 3) := by decide +kernel
theorem d_St_learn_19 : decode prog_4_method_2_code 19 = .ok (.aload_n 0, 1) := by decide +kernel
theorem d_St_learn_20 : decode prog_4_method_2_code 20 = .ok (.aload_n 2, 1) := by decide +kernel
theorem d_St_learn_21 : decode prog_4_method_2_code 21 = .ok (.aload_n 3, 1) := by decide +kernel
theorem d_St_learn_22 : decode prog_4_method_2_code 22 = .ok (.invokevirtual 41, 3) := by decide +kernel
theorem d_St_learn_25 : decode prog_4_method_2_code 25 = .ok (.aload_n 0, 1) := by decide +kernel
theorem d_St_learn_26 : decode prog_4_method_2_code 26 = .ok (.invokevirtual 45, 3) := by decide +kernel
theorem d_St_learn_29 : decode prog_4_method_2_code 29 = .ok (.aload_n 0, 1) := by decide +kernel
theorem d_St_learn_30 : decode prog_4_method_2_code 30 = .ok (.invokevirtual 48, 3) := by decide +kernel
theorem d_St_learn_33 : decode prog_4_method_2_code 33 = .ok (.aload_n 0, 1) := by decide +kernel
theorem d_St_learn_34 : decode prog_4_method_2_code 34 = .ok (.invokevirtual 51, 3) := by decide +kernel
theorem d_St_learn_37 : decode prog_4_method_2_code 37 = .ok (.aload_n 0, 1) := by decide +kernel
theorem d_St_learn_38 : decode prog_4_method_2_code 38 = .ok (.aload_n 2, 1) := by decide +kernel
theorem d_St_learn_39 : decode prog_4_method_2_code 39 = .ok (.invokevirtual 54, 3) := by decide +kernel
theorem d_St_learn_42 : decode prog_4_method_2_code 42 = .ok (.return_, 1) := by decide +kernel
def f_S_learn (s_ranks_n : Nat) (s_ranks : Nat → Int32) (s_signs_n : Nat) (s_signs : Nat → Int32) (s_members_n : Nat) (s_members : Nat → Int32) (s_starts_n : Nat) (s_starts : Nat → Int32) (s_defects_n : Nat) (s_defects : Nat → Int32) (t_field : Int32) (t_rowCount : Int32) (t_columnCount : Int32) (t_numbers_n : Nat) (t_numbers : Nat → Int32) (o_sets_n : Nat) (o_sets : Nat → Int32) (o_starts_n : Nat) (o_starts : Nat → Int32) (m_low_n : Nat) (m_low : Nat → Int64) (m_middle_n : Nat) (m_middle : Nat → Int64) (m_high_n : Nat) (m_high : Nat → Int64) : Option (Int32 × Int32 × (Nat → Int32) × (Nat → Int32) × (Nat → Int32) × (Nat → Int32) × (Nat → Int32) × (Nat → Int64) × (Nat → Int64) × (Nat → Int64)) :=
  ck_b4 (f_S_takeRows t_columnCount t_field t_rowCount t_columnCount t_numbers_n t_numbers o_sets_n o_sets o_starts_n o_starts m_low_n m_low m_middle_n m_middle m_high_n m_high) <| fun r_1 u_2 u_3 u_4 => ck_b1 (f_S_learnSigns r_1 s_signs_n s_signs o_sets_n o_sets o_starts_n o_starts m_low_n u_2 m_middle_n u_3 m_high_n u_4) <| fun u_6 => ck_b1 (f_S_markIndependent t_columnCount r_1 s_ranks_n s_ranks s_signs_n u_6) <| fun u_8 => ck_b1 (f_S_learnRanks t_columnCount s_ranks_n u_8) <| fun u_10 => ck_b1 (f_S_learnDefects t_columnCount r_1 s_ranks_n u_10 s_defects_n s_defects) <| fun u_12 => ck_b2 (f_S_learnMembers t_columnCount r_1 s_ranks_n u_10 s_members_n s_members s_starts_n s_starts o_sets_n o_sets) <| fun u_14 u_15 => some (t_columnCount, r_1, u_10, u_6, u_14, u_15, u_12, u_2, u_3, u_4)
set_option maxHeartbeats 4000000 in
set_option maxRecDepth 100000 in
theorem c_S_learn (l : Launch) (dC : Nat → ClassId) (dI : Nat → Nat → Nat) (cI cJ cB cZ cT cN : ClassId) (sz : Nat) (h_s : Nat) (h_t : Nat) (h_o : Nat) (h_m : Nat) (h_s_ranks : Nat) (h_s_signs : Nat) (h_s_members : Nat) (h_s_starts : Nat) (h_s_defects : Nat) (h_t_numbers : Nat) (h_t_study : Nat) (h_o_sets : Nat) (h_o_starts : Nat) (h_o_nexts : Nat) (h_m_low : Nat) (h_m_middle : Nat) (h_m_high : Nat) (s_columnCount : Int32) (s_fullRank : Int32) (s_ranks_n : Nat) (s_ranks : Nat → Int32) (s_signs_n : Nat) (s_signs : Nat → Int32) (s_members_n : Nat) (s_members : Nat → Int32) (s_starts_n : Nat) (s_starts : Nat → Int32) (s_defects_n : Nat) (s_defects : Nat → Int32) (t_field : Int32) (t_rowCount : Int32) (t_columnCount : Int32) (t_studied : Int32) (t_numbers_n : Nat) (t_numbers : Nat → Int32) (o_columnCount : Int32) (o_sets_n : Nat) (o_sets : Nat → Int32) (o_starts_n : Nat) (o_starts : Nat → Int32) (m_low_n : Nat) (m_low : Nat → Int64) (m_middle_n : Nat) (m_middle : Nat → Int64) (m_high_n : Nat) (m_high : Nat → Int64) (r : Int32 × Int32 × (Nat → Int32) × (Nat → Int32) × (Nat → Int32) × (Nat → Int32) × (Nat → Int32) × (Nat → Int64) × (Nat → Int64) × (Nat → Int64)) (h : f_S_learn s_ranks_n s_ranks s_signs_n s_signs s_members_n s_members s_starts_n s_starts s_defects_n s_defects t_field t_rowCount t_columnCount t_numbers_n t_numbers o_sets_n o_sets o_starts_n o_starts m_low_n m_low m_middle_n m_middle m_high_n m_high = some r) : Met l y_St_learn w_St_learn ({ frames := 4, cells := 0, slots := 0, locals := 111 } : Room) (va_Pc [.ref h_s, .ref h_t, .ref h_o, .ref h_m] (fun U => U.heap.size = sz ∧ va_P (dC, dI) cl_all [(h_s, .inr (2, [.int s_columnCount, .int s_fullRank, .ref h_s_ranks, .ref h_s_signs, .ref h_s_members, .ref h_s_starts, .ref h_s_defects])), (h_s_ranks, .inl (cI, s_ranks_n, .inl s_ranks)), (h_s_signs, .inl (cI, s_signs_n, .inl s_signs)), (h_s_members, .inl (cI, s_members_n, .inl s_members)), (h_s_starts, .inl (cI, s_starts_n, .inl s_starts)), (h_s_defects, .inl (cI, s_defects_n, .inl s_defects)), (h_t, .inr (3, [.int t_field, .int t_rowCount, .int t_columnCount, .ref h_t_numbers, .int t_studied, .ref h_t_study])), (h_t_numbers, .inl (cI, t_numbers_n, .inl t_numbers)), (h_o, .inr (1, [.int o_columnCount, .ref h_o_sets, .ref h_o_starts, .ref h_o_nexts])), (h_o_sets, .inl (cI, o_sets_n, .inl o_sets)), (h_o_starts, .inl (cI, o_starts_n, .inl o_starts)), (h_m, .inr (0, [.ref h_m_low, .ref h_m_middle, .ref h_m_high])), (h_m_low, .inl (cJ, m_low_n, .inr (.inl m_low))), (h_m_middle, .inl (cJ, m_middle_n, .inr (.inl m_middle))), (h_m_high, .inl (cJ, m_high_n, .inr (.inl m_high)))] U.heap ∧ va_K (dC, dI) cl_all [(cI, .int), (cJ, .long), (cB, .byte), (cZ, .boolean), (cT, .object "BasisWalk$Table"), (cN, .object "BasisWalkModel$Num")] U ∧ NW U ∧ va_D (fun _ => True) [(h_s, .inr (2, [.int s_columnCount, .int s_fullRank, .ref h_s_ranks, .ref h_s_signs, .ref h_s_members, .ref h_s_starts, .ref h_s_defects])), (h_s_ranks, .inl (cI, s_ranks_n, .inl s_ranks)), (h_s_signs, .inl (cI, s_signs_n, .inl s_signs)), (h_s_members, .inl (cI, s_members_n, .inl s_members)), (h_s_starts, .inl (cI, s_starts_n, .inl s_starts)), (h_s_defects, .inl (cI, s_defects_n, .inl s_defects)), (h_t, .inr (3, [.int t_field, .int t_rowCount, .int t_columnCount, .ref h_t_numbers, .int t_studied, .ref h_t_study])), (h_t_numbers, .inl (cI, t_numbers_n, .inl t_numbers)), (h_o, .inr (1, [.int o_columnCount, .ref h_o_sets, .ref h_o_starts, .ref h_o_nexts])), (h_o_sets, .inl (cI, o_sets_n, .inl o_sets)), (h_o_starts, .inl (cI, o_starts_n, .inl o_starts)), (h_m, .inr (0, [.ref h_m_low, .ref h_m_middle, .ref h_m_high])), (h_m_low, .inl (cJ, m_low_n, .inr (.inl m_low))), (h_m_middle, .inl (cJ, m_middle_n, .inr (.inl m_middle))), (h_m_high, .inl (cJ, m_high_n, .inr (.inl m_high)))])) (va_Qv (fun u : Int32 × Int32 × (Nat → Int32) × (Nat → Int32) × (Nat → Int32) × (Nat → Int32) × (Nat → Int32) × (Nat → Int64) × (Nat → Int64) × (Nat → Int64) => u = r) (fun (u : Int32 × Int32 × (Nat → Int32) × (Nat → Int32) × (Nat → Int32) × (Nat → Int32) × (Nat → Int32) × (Nat → Int64) × (Nat → Int64) × (Nat → Int64)) (t : State) => va_P (dC, dI) cl_all [(h_s, .inr (2, [.int u.1, .int u.2.1, .ref h_s_ranks, .ref h_s_signs, .ref h_s_members, .ref h_s_starts, .ref h_s_defects])), (h_s_ranks, .inl (cI, s_ranks_n, .inl u.2.2.1)), (h_s_signs, .inl (cI, s_signs_n, .inl u.2.2.2.1)), (h_s_members, .inl (cI, s_members_n, .inl u.2.2.2.2.1)), (h_s_starts, .inl (cI, s_starts_n, .inl u.2.2.2.2.2.1)), (h_s_defects, .inl (cI, s_defects_n, .inl u.2.2.2.2.2.2.1)), (h_t, .inr (3, [.int t_field, .int t_rowCount, .int t_columnCount, .ref h_t_numbers, .int t_studied, .ref h_t_study])), (h_t_numbers, .inl (cI, t_numbers_n, .inl t_numbers)), (h_o, .inr (1, [.int o_columnCount, .ref h_o_sets, .ref h_o_starts, .ref h_o_nexts])), (h_o_sets, .inl (cI, o_sets_n, .inl o_sets)), (h_o_starts, .inl (cI, o_starts_n, .inl o_starts)), (h_m, .inr (0, [.ref h_m_low, .ref h_m_middle, .ref h_m_high])), (h_m_low, .inl (cJ, m_low_n, .inr (.inl u.2.2.2.2.2.2.2.1))), (h_m_middle, .inl (cJ, m_middle_n, .inr (.inl u.2.2.2.2.2.2.2.2.1))), (h_m_high, .inl (cJ, m_high_n, .inr (.inl u.2.2.2.2.2.2.2.2.2)))] t.heap ∧ va_K (dC, dI) cl_all [(cI, .int), (cJ, .long), (cB, .byte), (cZ, .boolean), (cT, .object "BasisWalk$Table"), (cN, .object "BasisWalkModel$Num")] t ∧ va_D (va_A [(h_s, .inr (2, [.int s_columnCount, .int s_fullRank, .ref h_s_ranks, .ref h_s_signs, .ref h_s_members, .ref h_s_starts, .ref h_s_defects])), (h_s_ranks, .inl (cI, s_ranks_n, .inl s_ranks)), (h_s_signs, .inl (cI, s_signs_n, .inl s_signs)), (h_s_members, .inl (cI, s_members_n, .inl s_members)), (h_s_starts, .inl (cI, s_starts_n, .inl s_starts)), (h_s_defects, .inl (cI, s_defects_n, .inl s_defects)), (h_t, .inr (3, [.int t_field, .int t_rowCount, .int t_columnCount, .ref h_t_numbers, .int t_studied, .ref h_t_study])), (h_t_numbers, .inl (cI, t_numbers_n, .inl t_numbers)), (h_o, .inr (1, [.int o_columnCount, .ref h_o_sets, .ref h_o_starts, .ref h_o_nexts])), (h_o_sets, .inl (cI, o_sets_n, .inl o_sets)), (h_o_starts, .inl (cI, o_starts_n, .inl o_starts)), (h_m, .inr (0, [.ref h_m_low, .ref h_m_middle, .ref h_m_high])), (h_m_low, .inl (cJ, m_low_n, .inr (.inl m_low))), (h_m_middle, .inl (cJ, m_middle_n, .inr (.inl m_middle))), (h_m_high, .inl (cJ, m_high_n, .inr (.inl m_high)))] sz) [(h_s, .inr (2, [.int u.1, .int u.2.1, .ref h_s_ranks, .ref h_s_signs, .ref h_s_members, .ref h_s_starts, .ref h_s_defects])), (h_s_ranks, .inl (cI, s_ranks_n, .inl u.2.2.1)), (h_s_signs, .inl (cI, s_signs_n, .inl u.2.2.2.1)), (h_s_members, .inl (cI, s_members_n, .inl u.2.2.2.2.1)), (h_s_starts, .inl (cI, s_starts_n, .inl u.2.2.2.2.2.1)), (h_s_defects, .inl (cI, s_defects_n, .inl u.2.2.2.2.2.2.1)), (h_t, .inr (3, [.int t_field, .int t_rowCount, .int t_columnCount, .ref h_t_numbers, .int t_studied, .ref h_t_study])), (h_t_numbers, .inl (cI, t_numbers_n, .inl t_numbers)), (h_o, .inr (1, [.int o_columnCount, .ref h_o_sets, .ref h_o_starts, .ref h_o_nexts])), (h_o_sets, .inl (cI, o_sets_n, .inl o_sets)), (h_o_starts, .inl (cI, o_starts_n, .inl o_starts)), (h_m, .inr (0, [.ref h_m_low, .ref h_m_middle, .ref h_m_high])), (h_m_low, .inl (cJ, m_low_n, .inr (.inl u.2.2.2.2.2.2.2.1))), (h_m_middle, .inl (cJ, m_middle_n, .inr (.inl u.2.2.2.2.2.2.2.2.1))), (h_m_high, .inl (cJ, m_high_n, .inr (.inl u.2.2.2.2.2.2.2.2.2)))]) (va_A [(h_s, .inr (2, [.int s_columnCount, .int s_fullRank, .ref h_s_ranks, .ref h_s_signs, .ref h_s_members, .ref h_s_starts, .ref h_s_defects])), (h_s_ranks, .inl (cI, s_ranks_n, .inl s_ranks)), (h_s_signs, .inl (cI, s_signs_n, .inl s_signs)), (h_s_members, .inl (cI, s_members_n, .inl s_members)), (h_s_starts, .inl (cI, s_starts_n, .inl s_starts)), (h_s_defects, .inl (cI, s_defects_n, .inl s_defects)), (h_t, .inr (3, [.int t_field, .int t_rowCount, .int t_columnCount, .ref h_t_numbers, .int t_studied, .ref h_t_study])), (h_t_numbers, .inl (cI, t_numbers_n, .inl t_numbers)), (h_o, .inr (1, [.int o_columnCount, .ref h_o_sets, .ref h_o_starts, .ref h_o_nexts])), (h_o_sets, .inl (cI, o_sets_n, .inl o_sets)), (h_o_starts, .inl (cI, o_starts_n, .inl o_starts)), (h_m, .inr (0, [.ref h_m_low, .ref h_m_middle, .ref h_m_high])), (h_m_low, .inl (cJ, m_low_n, .inr (.inl m_low))), (h_m_middle, .inl (cJ, m_middle_n, .inr (.inl m_middle))), (h_m_high, .inl (cJ, m_high_n, .inr (.inl m_high)))] sz)) 0 0 (va_A [(h_s, .inr (2, [.int s_columnCount, .int s_fullRank, .ref h_s_ranks, .ref h_s_signs, .ref h_s_members, .ref h_s_starts, .ref h_s_defects])), (h_s_ranks, .inl (cI, s_ranks_n, .inl s_ranks)), (h_s_signs, .inl (cI, s_signs_n, .inl s_signs)), (h_s_members, .inl (cI, s_members_n, .inl s_members)), (h_s_starts, .inl (cI, s_starts_n, .inl s_starts)), (h_s_defects, .inl (cI, s_defects_n, .inl s_defects)), (h_t, .inr (3, [.int t_field, .int t_rowCount, .int t_columnCount, .ref h_t_numbers, .int t_studied, .ref h_t_study])), (h_t_numbers, .inl (cI, t_numbers_n, .inl t_numbers)), (h_o, .inr (1, [.int o_columnCount, .ref h_o_sets, .ref h_o_starts, .ref h_o_nexts])), (h_o_sets, .inl (cI, o_sets_n, .inl o_sets)), (h_o_starts, .inl (cI, o_starts_n, .inl o_starts)), (h_m, .inr (0, [.ref h_m_low, .ref h_m_middle, .ref h_m_high])), (h_m_low, .inl (cJ, m_low_n, .inr (.inl m_low))), (h_m_middle, .inl (cJ, m_middle_n, .inr (.inl m_middle))), (h_m_high, .inl (cJ, m_high_n, .inr (.inl m_high)))] sz) := by
  refine Met.ofW (cc := prog_4_method_2_code) (maxL := 4) (ret := (Option.none : Option Jvm.ClassFile.FieldType)) (by decide) rfl ?_
  intro p e s m args below meth c s₁ B hml hv
  obtain ⟨hAR, hsz, hP, hK, hN, hD0⟩ := hv
  have hx := B.exec
  have hb := B.bytes
  have hr := B.returns
  have hts := atoms_spec (ws := w_St_learn) B.pre
  have hown : s.vm.findClass "BasisWalk$Study" = some m.cls := findClass_of_methodNamed B.named
  have hlocks := B.notSynchronized
  clear B
  subst hsz
  have hD := hD0.self (sz := s.heap.size)
  generalize hAe : va_A [(h_s, .inr (2, [.int s_columnCount, .int s_fullRank, .ref h_s_ranks, .ref h_s_signs, .ref h_s_members, .ref h_s_starts, .ref h_s_defects])), (h_s_ranks, .inl (cI, s_ranks_n, .inl s_ranks)), (h_s_signs, .inl (cI, s_signs_n, .inl s_signs)), (h_s_members, .inl (cI, s_members_n, .inl s_members)), (h_s_starts, .inl (cI, s_starts_n, .inl s_starts)), (h_s_defects, .inl (cI, s_defects_n, .inl s_defects)), (h_t, .inr (3, [.int t_field, .int t_rowCount, .int t_columnCount, .ref h_t_numbers, .int t_studied, .ref h_t_study])), (h_t_numbers, .inl (cI, t_numbers_n, .inl t_numbers)), (h_o, .inr (1, [.int o_columnCount, .ref h_o_sets, .ref h_o_starts, .ref h_o_nexts])), (h_o_sets, .inl (cI, o_sets_n, .inl o_sets)), (h_o_starts, .inl (cI, o_starts_n, .inl o_starts)), (h_m, .inr (0, [.ref h_m_low, .ref h_m_middle, .ref h_m_high])), (h_m_low, .inl (cJ, m_low_n, .inr (.inl m_low))), (h_m_middle, .inl (cJ, m_middle_n, .inr (.inl m_middle))), (h_m_high, .inl (cJ, m_high_n, .inr (.inl m_high)))] s.heap.size = A at hD ⊢
  have hA : ∀ q : Nat, s.heap.size ≤ q → A q := fun q h => by rw [← hAe]; exact Or.inr h
  clear hAe hD0
  have hS : va_S A s.heap s.heap [] := va_S.rf
  have hl := lv_entry ([.ref h_s, .ref h_t, .ref h_o, .ref h_m]) (n := 4) (Nat.le_of_ble_eq_true rfl)
  subst hAR
  rw [lg_entry_eq]
  generalize (lg_sl ([.ref h_s, .ref h_t, .ref h_o, .ref h_m]) ++ List.replicate (4 - (lg_sl ([.ref h_s, .ref h_t, .ref h_o, .ref h_m])).length) Slot.unset).toArray = ls at hl ⊢
  have hl : lv_has ls 4 [(0, .ref h_s), (1, .ref h_t), (2, .ref h_o), (3, .ref h_m)] := hl
  change W p l e ({ frames := 4, cells := 0, slots := 0, locals := 111 } : Room) s m _ below meth c s.heap [] 0 0 _ _
  generalize hARe : ([.ref h_s, .ref h_t, .ref h_o, .ref h_m] : List Value).toArray = AR at hts ⊢
  clear hARe
  generalize hQ : MQ below _ AR s 0 0 A = QQ
  have fl0 := va_Nw.use (A := AR) rfl (hN _ tn_63)
  have iw1 := (fun w hw => List.mem_cons_of_mem _ (in_Ta w hw) : ∀ w ∈ u_ws "BasisWalk$Table" T_Ta 6, w ∈ w_St_learn)
  have fl2 := hts _ (List.mem_cons_of_mem _ tw_32)
  have iw3 := (fun w hw => List.mem_cons_of_mem _ (in_St w hw) : ∀ w ∈ u_ws "BasisWalk$Study" T_St 7, w ∈ w_St_learn)
  have fl4 := hts _ (List.mem_cons_of_mem _ tw_33)
  obtain ⟨H, hHe⟩ : ∃ H : Heap, H = s.heap := ⟨_, rfl⟩
  rw [← hHe] at hP ⊢
  replace hS : va_S A s.heap H [] := by rw [hHe]; exact va_S.rf
  clear hHe
  unfold f_S_learn at h
  refine lv_aload_n hx hb d_St_learn_0 rfl (lv_at hl 0 rfl) ?_
  refine lv_aload_n hx hb d_St_learn_1 rfl (lv_at hl 1 rfl) ?_
  refine va_getN (D := (dC, dI)) (ci := 3) (v := .int t_columnCount) (C := "BasisWalk$Table") (T := T_Ta) (N := 6) hx hb hts iw1 hown hK hP 6 rfl rfl 2 (by decide) fl0 (fun _ h9 => h9) rfl d_St_learn_2 ?_
  refine va_put (D := (dC, dI)) (ci := 2) (v := .int t_columnCount) (ty := .int) (C := "BasisWalk$Study") (T := T_St) (N := 7) hx hb hts iw3 ty_St tyok_St nm_St hown hK hP hD hS 0 rfl rfl 0 (by decide) fl2 (fun _ h9 => h9) rfl (by decide +kernel) rfl rfl (Nat.le_of_ble_eq_true rfl) d_St_learn_5 (fun H locs hP hD hS => ?_)
  have hP : va_P (dC, dI) cl_all [(h_s, .inr (2, [.int t_columnCount, .int s_fullRank, .ref h_s_ranks, .ref h_s_signs, .ref h_s_members, .ref h_s_starts, .ref h_s_defects])), (h_s_ranks, .inl (cI, s_ranks_n, .inl s_ranks)), (h_s_signs, .inl (cI, s_signs_n, .inl s_signs)), (h_s_members, .inl (cI, s_members_n, .inl s_members)), (h_s_starts, .inl (cI, s_starts_n, .inl s_starts)), (h_s_defects, .inl (cI, s_defects_n, .inl s_defects)), (h_t, .inr (3, [.int t_field, .int t_rowCount, .int t_columnCount, .ref h_t_numbers, .int t_studied, .ref h_t_study])), (h_t_numbers, .inl (cI, t_numbers_n, .inl t_numbers)), (h_o, .inr (1, [.int o_columnCount, .ref h_o_sets, .ref h_o_starts, .ref h_o_nexts])), (h_o_sets, .inl (cI, o_sets_n, .inl o_sets)), (h_o_starts, .inl (cI, o_starts_n, .inl o_starts)), (h_m, .inr (0, [.ref h_m_low, .ref h_m_middle, .ref h_m_high])), (h_m_low, .inl (cJ, m_low_n, .inr (.inl m_low))), (h_m_middle, .inl (cJ, m_middle_n, .inr (.inl m_middle))), (h_m_high, .inl (cJ, m_high_n, .inr (.inl m_high)))] H := hP
  have hD : va_D A [(h_s, .inr (2, [.int t_columnCount, .int s_fullRank, .ref h_s_ranks, .ref h_s_signs, .ref h_s_members, .ref h_s_starts, .ref h_s_defects])), (h_s_ranks, .inl (cI, s_ranks_n, .inl s_ranks)), (h_s_signs, .inl (cI, s_signs_n, .inl s_signs)), (h_s_members, .inl (cI, s_members_n, .inl s_members)), (h_s_starts, .inl (cI, s_starts_n, .inl s_starts)), (h_s_defects, .inl (cI, s_defects_n, .inl s_defects)), (h_t, .inr (3, [.int t_field, .int t_rowCount, .int t_columnCount, .ref h_t_numbers, .int t_studied, .ref h_t_study])), (h_t_numbers, .inl (cI, t_numbers_n, .inl t_numbers)), (h_o, .inr (1, [.int o_columnCount, .ref h_o_sets, .ref h_o_starts, .ref h_o_nexts])), (h_o_sets, .inl (cI, o_sets_n, .inl o_sets)), (h_o_starts, .inl (cI, o_starts_n, .inl o_starts)), (h_m, .inr (0, [.ref h_m_low, .ref h_m_middle, .ref h_m_high])), (h_m_low, .inl (cJ, m_low_n, .inr (.inl m_low))), (h_m_middle, .inl (cJ, m_middle_n, .inr (.inl m_middle))), (h_m_high, .inl (cJ, m_high_n, .inr (.inl m_high)))] := hD
  refine lv_aload_n hx hb d_St_learn_8 rfl (lv_at hl 0 rfl) ?_
  refine lv_aload_n hx hb d_St_learn_9 rfl (lv_at hl 0 rfl) ?_
  refine lv_aload_n hx hb d_St_learn_10 rfl (lv_at hl 1 rfl) ?_
  refine lv_aload_n hx hb d_St_learn_11 rfl (lv_at hl 2 rfl) ?_
  refine lv_aload_n hx hb d_St_learn_12 rfl (lv_at hl 3 rfl) ?_
  obtain ⟨r_1, u_2, u_3, u_4, hc_5, h⟩ := ck_b4_s h
  have hPc := hP.sub (ws' := [(h_s, .inr (2, [.int t_columnCount, .int s_fullRank, .ref h_s_ranks, .ref h_s_signs, .ref h_s_members, .ref h_s_starts, .ref h_s_defects])), (h_t, .inr (3, [.int t_field, .int t_rowCount, .int t_columnCount, .ref h_t_numbers, .int t_studied, .ref h_t_study])), (h_t_numbers, .inl (cI, t_numbers_n, .inl t_numbers)), (h_o, .inr (1, [.int o_columnCount, .ref h_o_sets, .ref h_o_starts, .ref h_o_nexts])), (h_o_sets, .inl (cI, o_sets_n, .inl o_sets)), (h_o_starts, .inl (cI, o_starts_n, .inl o_starts)), (h_m, .inr (0, [.ref h_m_low, .ref h_m_middle, .ref h_m_high])), (h_m_low, .inl (cJ, m_low_n, .inr (.inl m_low))), (h_m_middle, .inl (cJ, m_middle_n, .inr (.inl m_middle))), (h_m_high, .inl (cJ, m_high_n, .inr (.inl m_high)))]) [0, 6, 7, 8, 9, 10, 11, 12, 13, 14] rfl
  have hDc := hD.sub (ws' := [(h_s, .inr (2, [.int t_columnCount, .int s_fullRank, .ref h_s_ranks, .ref h_s_signs, .ref h_s_members, .ref h_s_starts, .ref h_s_defects])), (h_t, .inr (3, [.int t_field, .int t_rowCount, .int t_columnCount, .ref h_t_numbers, .int t_studied, .ref h_t_study])), (h_t_numbers, .inl (cI, t_numbers_n, .inl t_numbers)), (h_o, .inr (1, [.int o_columnCount, .ref h_o_sets, .ref h_o_starts, .ref h_o_nexts])), (h_o_sets, .inl (cI, o_sets_n, .inl o_sets)), (h_o_starts, .inl (cI, o_starts_n, .inl o_starts)), (h_m, .inr (0, [.ref h_m_low, .ref h_m_middle, .ref h_m_high])), (h_m_low, .inl (cJ, m_low_n, .inr (.inl m_low))), (h_m_middle, .inl (cJ, m_middle_n, .inr (.inl m_middle))), (h_m_high, .inl (cJ, m_high_n, .inr (.inl m_high)))]) [0, 6, 7, 8, 9, 10, 11, 12, 13, 14] (by decide) rfl
  have hFc := va_free (wc := [(h_s, .inr (2, [.int t_columnCount, .int s_fullRank, .ref h_s_ranks, .ref h_s_signs, .ref h_s_members, .ref h_s_starts, .ref h_s_defects])), (h_t, .inr (3, [.int t_field, .int t_rowCount, .int t_columnCount, .ref h_t_numbers, .int t_studied, .ref h_t_study])), (h_t_numbers, .inl (cI, t_numbers_n, .inl t_numbers)), (h_o, .inr (1, [.int o_columnCount, .ref h_o_sets, .ref h_o_starts, .ref h_o_nexts])), (h_o_sets, .inl (cI, o_sets_n, .inl o_sets)), (h_o_starts, .inl (cI, o_starts_n, .inl o_starts)), (h_m, .inr (0, [.ref h_m_low, .ref h_m_middle, .ref h_m_high])), (h_m_low, .inl (cJ, m_low_n, .inr (.inl m_low))), (h_m_middle, .inl (cJ, m_middle_n, .inr (.inl m_middle))), (h_m_high, .inl (cJ, m_high_n, .inr (.inl m_high)))]) hD hS hA [0, 6, 7, 8, 9, 10, 11, 12, 13, 14] rfl
  refine va_calli (va_runV (As := [.ref h_t, .ref h_o, .ref h_m]) (rest := [.ref h_s]) ⟨hx, hb, hml, hown, hts⟩ (c_S_takeRows l dC dI cI cJ cB cZ cT cN H.size h_s h_t h_o h_m h_s_ranks h_s_signs h_s_members h_s_starts h_s_defects h_t_numbers h_t_study h_o_sets h_o_starts h_o_nexts h_m_low h_m_middle h_m_high t_columnCount s_fullRank t_field t_rowCount t_columnCount t_studied t_numbers_n t_numbers o_columnCount o_sets_n o_sets o_starts_n o_starts m_low_n m_low m_middle_n m_middle m_high_n m_high _ hc_5) (cwV 3 hts (tb_V tw_209 tw_211 tp_3 tw_3 tw_212) rfl rfl rfl (by decide +kernel) ⟨Nat.le_of_ble_eq_true rfl, Nat.le_of_ble_eq_true rfl⟩) ⟨fun a U g mk q => by obtain ⟨q0, q1, qP, qK, qN, qD⟩ := q; exact ⟨q0, q1, qP, va_K.moved (u := U) (U := U.calling g mk a) (Vm.Alike.refl U.vm) qK, qN.same rfl, qD⟩, va_recv hK hPc (ci := 2) (q0 := 0) rfl rfl, fun U hU hW => ⟨rfl, by rw [hU], by rw [hU]; exact hPc, va_K.moved hW.alike hK, hN.warm hW, hDc.weaken (fun _ _ _ _ => trivial)⟩⟩ rfl rfl hl.1 rfl (lv_room (Nat.le_of_ble_eq_true rfl)) d_St_learn_13 ⟨Nat.zero_le _, Nat.zero_le _⟩) hS (fun q _ h => hFc q h) hFc (fun rr u t H1 locs ht hvm hw hB hz1 hk1 hS => ?_)
  obtain ⟨e1, e2⟩ := Prod.mk.inj hw
  replace e1 := e1.symm
  replace e2 := e2.symm
  subst e1
  subst e2
  obtain ⟨hP1, -, hD1⟩ := hB
  rw [ht] at hP1
  obtain ⟨hP, hD⟩ := va_join (wr := [(h_s_ranks, .inl (cI, s_ranks_n, .inl s_ranks)), (h_s_signs, .inl (cI, s_signs_n, .inl s_signs)), (h_s_members, .inl (cI, s_members_n, .inl s_members)), (h_s_starts, .inl (cI, s_starts_n, .inl s_starts)), (h_s_defects, .inl (cI, s_defects_n, .inl s_defects))]) (w1 := [(h_s, .inr (2, [.int t_columnCount, .int s_fullRank, .ref h_s_ranks, .ref h_s_signs, .ref h_s_members, .ref h_s_starts, .ref h_s_defects])), (h_t, .inr (3, [.int t_field, .int t_rowCount, .int t_columnCount, .ref h_t_numbers, .int t_studied, .ref h_t_study])), (h_t_numbers, .inl (cI, t_numbers_n, .inl t_numbers)), (h_o, .inr (1, [.int o_columnCount, .ref h_o_sets, .ref h_o_starts, .ref h_o_nexts])), (h_o_sets, .inl (cI, o_sets_n, .inl o_sets)), (h_o_starts, .inl (cI, o_starts_n, .inl o_starts)), (h_m, .inr (0, [.ref h_m_low, .ref h_m_middle, .ref h_m_high])), (h_m_low, .inl (cJ, m_low_n, .inr (.inl u_2))), (h_m_middle, .inl (cJ, m_middle_n, .inr (.inl u_3))), (h_m_high, .inl (cJ, m_high_n, .inr (.inl u_4)))]) hP hD [0, 6, 7, 8, 9, 10, 11, 12, 13, 14] [1, 2, 3, 4, 5] rfl rfl (by decide) (by decide) hk1 hFc hP1 hD1
  generalize H1 = H at hP hS ⊢
  have hP : va_P (dC, dI) cl_all [(h_s, .inr (2, [.int t_columnCount, .int s_fullRank, .ref h_s_ranks, .ref h_s_signs, .ref h_s_members, .ref h_s_starts, .ref h_s_defects])), (h_s_ranks, .inl (cI, s_ranks_n, .inl s_ranks)), (h_s_signs, .inl (cI, s_signs_n, .inl s_signs)), (h_s_members, .inl (cI, s_members_n, .inl s_members)), (h_s_starts, .inl (cI, s_starts_n, .inl s_starts)), (h_s_defects, .inl (cI, s_defects_n, .inl s_defects)), (h_t, .inr (3, [.int t_field, .int t_rowCount, .int t_columnCount, .ref h_t_numbers, .int t_studied, .ref h_t_study])), (h_t_numbers, .inl (cI, t_numbers_n, .inl t_numbers)), (h_o, .inr (1, [.int o_columnCount, .ref h_o_sets, .ref h_o_starts, .ref h_o_nexts])), (h_o_sets, .inl (cI, o_sets_n, .inl o_sets)), (h_o_starts, .inl (cI, o_starts_n, .inl o_starts)), (h_m, .inr (0, [.ref h_m_low, .ref h_m_middle, .ref h_m_high])), (h_m_low, .inl (cJ, m_low_n, .inr (.inl u_2))), (h_m_middle, .inl (cJ, m_middle_n, .inr (.inl u_3))), (h_m_high, .inl (cJ, m_high_n, .inr (.inl u_4)))] H := hP.sub [5, 0, 1, 2, 3, 4, 6, 7, 8, 9, 10, 11, 12, 13, 14] rfl
  have hD : va_D A [(h_s, .inr (2, [.int t_columnCount, .int s_fullRank, .ref h_s_ranks, .ref h_s_signs, .ref h_s_members, .ref h_s_starts, .ref h_s_defects])), (h_s_ranks, .inl (cI, s_ranks_n, .inl s_ranks)), (h_s_signs, .inl (cI, s_signs_n, .inl s_signs)), (h_s_members, .inl (cI, s_members_n, .inl s_members)), (h_s_starts, .inl (cI, s_starts_n, .inl s_starts)), (h_s_defects, .inl (cI, s_defects_n, .inl s_defects)), (h_t, .inr (3, [.int t_field, .int t_rowCount, .int t_columnCount, .ref h_t_numbers, .int t_studied, .ref h_t_study])), (h_t_numbers, .inl (cI, t_numbers_n, .inl t_numbers)), (h_o, .inr (1, [.int o_columnCount, .ref h_o_sets, .ref h_o_starts, .ref h_o_nexts])), (h_o_sets, .inl (cI, o_sets_n, .inl o_sets)), (h_o_starts, .inl (cI, o_starts_n, .inl o_starts)), (h_m, .inr (0, [.ref h_m_low, .ref h_m_middle, .ref h_m_high])), (h_m_low, .inl (cJ, m_low_n, .inr (.inl u_2))), (h_m_middle, .inl (cJ, m_middle_n, .inr (.inl u_3))), (h_m_high, .inl (cJ, m_high_n, .inr (.inl u_4)))] := hD.sub [5, 0, 1, 2, 3, 4, 6, 7, 8, 9, 10, 11, 12, 13, 14] (by decide) rfl
  refine va_put (D := (dC, dI)) (ci := 2) (v := .int r_1) (ty := .int) (C := "BasisWalk$Study") (T := T_St) (N := 7) hx hb hts iw3 ty_St tyok_St nm_St hown hK hP hD hS 0 rfl rfl 1 (by decide) fl4 (fun _ h9 => h9) rfl (by decide +kernel) rfl rfl (Nat.le_of_ble_eq_true rfl) d_St_learn_16 (fun H locs hP hD hS => ?_)
  have hP : va_P (dC, dI) cl_all [(h_s, .inr (2, [.int t_columnCount, .int r_1, .ref h_s_ranks, .ref h_s_signs, .ref h_s_members, .ref h_s_starts, .ref h_s_defects])), (h_s_ranks, .inl (cI, s_ranks_n, .inl s_ranks)), (h_s_signs, .inl (cI, s_signs_n, .inl s_signs)), (h_s_members, .inl (cI, s_members_n, .inl s_members)), (h_s_starts, .inl (cI, s_starts_n, .inl s_starts)), (h_s_defects, .inl (cI, s_defects_n, .inl s_defects)), (h_t, .inr (3, [.int t_field, .int t_rowCount, .int t_columnCount, .ref h_t_numbers, .int t_studied, .ref h_t_study])), (h_t_numbers, .inl (cI, t_numbers_n, .inl t_numbers)), (h_o, .inr (1, [.int o_columnCount, .ref h_o_sets, .ref h_o_starts, .ref h_o_nexts])), (h_o_sets, .inl (cI, o_sets_n, .inl o_sets)), (h_o_starts, .inl (cI, o_starts_n, .inl o_starts)), (h_m, .inr (0, [.ref h_m_low, .ref h_m_middle, .ref h_m_high])), (h_m_low, .inl (cJ, m_low_n, .inr (.inl u_2))), (h_m_middle, .inl (cJ, m_middle_n, .inr (.inl u_3))), (h_m_high, .inl (cJ, m_high_n, .inr (.inl u_4)))] H := hP
  have hD : va_D A [(h_s, .inr (2, [.int t_columnCount, .int r_1, .ref h_s_ranks, .ref h_s_signs, .ref h_s_members, .ref h_s_starts, .ref h_s_defects])), (h_s_ranks, .inl (cI, s_ranks_n, .inl s_ranks)), (h_s_signs, .inl (cI, s_signs_n, .inl s_signs)), (h_s_members, .inl (cI, s_members_n, .inl s_members)), (h_s_starts, .inl (cI, s_starts_n, .inl s_starts)), (h_s_defects, .inl (cI, s_defects_n, .inl s_defects)), (h_t, .inr (3, [.int t_field, .int t_rowCount, .int t_columnCount, .ref h_t_numbers, .int t_studied, .ref h_t_study])), (h_t_numbers, .inl (cI, t_numbers_n, .inl t_numbers)), (h_o, .inr (1, [.int o_columnCount, .ref h_o_sets, .ref h_o_starts, .ref h_o_nexts])), (h_o_sets, .inl (cI, o_sets_n, .inl o_sets)), (h_o_starts, .inl (cI, o_starts_n, .inl o_starts)), (h_m, .inr (0, [.ref h_m_low, .ref h_m_middle, .ref h_m_high])), (h_m_low, .inl (cJ, m_low_n, .inr (.inl u_2))), (h_m_middle, .inl (cJ, m_middle_n, .inr (.inl u_3))), (h_m_high, .inl (cJ, m_high_n, .inr (.inl u_4)))] := hD
  refine lv_aload_n hx hb d_St_learn_19 rfl (lv_at hl 0 rfl) ?_
  refine lv_aload_n hx hb d_St_learn_20 rfl (lv_at hl 2 rfl) ?_
  refine lv_aload_n hx hb d_St_learn_21 rfl (lv_at hl 3 rfl) ?_
  obtain ⟨u_6, hc_7, h⟩ := ck_b1_s h
  have hPc := hP.sub (ws' := [(h_s, .inr (2, [.int t_columnCount, .int r_1, .ref h_s_ranks, .ref h_s_signs, .ref h_s_members, .ref h_s_starts, .ref h_s_defects])), (h_s_signs, .inl (cI, s_signs_n, .inl s_signs)), (h_o, .inr (1, [.int o_columnCount, .ref h_o_sets, .ref h_o_starts, .ref h_o_nexts])), (h_o_sets, .inl (cI, o_sets_n, .inl o_sets)), (h_o_starts, .inl (cI, o_starts_n, .inl o_starts)), (h_m, .inr (0, [.ref h_m_low, .ref h_m_middle, .ref h_m_high])), (h_m_low, .inl (cJ, m_low_n, .inr (.inl u_2))), (h_m_middle, .inl (cJ, m_middle_n, .inr (.inl u_3))), (h_m_high, .inl (cJ, m_high_n, .inr (.inl u_4)))]) [0, 2, 8, 9, 10, 11, 12, 13, 14] rfl
  have hDc := hD.sub (ws' := [(h_s, .inr (2, [.int t_columnCount, .int r_1, .ref h_s_ranks, .ref h_s_signs, .ref h_s_members, .ref h_s_starts, .ref h_s_defects])), (h_s_signs, .inl (cI, s_signs_n, .inl s_signs)), (h_o, .inr (1, [.int o_columnCount, .ref h_o_sets, .ref h_o_starts, .ref h_o_nexts])), (h_o_sets, .inl (cI, o_sets_n, .inl o_sets)), (h_o_starts, .inl (cI, o_starts_n, .inl o_starts)), (h_m, .inr (0, [.ref h_m_low, .ref h_m_middle, .ref h_m_high])), (h_m_low, .inl (cJ, m_low_n, .inr (.inl u_2))), (h_m_middle, .inl (cJ, m_middle_n, .inr (.inl u_3))), (h_m_high, .inl (cJ, m_high_n, .inr (.inl u_4)))]) [0, 2, 8, 9, 10, 11, 12, 13, 14] (by decide) rfl
  have hFc := va_free (wc := [(h_s, .inr (2, [.int t_columnCount, .int r_1, .ref h_s_ranks, .ref h_s_signs, .ref h_s_members, .ref h_s_starts, .ref h_s_defects])), (h_s_signs, .inl (cI, s_signs_n, .inl s_signs)), (h_o, .inr (1, [.int o_columnCount, .ref h_o_sets, .ref h_o_starts, .ref h_o_nexts])), (h_o_sets, .inl (cI, o_sets_n, .inl o_sets)), (h_o_starts, .inl (cI, o_starts_n, .inl o_starts)), (h_m, .inr (0, [.ref h_m_low, .ref h_m_middle, .ref h_m_high])), (h_m_low, .inl (cJ, m_low_n, .inr (.inl u_2))), (h_m_middle, .inl (cJ, m_middle_n, .inr (.inl u_3))), (h_m_high, .inl (cJ, m_high_n, .inr (.inl u_4)))]) hD hS hA [0, 2, 8, 9, 10, 11, 12, 13, 14] rfl
  refine va_callv (va_runV (As := [.ref h_o, .ref h_m]) (rest := []) ⟨hx, hb, hml, hown, hts⟩ (c_S_learnSigns l dC dI cI cJ cB cZ cT cN H.size h_s h_o h_m h_s_ranks h_s_signs h_s_members h_s_starts h_s_defects h_o_sets h_o_starts h_o_nexts h_m_low h_m_middle h_m_high t_columnCount r_1 s_signs_n s_signs o_columnCount o_sets_n o_sets o_starts_n o_starts m_low_n u_2 m_middle_n u_3 m_high_n u_4 _ hc_7) (cwV 2 hts (tb_V tw_233 tw_235 tp_5 tw_3 tw_236) rfl rfl rfl (by decide +kernel) ⟨Nat.le_of_ble_eq_true rfl, Nat.le_of_ble_eq_true rfl⟩) ⟨fun a U g mk q => by obtain ⟨q0, q1, qP, qK, qN, qD⟩ := q; exact ⟨q0, q1, qP, va_K.moved (u := U) (U := U.calling g mk a) (Vm.Alike.refl U.vm) qK, qN.same rfl, qD⟩, va_recv hK hPc (ci := 2) (q0 := 0) rfl rfl, fun U hU hW => ⟨rfl, by rw [hU], by rw [hU]; exact hPc, va_K.moved hW.alike hK, hN.warm hW, hDc.weaken (fun _ _ _ _ => trivial)⟩⟩ rfl rfl hl.1 rfl (lv_room (Nat.le_of_ble_eq_true rfl)) d_St_learn_22 ⟨Nat.zero_le _, Nat.zero_le _⟩) hS (fun q _ h => hFc q h) hFc (fun u t H1 locs ht hvm hw hB hz1 hk1 hS => ?_)
  replace hw := hw.symm
  subst hw
  obtain ⟨hP1, -, hD1⟩ := hB
  rw [ht] at hP1
  obtain ⟨hP, hD⟩ := va_join (wr := [(h_s_ranks, .inl (cI, s_ranks_n, .inl s_ranks)), (h_s_members, .inl (cI, s_members_n, .inl s_members)), (h_s_starts, .inl (cI, s_starts_n, .inl s_starts)), (h_s_defects, .inl (cI, s_defects_n, .inl s_defects)), (h_t, .inr (3, [.int t_field, .int t_rowCount, .int t_columnCount, .ref h_t_numbers, .int t_studied, .ref h_t_study])), (h_t_numbers, .inl (cI, t_numbers_n, .inl t_numbers))]) (w1 := [(h_s, .inr (2, [.int t_columnCount, .int r_1, .ref h_s_ranks, .ref h_s_signs, .ref h_s_members, .ref h_s_starts, .ref h_s_defects])), (h_s_signs, .inl (cI, s_signs_n, .inl u_6)), (h_o, .inr (1, [.int o_columnCount, .ref h_o_sets, .ref h_o_starts, .ref h_o_nexts])), (h_o_sets, .inl (cI, o_sets_n, .inl o_sets)), (h_o_starts, .inl (cI, o_starts_n, .inl o_starts)), (h_m, .inr (0, [.ref h_m_low, .ref h_m_middle, .ref h_m_high])), (h_m_low, .inl (cJ, m_low_n, .inr (.inl u_2))), (h_m_middle, .inl (cJ, m_middle_n, .inr (.inl u_3))), (h_m_high, .inl (cJ, m_high_n, .inr (.inl u_4)))]) hP hD [0, 2, 8, 9, 10, 11, 12, 13, 14] [1, 3, 4, 5, 6, 7] rfl rfl (by decide) (by decide) hk1 hFc hP1 hD1
  generalize H1 = H at hP hS ⊢
  have hP : va_P (dC, dI) cl_all [(h_s, .inr (2, [.int t_columnCount, .int r_1, .ref h_s_ranks, .ref h_s_signs, .ref h_s_members, .ref h_s_starts, .ref h_s_defects])), (h_s_ranks, .inl (cI, s_ranks_n, .inl s_ranks)), (h_s_signs, .inl (cI, s_signs_n, .inl u_6)), (h_s_members, .inl (cI, s_members_n, .inl s_members)), (h_s_starts, .inl (cI, s_starts_n, .inl s_starts)), (h_s_defects, .inl (cI, s_defects_n, .inl s_defects)), (h_t, .inr (3, [.int t_field, .int t_rowCount, .int t_columnCount, .ref h_t_numbers, .int t_studied, .ref h_t_study])), (h_t_numbers, .inl (cI, t_numbers_n, .inl t_numbers)), (h_o, .inr (1, [.int o_columnCount, .ref h_o_sets, .ref h_o_starts, .ref h_o_nexts])), (h_o_sets, .inl (cI, o_sets_n, .inl o_sets)), (h_o_starts, .inl (cI, o_starts_n, .inl o_starts)), (h_m, .inr (0, [.ref h_m_low, .ref h_m_middle, .ref h_m_high])), (h_m_low, .inl (cJ, m_low_n, .inr (.inl u_2))), (h_m_middle, .inl (cJ, m_middle_n, .inr (.inl u_3))), (h_m_high, .inl (cJ, m_high_n, .inr (.inl u_4)))] H := hP.sub [6, 0, 7, 1, 2, 3, 4, 5, 8, 9, 10, 11, 12, 13, 14] rfl
  have hD : va_D A [(h_s, .inr (2, [.int t_columnCount, .int r_1, .ref h_s_ranks, .ref h_s_signs, .ref h_s_members, .ref h_s_starts, .ref h_s_defects])), (h_s_ranks, .inl (cI, s_ranks_n, .inl s_ranks)), (h_s_signs, .inl (cI, s_signs_n, .inl u_6)), (h_s_members, .inl (cI, s_members_n, .inl s_members)), (h_s_starts, .inl (cI, s_starts_n, .inl s_starts)), (h_s_defects, .inl (cI, s_defects_n, .inl s_defects)), (h_t, .inr (3, [.int t_field, .int t_rowCount, .int t_columnCount, .ref h_t_numbers, .int t_studied, .ref h_t_study])), (h_t_numbers, .inl (cI, t_numbers_n, .inl t_numbers)), (h_o, .inr (1, [.int o_columnCount, .ref h_o_sets, .ref h_o_starts, .ref h_o_nexts])), (h_o_sets, .inl (cI, o_sets_n, .inl o_sets)), (h_o_starts, .inl (cI, o_starts_n, .inl o_starts)), (h_m, .inr (0, [.ref h_m_low, .ref h_m_middle, .ref h_m_high])), (h_m_low, .inl (cJ, m_low_n, .inr (.inl u_2))), (h_m_middle, .inl (cJ, m_middle_n, .inr (.inl u_3))), (h_m_high, .inl (cJ, m_high_n, .inr (.inl u_4)))] := hD.sub [6, 0, 7, 1, 2, 3, 4, 5, 8, 9, 10, 11, 12, 13, 14] (by decide) rfl
  refine lv_aload_n hx hb d_St_learn_25 rfl (lv_at hl 0 rfl) ?_
  obtain ⟨u_8, hc_9, h⟩ := ck_b1_s h
  have hPc := hP.sub (ws' := [(h_s, .inr (2, [.int t_columnCount, .int r_1, .ref h_s_ranks, .ref h_s_signs, .ref h_s_members, .ref h_s_starts, .ref h_s_defects])), (h_s_ranks, .inl (cI, s_ranks_n, .inl s_ranks)), (h_s_signs, .inl (cI, s_signs_n, .inl u_6))]) [0, 1, 2] rfl
  have hDc := hD.sub (ws' := [(h_s, .inr (2, [.int t_columnCount, .int r_1, .ref h_s_ranks, .ref h_s_signs, .ref h_s_members, .ref h_s_starts, .ref h_s_defects])), (h_s_ranks, .inl (cI, s_ranks_n, .inl s_ranks)), (h_s_signs, .inl (cI, s_signs_n, .inl u_6))]) [0, 1, 2] (by decide) rfl
  have hFc := va_free (wc := [(h_s, .inr (2, [.int t_columnCount, .int r_1, .ref h_s_ranks, .ref h_s_signs, .ref h_s_members, .ref h_s_starts, .ref h_s_defects])), (h_s_ranks, .inl (cI, s_ranks_n, .inl s_ranks)), (h_s_signs, .inl (cI, s_signs_n, .inl u_6))]) hD hS hA [0, 1, 2] rfl
  refine va_callv (va_runV (As := []) (rest := []) ⟨hx, hb, hml, hown, hts⟩ (c_S_markIndependent l dC dI cI cJ cB cZ cT cN H.size h_s h_s_ranks h_s_signs h_s_members h_s_starts h_s_defects t_columnCount r_1 s_ranks_n s_ranks s_signs_n u_6 _ hc_9) (cwV 0 hts (tb_V tw_238 tw_240 tp_6 tw_3 tw_241) rfl rfl rfl (by decide +kernel) ⟨Nat.le_of_ble_eq_true rfl, Nat.le_of_ble_eq_true rfl⟩) ⟨fun a U g mk q => by obtain ⟨q0, q1, qP, qK, qN, qD⟩ := q; exact ⟨q0, q1, qP, va_K.moved (u := U) (U := U.calling g mk a) (Vm.Alike.refl U.vm) qK, qN.same rfl, qD⟩, va_recv hK hPc (ci := 2) (q0 := 0) rfl rfl, fun U hU hW => ⟨rfl, by rw [hU], by rw [hU]; exact hPc, va_K.moved hW.alike hK, hN.warm hW, hDc.weaken (fun _ _ _ _ => trivial)⟩⟩ rfl rfl hl.1 rfl (lv_room (Nat.le_of_ble_eq_true rfl)) d_St_learn_26 ⟨Nat.zero_le _, Nat.zero_le _⟩) hS (fun q _ h => hFc q h) hFc (fun u t H1 locs ht hvm hw hB hz1 hk1 hS => ?_)
  replace hw := hw.symm
  subst hw
  obtain ⟨hP1, -, hD1⟩ := hB
  rw [ht] at hP1
  obtain ⟨hP, hD⟩ := va_join (wr := [(h_s_members, .inl (cI, s_members_n, .inl s_members)), (h_s_starts, .inl (cI, s_starts_n, .inl s_starts)), (h_s_defects, .inl (cI, s_defects_n, .inl s_defects)), (h_t, .inr (3, [.int t_field, .int t_rowCount, .int t_columnCount, .ref h_t_numbers, .int t_studied, .ref h_t_study])), (h_t_numbers, .inl (cI, t_numbers_n, .inl t_numbers)), (h_o, .inr (1, [.int o_columnCount, .ref h_o_sets, .ref h_o_starts, .ref h_o_nexts])), (h_o_sets, .inl (cI, o_sets_n, .inl o_sets)), (h_o_starts, .inl (cI, o_starts_n, .inl o_starts)), (h_m, .inr (0, [.ref h_m_low, .ref h_m_middle, .ref h_m_high])), (h_m_low, .inl (cJ, m_low_n, .inr (.inl u_2))), (h_m_middle, .inl (cJ, m_middle_n, .inr (.inl u_3))), (h_m_high, .inl (cJ, m_high_n, .inr (.inl u_4)))]) (w1 := [(h_s, .inr (2, [.int t_columnCount, .int r_1, .ref h_s_ranks, .ref h_s_signs, .ref h_s_members, .ref h_s_starts, .ref h_s_defects])), (h_s_ranks, .inl (cI, s_ranks_n, .inl u_8)), (h_s_signs, .inl (cI, s_signs_n, .inl u_6))]) hP hD [0, 1, 2] [3, 4, 5, 6, 7, 8, 9, 10, 11, 12, 13, 14] rfl rfl (by decide) (by decide) hk1 hFc hP1 hD1
  generalize H1 = H at hP hS ⊢
  have hP : va_P (dC, dI) cl_all [(h_s, .inr (2, [.int t_columnCount, .int r_1, .ref h_s_ranks, .ref h_s_signs, .ref h_s_members, .ref h_s_starts, .ref h_s_defects])), (h_s_ranks, .inl (cI, s_ranks_n, .inl u_8)), (h_s_signs, .inl (cI, s_signs_n, .inl u_6)), (h_s_members, .inl (cI, s_members_n, .inl s_members)), (h_s_starts, .inl (cI, s_starts_n, .inl s_starts)), (h_s_defects, .inl (cI, s_defects_n, .inl s_defects)), (h_t, .inr (3, [.int t_field, .int t_rowCount, .int t_columnCount, .ref h_t_numbers, .int t_studied, .ref h_t_study])), (h_t_numbers, .inl (cI, t_numbers_n, .inl t_numbers)), (h_o, .inr (1, [.int o_columnCount, .ref h_o_sets, .ref h_o_starts, .ref h_o_nexts])), (h_o_sets, .inl (cI, o_sets_n, .inl o_sets)), (h_o_starts, .inl (cI, o_starts_n, .inl o_starts)), (h_m, .inr (0, [.ref h_m_low, .ref h_m_middle, .ref h_m_high])), (h_m_low, .inl (cJ, m_low_n, .inr (.inl u_2))), (h_m_middle, .inl (cJ, m_middle_n, .inr (.inl u_3))), (h_m_high, .inl (cJ, m_high_n, .inr (.inl u_4)))] H := hP.sub [12, 13, 14, 0, 1, 2, 3, 4, 5, 6, 7, 8, 9, 10, 11] rfl
  have hD : va_D A [(h_s, .inr (2, [.int t_columnCount, .int r_1, .ref h_s_ranks, .ref h_s_signs, .ref h_s_members, .ref h_s_starts, .ref h_s_defects])), (h_s_ranks, .inl (cI, s_ranks_n, .inl u_8)), (h_s_signs, .inl (cI, s_signs_n, .inl u_6)), (h_s_members, .inl (cI, s_members_n, .inl s_members)), (h_s_starts, .inl (cI, s_starts_n, .inl s_starts)), (h_s_defects, .inl (cI, s_defects_n, .inl s_defects)), (h_t, .inr (3, [.int t_field, .int t_rowCount, .int t_columnCount, .ref h_t_numbers, .int t_studied, .ref h_t_study])), (h_t_numbers, .inl (cI, t_numbers_n, .inl t_numbers)), (h_o, .inr (1, [.int o_columnCount, .ref h_o_sets, .ref h_o_starts, .ref h_o_nexts])), (h_o_sets, .inl (cI, o_sets_n, .inl o_sets)), (h_o_starts, .inl (cI, o_starts_n, .inl o_starts)), (h_m, .inr (0, [.ref h_m_low, .ref h_m_middle, .ref h_m_high])), (h_m_low, .inl (cJ, m_low_n, .inr (.inl u_2))), (h_m_middle, .inl (cJ, m_middle_n, .inr (.inl u_3))), (h_m_high, .inl (cJ, m_high_n, .inr (.inl u_4)))] := hD.sub [12, 13, 14, 0, 1, 2, 3, 4, 5, 6, 7, 8, 9, 10, 11] (by decide) rfl
  refine lv_aload_n hx hb d_St_learn_29 rfl (lv_at hl 0 rfl) ?_
  obtain ⟨u_10, hc_11, h⟩ := ck_b1_s h
  have hPc := hP.sub (ws' := [(h_s, .inr (2, [.int t_columnCount, .int r_1, .ref h_s_ranks, .ref h_s_signs, .ref h_s_members, .ref h_s_starts, .ref h_s_defects])), (h_s_ranks, .inl (cI, s_ranks_n, .inl u_8))]) [0, 1] rfl
  have hDc := hD.sub (ws' := [(h_s, .inr (2, [.int t_columnCount, .int r_1, .ref h_s_ranks, .ref h_s_signs, .ref h_s_members, .ref h_s_starts, .ref h_s_defects])), (h_s_ranks, .inl (cI, s_ranks_n, .inl u_8))]) [0, 1] (by decide) rfl
  have hFc := va_free (wc := [(h_s, .inr (2, [.int t_columnCount, .int r_1, .ref h_s_ranks, .ref h_s_signs, .ref h_s_members, .ref h_s_starts, .ref h_s_defects])), (h_s_ranks, .inl (cI, s_ranks_n, .inl u_8))]) hD hS hA [0, 1] rfl
  refine va_callv (va_runV (As := []) (rest := []) ⟨hx, hb, hml, hown, hts⟩ (c_S_learnRanks l dC dI cI cJ cB cZ cT cN H.size h_s h_s_ranks h_s_signs h_s_members h_s_starts h_s_defects t_columnCount r_1 s_ranks_n u_8 _ hc_11) (cwV 0 hts (tb_V tw_247 tw_249 tp_8 tw_3 tw_250) rfl rfl rfl (by decide +kernel) ⟨Nat.le_of_ble_eq_true rfl, Nat.le_of_ble_eq_true rfl⟩) ⟨fun a U g mk q => by obtain ⟨q0, q1, qP, qK, qN, qD⟩ := q; exact ⟨q0, q1, qP, va_K.moved (u := U) (U := U.calling g mk a) (Vm.Alike.refl U.vm) qK, qN.same rfl, qD⟩, va_recv hK hPc (ci := 2) (q0 := 0) rfl rfl, fun U hU hW => ⟨rfl, by rw [hU], by rw [hU]; exact hPc, va_K.moved hW.alike hK, hN.warm hW, hDc.weaken (fun _ _ _ _ => trivial)⟩⟩ rfl rfl hl.1 rfl (lv_room (Nat.le_of_ble_eq_true rfl)) d_St_learn_30 ⟨Nat.zero_le _, Nat.zero_le _⟩) hS (fun q _ h => hFc q h) hFc (fun u t H1 locs ht hvm hw hB hz1 hk1 hS => ?_)
  replace hw := hw.symm
  subst hw
  obtain ⟨hP1, -, hD1⟩ := hB
  rw [ht] at hP1
  obtain ⟨hP, hD⟩ := va_join (wr := [(h_s_signs, .inl (cI, s_signs_n, .inl u_6)), (h_s_members, .inl (cI, s_members_n, .inl s_members)), (h_s_starts, .inl (cI, s_starts_n, .inl s_starts)), (h_s_defects, .inl (cI, s_defects_n, .inl s_defects)), (h_t, .inr (3, [.int t_field, .int t_rowCount, .int t_columnCount, .ref h_t_numbers, .int t_studied, .ref h_t_study])), (h_t_numbers, .inl (cI, t_numbers_n, .inl t_numbers)), (h_o, .inr (1, [.int o_columnCount, .ref h_o_sets, .ref h_o_starts, .ref h_o_nexts])), (h_o_sets, .inl (cI, o_sets_n, .inl o_sets)), (h_o_starts, .inl (cI, o_starts_n, .inl o_starts)), (h_m, .inr (0, [.ref h_m_low, .ref h_m_middle, .ref h_m_high])), (h_m_low, .inl (cJ, m_low_n, .inr (.inl u_2))), (h_m_middle, .inl (cJ, m_middle_n, .inr (.inl u_3))), (h_m_high, .inl (cJ, m_high_n, .inr (.inl u_4)))]) (w1 := [(h_s, .inr (2, [.int t_columnCount, .int r_1, .ref h_s_ranks, .ref h_s_signs, .ref h_s_members, .ref h_s_starts, .ref h_s_defects])), (h_s_ranks, .inl (cI, s_ranks_n, .inl u_10))]) hP hD [0, 1] [2, 3, 4, 5, 6, 7, 8, 9, 10, 11, 12, 13, 14] rfl rfl (by decide) (by decide) hk1 hFc hP1 hD1
  generalize H1 = H at hP hS ⊢
  have hP : va_P (dC, dI) cl_all [(h_s, .inr (2, [.int t_columnCount, .int r_1, .ref h_s_ranks, .ref h_s_signs, .ref h_s_members, .ref h_s_starts, .ref h_s_defects])), (h_s_ranks, .inl (cI, s_ranks_n, .inl u_10)), (h_s_signs, .inl (cI, s_signs_n, .inl u_6)), (h_s_members, .inl (cI, s_members_n, .inl s_members)), (h_s_starts, .inl (cI, s_starts_n, .inl s_starts)), (h_s_defects, .inl (cI, s_defects_n, .inl s_defects)), (h_t, .inr (3, [.int t_field, .int t_rowCount, .int t_columnCount, .ref h_t_numbers, .int t_studied, .ref h_t_study])), (h_t_numbers, .inl (cI, t_numbers_n, .inl t_numbers)), (h_o, .inr (1, [.int o_columnCount, .ref h_o_sets, .ref h_o_starts, .ref h_o_nexts])), (h_o_sets, .inl (cI, o_sets_n, .inl o_sets)), (h_o_starts, .inl (cI, o_starts_n, .inl o_starts)), (h_m, .inr (0, [.ref h_m_low, .ref h_m_middle, .ref h_m_high])), (h_m_low, .inl (cJ, m_low_n, .inr (.inl u_2))), (h_m_middle, .inl (cJ, m_middle_n, .inr (.inl u_3))), (h_m_high, .inl (cJ, m_high_n, .inr (.inl u_4)))] H := hP.sub [13, 14, 0, 1, 2, 3, 4, 5, 6, 7, 8, 9, 10, 11, 12] rfl
  have hD : va_D A [(h_s, .inr (2, [.int t_columnCount, .int r_1, .ref h_s_ranks, .ref h_s_signs, .ref h_s_members, .ref h_s_starts, .ref h_s_defects])), (h_s_ranks, .inl (cI, s_ranks_n, .inl u_10)), (h_s_signs, .inl (cI, s_signs_n, .inl u_6)), (h_s_members, .inl (cI, s_members_n, .inl s_members)), (h_s_starts, .inl (cI, s_starts_n, .inl s_starts)), (h_s_defects, .inl (cI, s_defects_n, .inl s_defects)), (h_t, .inr (3, [.int t_field, .int t_rowCount, .int t_columnCount, .ref h_t_numbers, .int t_studied, .ref h_t_study])), (h_t_numbers, .inl (cI, t_numbers_n, .inl t_numbers)), (h_o, .inr (1, [.int o_columnCount, .ref h_o_sets, .ref h_o_starts, .ref h_o_nexts])), (h_o_sets, .inl (cI, o_sets_n, .inl o_sets)), (h_o_starts, .inl (cI, o_starts_n, .inl o_starts)), (h_m, .inr (0, [.ref h_m_low, .ref h_m_middle, .ref h_m_high])), (h_m_low, .inl (cJ, m_low_n, .inr (.inl u_2))), (h_m_middle, .inl (cJ, m_middle_n, .inr (.inl u_3))), (h_m_high, .inl (cJ, m_high_n, .inr (.inl u_4)))] := hD.sub [13, 14, 0, 1, 2, 3, 4, 5, 6, 7, 8, 9, 10, 11, 12] (by decide) rfl
  refine lv_aload_n hx hb d_St_learn_33 rfl (lv_at hl 0 rfl) ?_
  obtain ⟨u_12, hc_13, h⟩ := ck_b1_s h
  have hPc := hP.sub (ws' := [(h_s, .inr (2, [.int t_columnCount, .int r_1, .ref h_s_ranks, .ref h_s_signs, .ref h_s_members, .ref h_s_starts, .ref h_s_defects])), (h_s_ranks, .inl (cI, s_ranks_n, .inl u_10)), (h_s_defects, .inl (cI, s_defects_n, .inl s_defects))]) [0, 1, 5] rfl
  have hDc := hD.sub (ws' := [(h_s, .inr (2, [.int t_columnCount, .int r_1, .ref h_s_ranks, .ref h_s_signs, .ref h_s_members, .ref h_s_starts, .ref h_s_defects])), (h_s_ranks, .inl (cI, s_ranks_n, .inl u_10)), (h_s_defects, .inl (cI, s_defects_n, .inl s_defects))]) [0, 1, 5] (by decide) rfl
  have hFc := va_free (wc := [(h_s, .inr (2, [.int t_columnCount, .int r_1, .ref h_s_ranks, .ref h_s_signs, .ref h_s_members, .ref h_s_starts, .ref h_s_defects])), (h_s_ranks, .inl (cI, s_ranks_n, .inl u_10)), (h_s_defects, .inl (cI, s_defects_n, .inl s_defects))]) hD hS hA [0, 1, 5] rfl
  refine va_callv (va_runV (As := []) (rest := []) ⟨hx, hb, hml, hown, hts⟩ (c_S_learnDefects l dC dI cI cJ cB cZ cT cN H.size h_s h_s_ranks h_s_signs h_s_members h_s_starts h_s_defects t_columnCount r_1 s_ranks_n u_10 s_defects_n s_defects _ hc_13) (cwV 0 hts (tb_V tw_255 tw_257 tp_10 tw_3 tw_258) rfl rfl rfl (by decide +kernel) ⟨Nat.le_of_ble_eq_true rfl, Nat.le_of_ble_eq_true rfl⟩) ⟨fun a U g mk q => by obtain ⟨q0, q1, qP, qK, qN, qD⟩ := q; exact ⟨q0, q1, qP, va_K.moved (u := U) (U := U.calling g mk a) (Vm.Alike.refl U.vm) qK, qN.same rfl, qD⟩, va_recv hK hPc (ci := 2) (q0 := 0) rfl rfl, fun U hU hW => ⟨rfl, by rw [hU], by rw [hU]; exact hPc, va_K.moved hW.alike hK, hN.warm hW, hDc.weaken (fun _ _ _ _ => trivial)⟩⟩ rfl rfl hl.1 rfl (lv_room (Nat.le_of_ble_eq_true rfl)) d_St_learn_34 ⟨Nat.zero_le _, Nat.zero_le _⟩) hS (fun q _ h => hFc q h) hFc (fun u t H1 locs ht hvm hw hB hz1 hk1 hS => ?_)
  replace hw := hw.symm
  subst hw
  obtain ⟨hP1, -, hD1⟩ := hB
  rw [ht] at hP1
  obtain ⟨hP, hD⟩ := va_join (wr := [(h_s_signs, .inl (cI, s_signs_n, .inl u_6)), (h_s_members, .inl (cI, s_members_n, .inl s_members)), (h_s_starts, .inl (cI, s_starts_n, .inl s_starts)), (h_t, .inr (3, [.int t_field, .int t_rowCount, .int t_columnCount, .ref h_t_numbers, .int t_studied, .ref h_t_study])), (h_t_numbers, .inl (cI, t_numbers_n, .inl t_numbers)), (h_o, .inr (1, [.int o_columnCount, .ref h_o_sets, .ref h_o_starts, .ref h_o_nexts])), (h_o_sets, .inl (cI, o_sets_n, .inl o_sets)), (h_o_starts, .inl (cI, o_starts_n, .inl o_starts)), (h_m, .inr (0, [.ref h_m_low, .ref h_m_middle, .ref h_m_high])), (h_m_low, .inl (cJ, m_low_n, .inr (.inl u_2))), (h_m_middle, .inl (cJ, m_middle_n, .inr (.inl u_3))), (h_m_high, .inl (cJ, m_high_n, .inr (.inl u_4)))]) (w1 := [(h_s, .inr (2, [.int t_columnCount, .int r_1, .ref h_s_ranks, .ref h_s_signs, .ref h_s_members, .ref h_s_starts, .ref h_s_defects])), (h_s_ranks, .inl (cI, s_ranks_n, .inl u_10)), (h_s_defects, .inl (cI, s_defects_n, .inl u_12))]) hP hD [0, 1, 5] [2, 3, 4, 6, 7, 8, 9, 10, 11, 12, 13, 14] rfl rfl (by decide) (by decide) hk1 hFc hP1 hD1
  generalize H1 = H at hP hS ⊢
  have hP : va_P (dC, dI) cl_all [(h_s, .inr (2, [.int t_columnCount, .int r_1, .ref h_s_ranks, .ref h_s_signs, .ref h_s_members, .ref h_s_starts, .ref h_s_defects])), (h_s_ranks, .inl (cI, s_ranks_n, .inl u_10)), (h_s_signs, .inl (cI, s_signs_n, .inl u_6)), (h_s_members, .inl (cI, s_members_n, .inl s_members)), (h_s_starts, .inl (cI, s_starts_n, .inl s_starts)), (h_s_defects, .inl (cI, s_defects_n, .inl u_12)), (h_t, .inr (3, [.int t_field, .int t_rowCount, .int t_columnCount, .ref h_t_numbers, .int t_studied, .ref h_t_study])), (h_t_numbers, .inl (cI, t_numbers_n, .inl t_numbers)), (h_o, .inr (1, [.int o_columnCount, .ref h_o_sets, .ref h_o_starts, .ref h_o_nexts])), (h_o_sets, .inl (cI, o_sets_n, .inl o_sets)), (h_o_starts, .inl (cI, o_starts_n, .inl o_starts)), (h_m, .inr (0, [.ref h_m_low, .ref h_m_middle, .ref h_m_high])), (h_m_low, .inl (cJ, m_low_n, .inr (.inl u_2))), (h_m_middle, .inl (cJ, m_middle_n, .inr (.inl u_3))), (h_m_high, .inl (cJ, m_high_n, .inr (.inl u_4)))] H := hP.sub [12, 13, 0, 1, 2, 14, 3, 4, 5, 6, 7, 8, 9, 10, 11] rfl
  have hD : va_D A [(h_s, .inr (2, [.int t_columnCount, .int r_1, .ref h_s_ranks, .ref h_s_signs, .ref h_s_members, .ref h_s_starts, .ref h_s_defects])), (h_s_ranks, .inl (cI, s_ranks_n, .inl u_10)), (h_s_signs, .inl (cI, s_signs_n, .inl u_6)), (h_s_members, .inl (cI, s_members_n, .inl s_members)), (h_s_starts, .inl (cI, s_starts_n, .inl s_starts)), (h_s_defects, .inl (cI, s_defects_n, .inl u_12)), (h_t, .inr (3, [.int t_field, .int t_rowCount, .int t_columnCount, .ref h_t_numbers, .int t_studied, .ref h_t_study])), (h_t_numbers, .inl (cI, t_numbers_n, .inl t_numbers)), (h_o, .inr (1, [.int o_columnCount, .ref h_o_sets, .ref h_o_starts, .ref h_o_nexts])), (h_o_sets, .inl (cI, o_sets_n, .inl o_sets)), (h_o_starts, .inl (cI, o_starts_n, .inl o_starts)), (h_m, .inr (0, [.ref h_m_low, .ref h_m_middle, .ref h_m_high])), (h_m_low, .inl (cJ, m_low_n, .inr (.inl u_2))), (h_m_middle, .inl (cJ, m_middle_n, .inr (.inl u_3))), (h_m_high, .inl (cJ, m_high_n, .inr (.inl u_4)))] := hD.sub [12, 13, 0, 1, 2, 14, 3, 4, 5, 6, 7, 8, 9, 10, 11] (by decide) rfl
  refine lv_aload_n hx hb d_St_learn_37 rfl (lv_at hl 0 rfl) ?_
  refine lv_aload_n hx hb d_St_learn_38 rfl (lv_at hl 2 rfl) ?_
  obtain ⟨u_14, u_15, hc_16, h⟩ := ck_b2_s h
  have hPc := hP.sub (ws' := [(h_s, .inr (2, [.int t_columnCount, .int r_1, .ref h_s_ranks, .ref h_s_signs, .ref h_s_members, .ref h_s_starts, .ref h_s_defects])), (h_s_ranks, .inl (cI, s_ranks_n, .inl u_10)), (h_s_members, .inl (cI, s_members_n, .inl s_members)), (h_s_starts, .inl (cI, s_starts_n, .inl s_starts)), (h_o, .inr (1, [.int o_columnCount, .ref h_o_sets, .ref h_o_starts, .ref h_o_nexts])), (h_o_sets, .inl (cI, o_sets_n, .inl o_sets))]) [0, 1, 3, 4, 8, 9] rfl
  have hDc := hD.sub (ws' := [(h_s, .inr (2, [.int t_columnCount, .int r_1, .ref h_s_ranks, .ref h_s_signs, .ref h_s_members, .ref h_s_starts, .ref h_s_defects])), (h_s_ranks, .inl (cI, s_ranks_n, .inl u_10)), (h_s_members, .inl (cI, s_members_n, .inl s_members)), (h_s_starts, .inl (cI, s_starts_n, .inl s_starts)), (h_o, .inr (1, [.int o_columnCount, .ref h_o_sets, .ref h_o_starts, .ref h_o_nexts])), (h_o_sets, .inl (cI, o_sets_n, .inl o_sets))]) [0, 1, 3, 4, 8, 9] (by decide) rfl
  have hFc := va_free (wc := [(h_s, .inr (2, [.int t_columnCount, .int r_1, .ref h_s_ranks, .ref h_s_signs, .ref h_s_members, .ref h_s_starts, .ref h_s_defects])), (h_s_ranks, .inl (cI, s_ranks_n, .inl u_10)), (h_s_members, .inl (cI, s_members_n, .inl s_members)), (h_s_starts, .inl (cI, s_starts_n, .inl s_starts)), (h_o, .inr (1, [.int o_columnCount, .ref h_o_sets, .ref h_o_starts, .ref h_o_nexts])), (h_o_sets, .inl (cI, o_sets_n, .inl o_sets))]) hD hS hA [0, 1, 3, 4, 8, 9] rfl
  refine va_callv (va_runV (As := [.ref h_o]) (rest := []) ⟨hx, hb, hml, hown, hts⟩ (c_S_learnMembers l dC dI cI cJ cB cZ cT cN H.size h_s h_o h_s_ranks h_s_signs h_s_members h_s_starts h_s_defects h_o_sets h_o_starts h_o_nexts t_columnCount r_1 s_ranks_n u_10 s_members_n s_members s_starts_n s_starts o_columnCount o_sets_n o_sets _ hc_16) (cwV 1 hts (tb_V tw_260 tw_262 tp_11 tw_3 tw_263) rfl rfl rfl (by decide +kernel) ⟨Nat.le_of_ble_eq_true rfl, Nat.le_of_ble_eq_true rfl⟩) ⟨fun a U g mk q => by obtain ⟨q0, q1, qP, qK, qN, qD⟩ := q; exact ⟨q0, q1, qP, va_K.moved (u := U) (U := U.calling g mk a) (Vm.Alike.refl U.vm) qK, qN.same rfl, qD⟩, va_recv hK hPc (ci := 2) (q0 := 0) rfl rfl, fun U hU hW => ⟨rfl, by rw [hU], by rw [hU]; exact hPc, va_K.moved hW.alike hK, hN.warm hW, hDc.weaken (fun _ _ _ _ => trivial)⟩⟩ rfl rfl hl.1 rfl (lv_room (Nat.le_of_ble_eq_true rfl)) d_St_learn_39 ⟨Nat.zero_le _, Nat.zero_le _⟩) hS (fun q _ h => hFc q h) hFc (fun u t H1 locs ht hvm hw hB hz1 hk1 hS => ?_)
  replace hw := hw.symm
  subst hw
  obtain ⟨hP1, -, hD1⟩ := hB
  rw [ht] at hP1
  obtain ⟨hP, hD⟩ := va_join (wr := [(h_s_signs, .inl (cI, s_signs_n, .inl u_6)), (h_s_defects, .inl (cI, s_defects_n, .inl u_12)), (h_t, .inr (3, [.int t_field, .int t_rowCount, .int t_columnCount, .ref h_t_numbers, .int t_studied, .ref h_t_study])), (h_t_numbers, .inl (cI, t_numbers_n, .inl t_numbers)), (h_o_starts, .inl (cI, o_starts_n, .inl o_starts)), (h_m, .inr (0, [.ref h_m_low, .ref h_m_middle, .ref h_m_high])), (h_m_low, .inl (cJ, m_low_n, .inr (.inl u_2))), (h_m_middle, .inl (cJ, m_middle_n, .inr (.inl u_3))), (h_m_high, .inl (cJ, m_high_n, .inr (.inl u_4)))]) (w1 := [(h_s, .inr (2, [.int t_columnCount, .int r_1, .ref h_s_ranks, .ref h_s_signs, .ref h_s_members, .ref h_s_starts, .ref h_s_defects])), (h_s_ranks, .inl (cI, s_ranks_n, .inl u_10)), (h_s_members, .inl (cI, s_members_n, .inl u_14)), (h_s_starts, .inl (cI, s_starts_n, .inl u_15)), (h_o, .inr (1, [.int o_columnCount, .ref h_o_sets, .ref h_o_starts, .ref h_o_nexts])), (h_o_sets, .inl (cI, o_sets_n, .inl o_sets))]) hP hD [0, 1, 3, 4, 8, 9] [2, 5, 6, 7, 10, 11, 12, 13, 14] rfl rfl (by decide) (by decide) hk1 hFc hP1 hD1
  generalize H1 = H at hP hS ⊢
  have hP : va_P (dC, dI) cl_all [(h_s, .inr (2, [.int t_columnCount, .int r_1, .ref h_s_ranks, .ref h_s_signs, .ref h_s_members, .ref h_s_starts, .ref h_s_defects])), (h_s_ranks, .inl (cI, s_ranks_n, .inl u_10)), (h_s_signs, .inl (cI, s_signs_n, .inl u_6)), (h_s_members, .inl (cI, s_members_n, .inl u_14)), (h_s_starts, .inl (cI, s_starts_n, .inl u_15)), (h_s_defects, .inl (cI, s_defects_n, .inl u_12)), (h_t, .inr (3, [.int t_field, .int t_rowCount, .int t_columnCount, .ref h_t_numbers, .int t_studied, .ref h_t_study])), (h_t_numbers, .inl (cI, t_numbers_n, .inl t_numbers)), (h_o, .inr (1, [.int o_columnCount, .ref h_o_sets, .ref h_o_starts, .ref h_o_nexts])), (h_o_sets, .inl (cI, o_sets_n, .inl o_sets)), (h_o_starts, .inl (cI, o_starts_n, .inl o_starts)), (h_m, .inr (0, [.ref h_m_low, .ref h_m_middle, .ref h_m_high])), (h_m_low, .inl (cJ, m_low_n, .inr (.inl u_2))), (h_m_middle, .inl (cJ, m_middle_n, .inr (.inl u_3))), (h_m_high, .inl (cJ, m_high_n, .inr (.inl u_4)))] H := hP.sub [9, 10, 0, 11, 12, 1, 2, 3, 13, 14, 4, 5, 6, 7, 8] rfl
  have hD : va_D A [(h_s, .inr (2, [.int t_columnCount, .int r_1, .ref h_s_ranks, .ref h_s_signs, .ref h_s_members, .ref h_s_starts, .ref h_s_defects])), (h_s_ranks, .inl (cI, s_ranks_n, .inl u_10)), (h_s_signs, .inl (cI, s_signs_n, .inl u_6)), (h_s_members, .inl (cI, s_members_n, .inl u_14)), (h_s_starts, .inl (cI, s_starts_n, .inl u_15)), (h_s_defects, .inl (cI, s_defects_n, .inl u_12)), (h_t, .inr (3, [.int t_field, .int t_rowCount, .int t_columnCount, .ref h_t_numbers, .int t_studied, .ref h_t_study])), (h_t_numbers, .inl (cI, t_numbers_n, .inl t_numbers)), (h_o, .inr (1, [.int o_columnCount, .ref h_o_sets, .ref h_o_starts, .ref h_o_nexts])), (h_o_sets, .inl (cI, o_sets_n, .inl o_sets)), (h_o_starts, .inl (cI, o_starts_n, .inl o_starts)), (h_m, .inr (0, [.ref h_m_low, .ref h_m_middle, .ref h_m_high])), (h_m_low, .inl (cJ, m_low_n, .inr (.inl u_2))), (h_m_middle, .inl (cJ, m_middle_n, .inr (.inl u_3))), (h_m_high, .inl (cJ, m_high_n, .inr (.inl u_4)))] := hD.sub [9, 10, 0, 11, 12, 1, 2, 3, 13, 14, 4, 5, 6, 7, 8] (by decide) rfl
  obtain rfl := Option.some.inj h
  subst hQ
  exact W.vret hx hb hr (fun t ht hW => ⟨⟨(t_columnCount, r_1, u_10, u_6, u_14, u_15, u_12, u_2, u_3, u_4), rfl, rfl, by rw [ht]; exact hP, va_K.moved hW.alike hK, hD⟩, hS.F ht⟩) hS.2.2 d_St_learn_42
