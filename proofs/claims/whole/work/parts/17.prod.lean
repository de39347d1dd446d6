theorem d_Nu_product_0 : decode prog_8_method_11_code 0 = .ok (.aload_n 0, 1) := by decide +kernel
theorem d_Nu_product_1 : decode prog_8_method_11_code 1 = .ok (.aload_n 1, 1) := by decide +kernel
theorem d_Nu_product_2 : decode prog_8_method_11_code 2 = .ok (.getfield 13, 3) := by decide +kernel
theorem d_Nu_product_5 : decode prog_8_method_11_code 5 = .ok (.aload_n 2, 1) := by decide +kernel
theorem d_Nu_product_6 : decode prog_8_method_11_code 6 = .ok (.getfield 13, 3) := by decide +kernel
theorem d_Nu_product_9 : decode prog_8_method_11_code 9 = .ok (.iadd, 1) := by decide +kernel
theorem d_Nu_product_10 : decode prog_8_method_11_code 10 = .ok (.putfield 13, 3) := by decide +kernel
theorem d_Nu_product_13 : decode prog_8_method_11_code 13 = .ok (.iconst 0, 1) := by decide +kernel
theorem d_Nu_product_14 : decode prog_8_method_11_code 14 = .ok (.istore_n 3, 1) := by decide +kernel
theorem d_Nu_product_15 : decode prog_8_method_11_code 15 = .ok (.iload_n 3, 1) := by decide +kernel
theorem d_Nu_product_16 : decode prog_8_method_11_code 16 = .ok (.aload_n 0, 1) := by decide +kernel
theorem d_Nu_product_17 : decode prog_8_method_11_code 17 = .ok (.getfield 13, 3) := by decide +kernel
theorem d_Nu_product_20 : decode prog_8_method_11_code 20 = .ok (.if_icmp .ge 16, 3) := by decide +kernel
theorem d_Nu_product_23 : decode prog_8_method_11_code 23 = .ok (.aload_n 0, 1) := by decide +kernel
theorem d_Nu_product_24 : decode prog_8_method_11_code 24 = .ok (.getfield 7, 3) := by decide +kernel
theorem d_Nu_product_27 : decode prog_8_method_11_code 27 = .ok (.iload_n 3, 1) := by decide +kernel
theorem d_Nu_product_28 : decode prog_8_method_11_code 28 = .ok (.iconst 0, 1) := by decide +kernel
theorem d_Nu_product_29 : decode prog_8_method_11_code 29 = .ok (.iastore, 1) := by decide +kernel
theorem d_Nu_product_30 : decode prog_8_method_11_code 30 = .ok (.iinc 3 1, 3) := by decide +kernel
theorem d_Nu_product_33 : decode prog_8_method_11_code 33 = .ok (.goto (-18), 3) := by decide +kernel
theorem d_Nu_product_36 : decode prog_8_method_11_code 36 = .ok (.iconst 0, 1) := by decide +kernel
theorem d_Nu_product_37 : decode prog_8_method_11_code 37 = .ok (.istore_n 3, 1) := by decide +kernel
theorem d_Nu_product_38 : decode prog_8_method_11_code 38 = .ok (.iload_n 3, 1) := by decide +kernel
theorem d_Nu_product_39 : decode prog_8_method_11_code 39 = .ok (.aload_n 1, 1) := by decide +kernel
theorem d_Nu_product_40 : decode prog_8_method_11_code 40 = .ok (.getfield 13, 3) := by decide +kernel
theorem d_Nu_product_43 : decode prog_8_method_11_code 43 = .ok (.if_icmp .ge 100, 3) := by decide +kernel
theorem d_Nu_product_46 : decode prog_8_method_11_code 46 = .ok (.lconst 0, 1) := by decide +kernel
theorem d_Nu_product_47 : decode prog_8_method_11_code 47 = .ok (.lstore 4, 2) := by decide +kernel
theorem d_Nu_product_49 : decode prog_8_method_11_code 49 = .ok (.iconst 0, 1) := by decide +kernel
theorem d_Nu_product_50 : decode prog_8_method_11_code 50 = .ok (.istore 6, 2) := by decide +kernel
theorem d_Nu_product_52 : decode prog_8_method_11_code 52 = .ok (.iload 6, 2) := by decide +kernel
theorem d_Nu_product_54 : decode prog_8_method_11_code 54 = .ok (.aload_n 2, 1) := by decide +kernel
theorem d_Nu_product_55 : decode prog_8_method_11_code 55 = .ok (.getfield 13, 3) := by decide +kernel
theorem d_Nu_product_58 : decode prog_8_method_11_code 58 = .ok (.if_icmp .ge 65, 3) := by decide +kernel
theorem d_Nu_product_61 : decode prog_8_method_11_code 61 = .ok (.lload 4, 2) := by decide +kernel
theorem d_Nu_product_63 : decode prog_8_method_11_code 63 = .ok (.aload_n 1, 1) := by decide +kernel
theorem d_Nu_product_64 : decode prog_8_method_11_code 64 = .ok (.getfield 7, 3) := by decide +kernel
theorem d_Nu_product_67 : decode prog_8_method_11_code 67 = .ok (.iload_n 3, 1) := by decide +kernel
theorem d_Nu_product_68 : decode prog_8_method_11_code 68 = .ok (.iaload, 1) := by decide +kernel
theorem d_Nu_product_69 : decode prog_8_method_11_code 69 = .ok (.i2l, 1) := by decide +kernel
theorem d_Nu_product_70 : decode prog_8_method_11_code 70 = .ok (.aload_n 2, 1) := by decide +kernel
theorem d_Nu_product_71 : decode prog_8_method_11_code 71 = .ok (.getfield 7, 3) := by decide +kernel
theorem d_Nu_product_74 : decode prog_8_method_11_code 74 = .ok (.iload 6, 2) := by decide +kernel
theorem d_Nu_product_76 : decode prog_8_method_11_code 76 = .ok (.iaload, 1) := by decide +kernel
theorem d_Nu_product_77 : decode prog_8_method_11_code 77 = .ok (.i2l, 1) := by decide +kernel
theorem d_Nu_product_78 : decode prog_8_method_11_code 78 = .ok (.lmul, 1) := by decide +kernel
theorem d_Nu_product_79 : decode prog_8_method_11_code 79 = .ok (.aload_n 0, 1) := by decide +kernel
theorem d_Nu_product_80 : decode prog_8_method_11_code 80 = .ok (.getfield 7, 3) := by decide +kernel
theorem d_Nu_product_83 : decode prog_8_method_11_code 83 = .ok (.iload_n 3, 1) := by decide +kernel
theorem d_Nu_product_84 : decode prog_8_method_11_code 84 = .ok (.iload 6, 2) := by decide +kernel
theorem d_Nu_product_86 : decode prog_8_method_11_code 86 = .ok (.iadd, 1) := by decide +kernel
theorem d_Nu_product_87 : decode prog_8_method_11_code 87 = .ok (.iaload, 1) := by decide +kernel
theorem d_Nu_product_88 : decode prog_8_method_11_code 88 = .ok (.i2l, 1) := by decide +kernel
theorem d_Nu_product_89 : decode prog_8_method_11_code 89 = .ok (.ladd, 1) := by decide +kernel
theorem d_Nu_product_90 : decode prog_8_method_11_code 90 = .ok (.ladd, 1) := by decide +kernel
theorem d_Nu_product_91 : decode prog_8_method_11_code 91 = .ok (.lstore 4, 2) := by decide +kernel
theorem d_Nu_product_93 : decode prog_8_method_11_code 93 = .ok (.aload_n 0, 1) := by decide +kernel
theorem d_Nu_product_94 : decode prog_8_method_11_code 94 = .ok (.getfield 7, 3) := by decide +kernel
theorem d_Nu_product_97 : decode prog_8_method_11_code 97 = .ok (.iload_n 3, 1) := by decide +kernel
theorem d_Nu_product_98 : decode prog_8_method_11_code 98 = .ok (.iload 6, 2) := by decide +kernel
theorem d_Nu_product_100 : decode prog_8_method_11_code 100 = .ok (.iadd, 1) := by decide +kernel
theorem d_Nu_product_101 : decode prog_8_method_11_code 101 = .ok (.lload 4, 2) := by decide +kernel
theorem d_Nu_product_103 : decode prog_8_method_11_code 103 = .ok (.ldc2_w 24, 3) := by decide +kernel
theorem d_Nu_product_106 : decode prog_8_method_11_code 106 = .ok (.lrem, 1) := by decide +kernel
theorem d_Nu_product_107 : decode prog_8_method_11_code 107 = .ok (.l2i, 1) := by decide +kernel
theorem d_Nu_product_108 : decode prog_8_method_11_code 108 = .ok (.iastore, 1) := by decide +kernel
theorem d_Nu_product_109 : decode prog_8_method_11_code 109 = .ok (.lload 4, 2) := by decide +kernel
theorem d_Nu_product_111 : decode prog_8_method_11_code 111 = .ok (.ldc2_w 24, 3) := by decide +kernel
theorem d_Nu_product_114 : decode prog_8_method_11_code 114 = .ok (.ldiv, 1) := by decide +kernel
theorem d_Nu_product_115 : decode prog_8_method_11_code 115 = .ok (.lstore 4, 2) := by decide +kernel
theorem d_Nu_product_117 : decode prog_8_method_11_code 117 = .ok (.iinc 6 1, 3) := by decide +kernel
theorem d_Nu_product_120 : decode prog_8_method_11_code 120 = .ok (.goto (-68), 3) := by decide +kernel
theorem d_Nu_product_123 : decode prog_8_method_11_code 123 = .ok (.aload_n 0, 1) := by decide +kernel
theorem d_Nu_product_124 : decode prog_8_method_11_code 124 = .ok (.getfield 7, 3) := by decide +kernel
theorem d_Nu_product_127 : decode prog_8_method_11_code 127 = .ok (.iload_n 3, 1) := by decide +kernel
theorem d_Nu_product_128 : decode prog_8_method_11_code 128 = .ok (.aload_n 2, 1) := by decide +kernel
theorem d_Nu_product_129 : decode prog_8_method_11_code 129 = .ok (.getfield 13, 3) := by decide +kernel
theorem d_Nu_product_132 : decode prog_8_method_11_code 132 = .ok (.iadd, 1) := by decide +kernel
theorem d_Nu_product_133 : decode prog_8_method_11_code 133 = .ok (.lload 4, 2) := by decide +kernel
theorem d_Nu_product_135 : decode prog_8_method_11_code 135 = .ok (.l2i, 1) := by decide +kernel
theorem d_Nu_product_136 : decode prog_8_method_11_code 136 = .ok (.iastore, 1) := by decide +kernel
theorem d_Nu_product_137 : decode prog_8_method_11_code 137 = .ok (.iinc 3 1, 3) := by decide +kernel
theorem d_Nu_product_140 : decode prog_8_method_11_code 140 = .ok (.goto (-102), 3) := by decide +kernel
theorem d_Nu_product_143 : decode prog_8_method_11_code 143 = .ok (.aload_n 0, 1) := by decide +kernel
theorem d_Nu_product_144 : decode prog_8_method_11_code 144 = .ok (.aload_n 1, 1) := by decide +kernel
theorem d_Nu_product_145 : decode prog_8_method_11_code 145 = .ok (.getfield 17, 3) := by decide +kernel
theorem d_Nu_product_148 : decode prog_8_method_11_code 148 = .ok (.aload_n 2, 1) := by decide +kernel
theorem d_Nu_product_149 : decode prog_8_method_11_code 149 = .ok (.getfield 17, 3) := by decide +kernel
theorem d_Nu_product_152 : decode prog_8_method_11_code 152 = .ok (.if_icmp .eq 7, 3) := by decide +kernel
theorem d_Nu_product_155 : decode prog_8_method_11_code 155 = .ok (.iconst 1, 1) := by decide +kernel
theorem d_Nu_product_156 : decode prog_8_method_11_code 156 = .ok (.goto 4, 3) := by decide +kernel
theorem d_Nu_product_159 : decode prog_8_method_11_code 159 = .ok (.iconst 0, 1) := by decide +kernel
theorem d_Nu_product_160 : decode prog_8_method_11_code 160 = .ok (.putfield 17, 3) := by decide +kernel
theorem d_Nu_product_163 : decode prog_8_method_11_code 163 = .ok (.aload_n 0, 1) := by decide +kernel
theorem d_Nu_product_164 : decode prog_8_method_11_code 164 = .ok (.invokevirtual 27, 3) := by decide +kernel
theorem d_Nu_product_167 : decode prog_8_method_11_code 167 = .ok (.return_, 1) := by decide +kernel
def f_N_product (x_d_n : Nat) (x_d : Nat → Int32) (a_n : Int32) (a_minus : Int32) (a_d_n : Nat) (a_d : Nat → Int32) (b_n : Int32) (b_minus : Int32) (b_d_n : Nat) (b_d : Nat → Int32) : Option (Int32 × Int32 × (Nat → Int32)) :=
  ck_jn (fun (w_1 : Nat → Int32) => ck_jn (fun (w_2 : Nat → Int32) => ck_jn (fun (s0_3 : Int32) => ck_z s0_3 <| ck_b2 (f_N_trim (a_n + b_n) s0_3 x_d_n w_2) <| fun u_5 u_6 => some (u_5, u_6, w_2)) <| fun k_160 => ck_if (a_minus = b_minus) (k_160 0) (k_160 1)) <| fun k_143 => lo2 (fun k_38 (v3_9 : Int32) (w_10 : Nat → Int32) => ck_if (a_n ≤ v3_9) (k_143 w_10) (ck_jn (fun (v4_12 : Int64) (w_13 : Nat → Int32) => ck_in (v3_9 + b_n) x_d_n <| ck_nm (v3_9 + 1) <| fun x_15 => k_38 x_15 (upd w_13 (v3_9 + b_n).toNatClampNeg v4_12.toInt32)) <| fun k_123 => lo3 (fun k_52 (v6_16 : Int32) (v4_17 : Int64) (w_18 : Nat → Int32) => ck_if (b_n ≤ v6_16) (k_123 v4_17 w_18) (ck_in v3_9 a_d_n <| ck_in v6_16 b_d_n <| ck_in (v3_9 + v6_16) x_d_n <| ck_nm (v4_17 + ((((a_d v3_9.toNatClampNeg).toInt64) * ((b_d v6_16.toNatClampNeg).toInt64)) + ((w_18 (v3_9 + v6_16).toNatClampNeg).toInt64))) <| fun x_23 => ck_in (v3_9 + v6_16) x_d_n <| ck_nm (x_23 / 65536) <| fun x_25 => ck_nm (v6_16 + 1) <| fun x_26 => k_52 x_26 x_25 (upd w_18 (v3_9 + v6_16).toNatClampNeg ((x_23 - x_23 / 65536 * 65536).toInt32)))) ck_F 0 0 w_10)) ck_F 0 w_1) <| fun k_36 => lo2 (fun k_15 (v3_27 : Int32) (w_28 : Nat → Int32) => ck_if ((a_n + b_n) ≤ v3_27) (k_36 w_28) (ck_in v3_27 x_d_n <| ck_nm (v3_27 + 1) <| fun x_31 => k_15 x_31 (upd w_28 v3_27.toNatClampNeg 0))) ck_F 0 x_d
set_option maxHeartbeats 4000000 in
set_option maxRecDepth 100000 in
theorem c_N_product (l : Launch) (dC : Nat → ClassId) (dI : Nat → Nat → Nat) (cI cJ cB cZ cT cN : ClassId) (sz : Nat) (h_x : Nat) (h_a : Nat) (h_b : Nat) (h_x_d : Nat) (h_a_d : Nat) (h_b_d : Nat) (x_n : Int32) (x_minus : Int32) (x_d_n : Nat) (x_d : Nat → Int32) (a_n : Int32) (a_minus : Int32) (a_d_n : Nat) (a_d : Nat → Int32) (b_n : Int32) (b_minus : Int32) (b_d_n : Nat) (b_d : Nat → Int32) (r : Int32 × Int32 × (Nat → Int32)) (h : f_N_product x_d_n x_d a_n a_minus a_d_n a_d b_n b_minus b_d_n b_d = some r) : Met l y_Nu_product w_Nu_product ({ frames := 1, cells := 0, slots := 0, locals := 20 } : Room) (va_Pc [.ref h_x, .ref h_a, .ref h_b] (fun U => U.heap.size = sz ∧ va_P (dC, dI) cl_all [(h_x, .inr (5, [.ref h_x_d, .int x_n, .int x_minus])), (h_x_d, .inl (cI, x_d_n, .inl x_d)), (h_a, .inr (5, [.ref h_a_d, .int a_n, .int a_minus])), (h_a_d, .inl (cI, a_d_n, .inl a_d)), (h_b, .inr (5, [.ref h_b_d, .int b_n, .int b_minus])), (h_b_d, .inl (cI, b_d_n, .inl b_d))] U.heap ∧ va_K (dC, dI) cl_all [(cI, .int), (cJ, .long), (cB, .byte), (cZ, .boolean), (cT, .object "BasisWalk$Table"), (cN, .object "BasisWalkModel$Num")] U ∧ NW U ∧ va_D (fun _ => True) [(h_x, .inr (5, [.ref h_x_d, .int x_n, .int x_minus])), (h_x_d, .inl (cI, x_d_n, .inl x_d)), (h_a, .inr (5, [.ref h_a_d, .int a_n, .int a_minus])), (h_a_d, .inl (cI, a_d_n, .inl a_d)), (h_b, .inr (5, [.ref h_b_d, .int b_n, .int b_minus])), (h_b_d, .inl (cI, b_d_n, .inl b_d))])) (va_Qv (fun u : Int32 × Int32 × (Nat → Int32) => u = r) (fun (u : Int32 × Int32 × (Nat → Int32)) (t : State) => va_P (dC, dI) cl_all [(h_x, .inr (5, [.ref h_x_d, .int u.1, .int u.2.1])), (h_x_d, .inl (cI, x_d_n, .inl u.2.2)), (h_a, .inr (5, [.ref h_a_d, .int a_n, .int a_minus])), (h_a_d, .inl (cI, a_d_n, .inl a_d)), (h_b, .inr (5, [.ref h_b_d, .int b_n, .int b_minus])), (h_b_d, .inl (cI, b_d_n, .inl b_d))] t.heap ∧ va_K (dC, dI) cl_all [(cI, .int), (cJ, .long), (cB, .byte), (cZ, .boolean), (cT, .object "BasisWalk$Table"), (cN, .object "BasisWalkModel$Num")] t ∧ va_D (va_A [(h_x, .inr (5, [.ref h_x_d, .int x_n, .int x_minus])), (h_x_d, .inl (cI, x_d_n, .inl x_d)), (h_a, .inr (5, [.ref h_a_d, .int a_n, .int a_minus])), (h_a_d, .inl (cI, a_d_n, .inl a_d)), (h_b, .inr (5, [.ref h_b_d, .int b_n, .int b_minus])), (h_b_d, .inl (cI, b_d_n, .inl b_d))] sz) [(h_x, .inr (5, [.ref h_x_d, .int u.1, .int u.2.1])), (h_x_d, .inl (cI, x_d_n, .inl u.2.2)), (h_a, .inr (5, [.ref h_a_d, .int a_n, .int a_minus])), (h_a_d, .inl (cI, a_d_n, .inl a_d)), (h_b, .inr (5, [.ref h_b_d, .int b_n, .int b_minus])), (h_b_d, .inl (cI, b_d_n, .inl b_d))]) (va_A [(h_x, .inr (5, [.ref h_x_d, .int x_n, .int x_minus])), (h_x_d, .inl (cI, x_d_n, .inl x_d)), (h_a, .inr (5, [.ref h_a_d, .int a_n, .int a_minus])), (h_a_d, .inl (cI, a_d_n, .inl a_d)), (h_b, .inr (5, [.ref h_b_d, .int b_n, .int b_minus])), (h_b_d, .inl (cI, b_d_n, .inl b_d))] sz)) 0 0 (va_A [(h_x, .inr (5, [.ref h_x_d, .int x_n, .int x_minus])), (h_x_d, .inl (cI, x_d_n, .inl x_d)), (h_a, .inr (5, [.ref h_a_d, .int a_n, .int a_minus])), (h_a_d, .inl (cI, a_d_n, .inl a_d)), (h_b, .inr (5, [.ref h_b_d, .int b_n, .int b_minus])), (h_b_d, .inl (cI, b_d_n, .inl b_d))] sz) := by
  refine Met.ofW (cc := prog_8_method_11_code) (maxL := 7) (ret := (Option.none : Option Jvm.ClassFile.FieldType)) (by decide) rfl ?_
  intro p e s m args below meth c s₁ B hml hv
  obtain ⟨hAR, hsz, hP, hK, hN, hD0⟩ := hv
  have hx := B.exec
  have hb := B.bytes
  have hr := B.returns
  have hts := atoms_spec (ws := w_Nu_product) B.pre
  have hown : s.vm.findClass "BasisWalkModel$Num" = some m.cls := findClass_of_methodNamed B.named
  have hlocks := B.notSynchronized
  clear B
  subst hsz
  have hD := hD0.self (sz := s.heap.size)
  generalize hAe : va_A [(h_x, .inr (5, [.ref h_x_d, .int x_n, .int x_minus])), (h_x_d, .inl (cI, x_d_n, .inl x_d)), (h_a, .inr (5, [.ref h_a_d, .int a_n, .int a_minus])), (h_a_d, .inl (cI, a_d_n, .inl a_d)), (h_b, .inr (5, [.ref h_b_d, .int b_n, .int b_minus])), (h_b_d, .inl (cI, b_d_n, .inl b_d))] s.heap.size = A at hD ⊢
  have hA : ∀ q : Nat, s.heap.size ≤ q → A q := fun q h => by rw [← hAe]; exact Or.inr h
  clear hAe hD0
  have hS : va_S A s.heap s.heap [] := va_S.rf
  have hl := lv_entry ([.ref h_x, .ref h_a, .ref h_b]) (n := 7) (Nat.le_of_ble_eq_true rfl)
  subst hAR
  rw [lg_entry_eq]
  generalize (lg_sl ([.ref h_x, .ref h_a, .ref h_b]) ++ List.replicate (7 - (lg_sl ([.ref h_x, .ref h_a, .ref h_b])).length) Slot.unset).toArray = ls at hl ⊢
  have hl : lv_has ls 7 [(0, .ref h_x), (1, .ref h_a), (2, .ref h_b)] := hl
  change W p l e ({ frames := 1, cells := 0, slots := 0, locals := 20 } : Room) s m _ below meth c s.heap [] 0 0 _ _
  generalize hARe : ([.ref h_x, .ref h_a, .ref h_b] : List Value).toArray = AR at hts ⊢
  clear hARe
  generalize hQ : MQ below _ AR s 0 0 A = QQ
  have fl0 := hts _ (List.mem_cons_of_mem _ tw_340)
  have iw1 := (fun w hw => List.mem_cons_of_mem _ (in_Nu w hw) : ∀ w ∈ u_ws "BasisWalkModel$Num" T_Nu 3, w ∈ w_Nu_product)
  have fl2 := hts _ (List.mem_cons_of_mem _ tw_342)
  have fl3 := hts _ (List.mem_cons_of_mem _ tw_338)
  have kc4 := hts _ (List.mem_cons_of_mem _ tw_497)
  obtain ⟨H, hHe⟩ : ∃ H : Heap, H = s.heap := ⟨_, rfl⟩
  rw [← hHe] at hP ⊢
  replace hS : va_S A s.heap H [] := by rw [hHe]; exact va_S.rf
  clear hHe
  unfold f_N_product at h
  refine lv_aload_n hx hb d_Nu_product_0 rfl (lv_at hl 0 rfl) ?_
  refine lv_aload_n hx hb d_Nu_product_1 rfl (lv_at hl 1 rfl) ?_
  refine va_get (D := (dC, dI)) (ci := 5) (v := .int a_n) (C := "BasisWalkModel$Num") (T := T_Nu) (N := 3) hx hb hts iw1 hown hK hP 2 rfl rfl 1 (by decide) fl0 (fun _ h9 => h9) rfl d_Nu_product_2 ?_
  refine lv_aload_n hx hb d_Nu_product_5 rfl (lv_at hl 2 rfl) ?_
  refine va_get (D := (dC, dI)) (ci := 5) (v := .int b_n) (C := "BasisWalkModel$Num") (T := T_Nu) (N := 3) hx hb hts iw1 hown hK hP 4 rfl rfl 1 (by decide) fl0 (fun _ h9 => h9) rfl d_Nu_product_6 ?_
  refine lv_iadd hx hb d_Nu_product_9 ?_
  refine va_put (D := (dC, dI)) (ci := 5) (v := .int (a_n + b_n)) (ty := .int) (C := "BasisWalkModel$Num") (T := T_Nu) (N := 3) hx hb hts iw1 ty_Nu tyok_Nu nm_Nu hown hK hP hD hS 0 rfl rfl 1 (by decide) fl0 (fun _ h9 => h9) rfl (by decide +kernel) rfl rfl (Nat.le_of_ble_eq_true rfl) d_Nu_product_10 (fun H locs hP hD hS => ?_)
  have hP : va_P (dC, dI) cl_all [(h_x, .inr (5, [.ref h_x_d, .int (a_n + b_n), .int x_minus])), (h_x_d, .inl (cI, x_d_n, .inl x_d)), (h_a, .inr (5, [.ref h_a_d, .int a_n, .int a_minus])), (h_a_d, .inl (cI, a_d_n, .inl a_d)), (h_b, .inr (5, [.ref h_b_d, .int b_n, .int b_minus])), (h_b_d, .inl (cI, b_d_n, .inl b_d))] H := hP
  have hD : va_D A [(h_x, .inr (5, [.ref h_x_d, .int (a_n + b_n), .int x_minus])), (h_x_d, .inl (cI, x_d_n, .inl x_d)), (h_a, .inr (5, [.ref h_a_d, .int a_n, .int a_minus])), (h_a_d, .inl (cI, a_d_n, .inl a_d)), (h_b, .inr (5, [.ref h_b_d, .int b_n, .int b_minus])), (h_b_d, .inl (cI, b_d_n, .inl b_d))] := hD
  refine lv_iconst (v := 0) hx hb d_Nu_product_13 (by decide) ?_
  refine lv_istore_n (lv' := [(3, .int 0), (0, .ref h_x), (1, .ref h_a), (2, .ref h_b)]) hx hb d_Nu_product_14 rfl hl (by decide) rfl (fun ls hl => ?_)
  refine ck_jn_W h (fun k' => ∀ (w_1 : Nat → Int32), k' w_1 = some r → ∀ (H : Heap) (locs : List Loc), va_P (dC, dI) cl_all [(h_x, .inr (5, [.ref h_x_d, .int (a_n + b_n), .int x_minus])), (h_x_d, .inl (cI, x_d_n, .inl w_1)), (h_a, .inr (5, [.ref h_a_d, .int a_n, .int a_minus])), (h_a_d, .inl (cI, a_d_n, .inl a_d)), (h_b, .inr (5, [.ref h_b_d, .int b_n, .int b_minus])), (h_b_d, .inl (cI, b_d_n, .inl b_d))] H → va_D A [(h_x, .inr (5, [.ref h_x_d, .int (a_n + b_n), .int x_minus])), (h_x_d, .inl (cI, x_d_n, .inl w_1)), (h_a, .inr (5, [.ref h_a_d, .int a_n, .int a_minus])), (h_a_d, .inl (cI, a_d_n, .inl a_d)), (h_b, .inr (5, [.ref h_b_d, .int b_n, .int b_minus])), (h_b_d, .inl (cI, b_d_n, .inl b_d))] → va_S A s.heap H locs → ∀ ls : Array Slot, lv_has ls 7 [(0, .ref h_x), (1, .ref h_a), (2, .ref h_b)] → W p l e ({ frames := 1, cells := 0, slots := 0, locals := 20 } : Room) s m AR below meth c H locs 0 0 QQ (F0 m 36 ls [])) ?_ ?_
  · intro w_1 h H locs hP hD hS ls hl
    refine lv_iconst (v := 0) hx hb d_Nu_product_36 (by decide) ?_
    refine lv_istore_n (lv' := [(3, .int 0), (0, .ref h_x), (1, .ref h_a), (2, .ref h_b)]) hx hb d_Nu_product_37 rfl hl (by decide) rfl (fun ls hl => ?_)
    refine ck_jn_W h (fun k' => ∀ (w_2 : Nat → Int32), k' w_2 = some r → ∀ (H : Heap) (locs : List Loc), va_P (dC, dI) cl_all [(h_x, .inr (5, [.ref h_x_d, .int (a_n + b_n), .int x_minus])), (h_x_d, .inl (cI, x_d_n, .inl w_2)), (h_a, .inr (5, [.ref h_a_d, .int a_n, .int a_minus])), (h_a_d, .inl (cI, a_d_n, .inl a_d)), (h_b, .inr (5, [.ref h_b_d, .int b_n, .int b_minus])), (h_b_d, .inl (cI, b_d_n, .inl b_d))] H → va_D A [(h_x, .inr (5, [.ref h_x_d, .int (a_n + b_n), .int x_minus])), (h_x_d, .inl (cI, x_d_n, .inl w_2)), (h_a, .inr (5, [.ref h_a_d, .int a_n, .int a_minus])), (h_a_d, .inl (cI, a_d_n, .inl a_d)), (h_b, .inr (5, [.ref h_b_d, .int b_n, .int b_minus])), (h_b_d, .inl (cI, b_d_n, .inl b_d))] → va_S A s.heap H locs → ∀ ls : Array Slot, lv_has ls 7 [(0, .ref h_x), (1, .ref h_a), (2, .ref h_b)] → W p l e ({ frames := 1, cells := 0, slots := 0, locals := 20 } : Room) s m AR below meth c H locs 0 0 QQ (F0 m 143 ls [])) ?_ ?_
    · intro w_2 h H locs hP hD hS ls hl
      refine lv_aload_n hx hb d_Nu_product_143 rfl (lv_at hl 0 rfl) ?_
      refine lv_aload_n hx hb d_Nu_product_144 rfl (lv_at hl 1 rfl) ?_
      refine va_get (D := (dC, dI)) (ci := 5) (v := .int a_minus) (C := "BasisWalkModel$Num") (T := T_Nu) (N := 3) hx hb hts iw1 hown hK hP 2 rfl rfl 2 (by decide) fl2 (fun _ h9 => h9) rfl d_Nu_product_145 ?_
      refine lv_aload_n hx hb d_Nu_product_148 rfl (lv_at hl 2 rfl) ?_
      refine va_get (D := (dC, dI)) (ci := 5) (v := .int b_minus) (C := "BasisWalkModel$Num") (T := T_Nu) (N := 3) hx hb hts iw1 hown hK hP 4 rfl rfl 2 (by decide) fl2 (fun _ h9 => h9) rfl d_Nu_product_149 ?_
      refine ck_jn_W h (fun k' => ∀ (s0_3 : Int32), k' s0_3 = some r → ∀ (H : Heap) (locs : List Loc), va_P (dC, dI) cl_all [(h_x, .inr (5, [.ref h_x_d, .int (a_n + b_n), .int x_minus])), (h_x_d, .inl (cI, x_d_n, .inl w_2)), (h_a, .inr (5, [.ref h_a_d, .int a_n, .int a_minus])), (h_a_d, .inl (cI, a_d_n, .inl a_d)), (h_b, .inr (5, [.ref h_b_d, .int b_n, .int b_minus])), (h_b_d, .inl (cI, b_d_n, .inl b_d))] H → va_D A [(h_x, .inr (5, [.ref h_x_d, .int (a_n + b_n), .int x_minus])), (h_x_d, .inl (cI, x_d_n, .inl w_2)), (h_a, .inr (5, [.ref h_a_d, .int a_n, .int a_minus])), (h_a_d, .inl (cI, a_d_n, .inl a_d)), (h_b, .inr (5, [.ref h_b_d, .int b_n, .int b_minus])), (h_b_d, .inl (cI, b_d_n, .inl b_d))] → va_S A s.heap H locs → ∀ ls : Array Slot, lv_has ls 7 [(0, .ref h_x)] → W p l e ({ frames := 1, cells := 0, slots := 0, locals := 20 } : Room) s m AR below meth c H locs 0 0 QQ (F0 m 160 ls [.int s0_3, .ref h_x])) ?_ ?_
      · intro s0_3 h H locs hP hD hS ls hl
        obtain ⟨g_4, h⟩ := ck_z_s h
        refine va_put (D := (dC, dI)) (ci := 5) (v := .int s0_3) (ty := .boolean) (C := "BasisWalkModel$Num") (T := T_Nu) (N := 3) hx hb hts iw1 ty_Nu tyok_Nu nm_Nu hown hK hP hD hS 0 rfl rfl 2 (by decide) fl2 (fun _ h9 => h9) rfl (by decide +kernel) g_4.1 g_4.2 (Nat.le_of_ble_eq_true rfl) d_Nu_product_160 (fun H locs hP hD hS => ?_)
        have hP : va_P (dC, dI) cl_all [(h_x, .inr (5, [.ref h_x_d, .int (a_n + b_n), .int s0_3])), (h_x_d, .inl (cI, x_d_n, .inl w_2)), (h_a, .inr (5, [.ref h_a_d, .int a_n, .int a_minus])), (h_a_d, .inl (cI, a_d_n, .inl a_d)), (h_b, .inr (5, [.ref h_b_d, .int b_n, .int b_minus])), (h_b_d, .inl (cI, b_d_n, .inl b_d))] H := hP
        have hD : va_D A [(h_x, .inr (5, [.ref h_x_d, .int (a_n + b_n), .int s0_3])), (h_x_d, .inl (cI, x_d_n, .inl w_2)), (h_a, .inr (5, [.ref h_a_d, .int a_n, .int a_minus])), (h_a_d, .inl (cI, a_d_n, .inl a_d)), (h_b, .inr (5, [.ref h_b_d, .int b_n, .int b_minus])), (h_b_d, .inl (cI, b_d_n, .inl b_d))] := hD
        refine lv_aload_n hx hb d_Nu_product_163 rfl (lv_at hl 0 rfl) ?_
        obtain ⟨u_5, u_6, hc_7, h⟩ := ck_b2_s h
        have hPc := hP.sub (ws' := [(h_x, .inr (5, [.ref h_x_d, .int (a_n + b_n), .int s0_3])), (h_x_d, .inl (cI, x_d_n, .inl w_2))]) [0, 1] rfl
        have hDc := hD.sub (ws' := [(h_x, .inr (5, [.ref h_x_d, .int (a_n + b_n), .int s0_3])), (h_x_d, .inl (cI, x_d_n, .inl w_2))]) [0, 1] (by decide) rfl
        have hFc := va_free (wc := [(h_x, .inr (5, [.ref h_x_d, .int (a_n + b_n), .int s0_3])), (h_x_d, .inl (cI, x_d_n, .inl w_2))]) hD hS hA [0, 1] rfl
        refine va_callv (va_runV (As := []) (rest := []) ⟨hx, hb, hml, hown, hts⟩ (c_N_trim l dC dI cI cJ cB cZ cT cN H.size h_x h_x_d (a_n + b_n) s0_3 x_d_n w_2 _ hc_7) (cwV 0 hts (tb_V tw_526 tw_527 tw_528 tw_7 tw_529) rfl rfl rfl (by decide +kernel) ⟨Nat.le_of_ble_eq_true rfl, Nat.le_of_ble_eq_true rfl⟩) ⟨fun a U g mk q => by obtain ⟨q0, q1, qP, qK, qN, qD⟩ := q; exact ⟨q0, q1, qP, va_K.moved (u := U) (U := U.calling g mk a) (Vm.Alike.refl U.vm) qK, qN.same rfl, qD⟩, va_recv hK hPc (ci := 5) (q0 := 0) rfl rfl, fun U hU hW => ⟨rfl, by rw [hU], by rw [hU]; exact hPc, va_K.moved hW.alike hK, hN.warm hW, hDc.weaken (fun _ _ _ _ => trivial)⟩⟩ rfl rfl hl.1 rfl (lv_room (Nat.le_of_ble_eq_true rfl)) d_Nu_product_164 ⟨Nat.zero_le _, Nat.zero_le _⟩) hS (fun q _ h => hFc q h) hFc (fun u t H1 locs ht hvm hw hB hz1 hk1 hS => ?_)
        replace hw := hw.symm
        subst hw
        obtain ⟨hP1, -, hD1⟩ := hB
        rw [ht] at hP1
        obtain ⟨hP, hD⟩ := va_join (wr := [(h_a, .inr (5, [.ref h_a_d, .int a_n, .int a_minus])), (h_a_d, .inl (cI, a_d_n, .inl a_d)), (h_b, .inr (5, [.ref h_b_d, .int b_n, .int b_minus])), (h_b_d, .inl (cI, b_d_n, .inl b_d))]) (w1 := [(h_x, .inr (5, [.ref h_x_d, .int u_5, .int u_6])), (h_x_d, .inl (cI, x_d_n, .inl w_2))]) hP hD [0, 1] [2, 3, 4, 5] rfl rfl (by decide) (by decide) hk1 hFc hP1 hD1
        generalize H1 = H at hP hS ⊢
        have hP : va_P (dC, dI) cl_all [(h_x, .inr (5, [.ref h_x_d, .int u_5, .int u_6])), (h_x_d, .inl (cI, x_d_n, .inl w_2)), (h_a, .inr (5, [.ref h_a_d, .int a_n, .int a_minus])), (h_a_d, .inl (cI, a_d_n, .inl a_d)), (h_b, .inr (5, [.ref h_b_d, .int b_n, .int b_minus])), (h_b_d, .inl (cI, b_d_n, .inl b_d))] H := hP.sub [4, 5, 0, 1, 2, 3] rfl
        have hD : va_D A [(h_x, .inr (5, [.ref h_x_d, .int u_5, .int u_6])), (h_x_d, .inl (cI, x_d_n, .inl w_2)), (h_a, .inr (5, [.ref h_a_d, .int a_n, .int a_minus])), (h_a_d, .inl (cI, a_d_n, .inl a_d)), (h_b, .inr (5, [.ref h_b_d, .int b_n, .int b_minus])), (h_b_d, .inl (cI, b_d_n, .inl b_d))] := hD.sub [4, 5, 0, 1, 2, 3] (by decide) rfl
        obtain rfl := Option.some.inj h
        subst hQ
        exact W.vret hx hb hr (fun t ht hW => ⟨⟨(u_5, u_6, w_2), rfl, rfl, by rw [ht]; exact hP, va_K.moved hW.alike hK, hD⟩, hS.F ht⟩) hS.2.2 d_Nu_product_167
      · intro k_160 J_160 h
        refine lv_icmp_eq (tgt := 159) hx hb d_Nu_product_152 (by decide) (fun c_8 => ?_) (fun c_8 => ?_)
        · replace h := ck_if_t h c_8
          refine lv_iconst (v := 0) hx hb d_Nu_product_159 (by decide) ?_
          exact J_160 _ h _ _ hP hD hS _ (lv_sub hl [0] rfl)
        · replace h := ck_if_f h c_8
          refine lv_iconst (v := 1) hx hb d_Nu_product_155 (by decide) ?_
          refine lv_goto (tgt := 160) hx hb d_Nu_product_156 (by decide) ?_
          exact J_160 _ h _ _ hP hD hS _ (lv_sub hl [0] rfl)
    · intro k_143 J_143 h
      refine lo2_W (r := r) (fun (v3_9 : Int32) (w_10 : Nat → Int32) => ∀ (H : Heap) (locs : List Loc), va_P (dC, dI) cl_all [(h_x, .inr (5, [.ref h_x_d, .int (a_n + b_n), .int x_minus])), (h_x_d, .inl (cI, x_d_n, .inl w_10)), (h_a, .inr (5, [.ref h_a_d, .int a_n, .int a_minus])), (h_a_d, .inl (cI, a_d_n, .inl a_d)), (h_b, .inr (5, [.ref h_b_d, .int b_n, .int b_minus])), (h_b_d, .inl (cI, b_d_n, .inl b_d))] H → va_D A [(h_x, .inr (5, [.ref h_x_d, .int (a_n + b_n), .int x_minus])), (h_x_d, .inl (cI, x_d_n, .inl w_10)), (h_a, .inr (5, [.ref h_a_d, .int a_n, .int a_minus])), (h_a_d, .inl (cI, a_d_n, .inl a_d)), (h_b, .inr (5, [.ref h_b_d, .int b_n, .int b_minus])), (h_b_d, .inl (cI, b_d_n, .inl b_d))] → va_S A s.heap H locs → ∀ ls : Array Slot, lv_has ls 7 [(0, .ref h_x), (1, .ref h_a), (2, .ref h_b), (3, .int v3_9)] → W p l e ({ frames := 1, cells := 0, slots := 0, locals := 20 } : Room) s m AR below meth c H locs 0 0 QQ (F0 m 38 ls [])) ?_ _ _ _ h _ _ hP hD hS _ (lv_sub hl [1, 2, 3, 0] rfl)
      intro k_38 v3_9 w_10 J_38 h H locs hP hD hS ls hl
      refine lv_iload_n hx hb d_Nu_product_38 rfl (lv_at hl 3 rfl) ?_
      refine lv_aload_n hx hb d_Nu_product_39 rfl (lv_at hl 1 rfl) ?_
      refine va_get (D := (dC, dI)) (ci := 5) (v := .int a_n) (C := "BasisWalkModel$Num") (T := T_Nu) (N := 3) hx hb hts iw1 hown hK hP 2 rfl rfl 1 (by decide) fl0 (fun _ h9 => h9) rfl d_Nu_product_40 ?_
      refine lv_icmp_ge (tgt := 143) hx hb d_Nu_product_43 (by decide) (fun c_11 => ?_) (fun c_11 => ?_)
      · replace h := ck_if_t h c_11
        exact J_143 _ h _ _ hP hD hS _ (lv_sub hl [0, 1, 2] rfl)
      · replace h := ck_if_f h c_11
        refine lv_lconst (v := 0) hx hb d_Nu_product_46 (by decide) ?_
        refine lv_lstore (lv' := [(4, .long 0), (0, .ref h_x), (1, .ref h_a), (2, .ref h_b), (3, .int v3_9)]) hx hb d_Nu_product_47 hl (by decide) rfl (fun ls hl => ?_)
        refine lv_iconst (v := 0) hx hb d_Nu_product_49 (by decide) ?_
        refine lv_istore (lv' := [(6, .int 0), (4, .long 0), (0, .ref h_x), (1, .ref h_a), (2, .ref h_b), (3, .int v3_9)]) hx hb d_Nu_product_50 hl (by decide) rfl (fun ls hl => ?_)
        refine ck_jn_W h (fun k' => ∀ (v4_12 : Int64) (w_13 : Nat → Int32), k' v4_12 w_13 = some r → ∀ (H : Heap) (locs : List Loc), va_P (dC, dI) cl_all [(h_x, .inr (5, [.ref h_x_d, .int (a_n + b_n), .int x_minus])), (h_x_d, .inl (cI, x_d_n, .inl w_13)), (h_a, .inr (5, [.ref h_a_d, .int a_n, .int a_minus])), (h_a_d, .inl (cI, a_d_n, .inl a_d)), (h_b, .inr (5, [.ref h_b_d, .int b_n, .int b_minus])), (h_b_d, .inl (cI, b_d_n, .inl b_d))] H → va_D A [(h_x, .inr (5, [.ref h_x_d, .int (a_n + b_n), .int x_minus])), (h_x_d, .inl (cI, x_d_n, .inl w_13)), (h_a, .inr (5, [.ref h_a_d, .int a_n, .int a_minus])), (h_a_d, .inl (cI, a_d_n, .inl a_d)), (h_b, .inr (5, [.ref h_b_d, .int b_n, .int b_minus])), (h_b_d, .inl (cI, b_d_n, .inl b_d))] → va_S A s.heap H locs → ∀ ls : Array Slot, lv_has ls 7 [(0, .ref h_x), (1, .ref h_a), (2, .ref h_b), (3, .int v3_9), (4, .long v4_12)] → W p l e ({ frames := 1, cells := 0, slots := 0, locals := 20 } : Room) s m AR below meth c H locs 0 0 QQ (F0 m 123 ls [])) ?_ ?_
        · intro v4_12 w_13 h H locs hP hD hS ls hl
          refine lv_aload_n hx hb d_Nu_product_123 rfl (lv_at hl 0 rfl) ?_
          refine va_get (D := (dC, dI)) (ci := 5) (v := .ref h_x_d) (C := "BasisWalkModel$Num") (T := T_Nu) (N := 3) hx hb hts iw1 hown hK hP 0 rfl rfl 0 (by decide) fl3 (fun _ h9 => h9) rfl d_Nu_product_124 ?_
          refine lv_iload_n hx hb d_Nu_product_127 rfl (lv_at hl 3 rfl) ?_
          refine lv_aload_n hx hb d_Nu_product_128 rfl (lv_at hl 2 rfl) ?_
          refine va_get (D := (dC, dI)) (ci := 5) (v := .int b_n) (C := "BasisWalkModel$Num") (T := T_Nu) (N := 3) hx hb hts iw1 hown hK hP 4 rfl rfl 1 (by decide) fl0 (fun _ h9 => h9) rfl d_Nu_product_129 ?_
          refine lv_iadd hx hb d_Nu_product_132 ?_
          refine lv_lload hx hb d_Nu_product_133 (lv_at hl 4 rfl) ?_
          refine lv_l2i hx hb d_Nu_product_135 rfl ?_
          obtain ⟨g_14, h⟩ := ck_in_s h
          refine va_iast hx hb hK hP hD hS 1 0 rfl rfl g_14 d_Nu_product_136 (fun H locs hP hD hS => ?_)
          have hP : va_P (dC, dI) cl_all [(h_x, .inr (5, [.ref h_x_d, .int (a_n + b_n), .int x_minus])), (h_x_d, .inl (cI, x_d_n, .inl (upd w_13 (v3_9 + b_n).toNatClampNeg v4_12.toInt32))), (h_a, .inr (5, [.ref h_a_d, .int a_n, .int a_minus])), (h_a_d, .inl (cI, a_d_n, .inl a_d)), (h_b, .inr (5, [.ref h_b_d, .int b_n, .int b_minus])), (h_b_d, .inl (cI, b_d_n, .inl b_d))] H := hP
          have hD : va_D A [(h_x, .inr (5, [.ref h_x_d, .int (a_n + b_n), .int x_minus])), (h_x_d, .inl (cI, x_d_n, .inl (upd w_13 (v3_9 + b_n).toNatClampNeg v4_12.toInt32))), (h_a, .inr (5, [.ref h_a_d, .int a_n, .int a_minus])), (h_a_d, .inl (cI, a_d_n, .inl a_d)), (h_b, .inr (5, [.ref h_b_d, .int b_n, .int b_minus])), (h_b_d, .inl (cI, b_d_n, .inl b_d))] := hD
          obtain ⟨x_15, ex_15⟩ : ∃ y : Int32, y = v3_9 + 1 := ⟨_, rfl⟩
          replace h := ck_nm_s h ex_15
          refine lv_iinc (v := x_15) (lv' := [(3, .int x_15), (0, .ref h_x), (1, .ref h_a), (2, .ref h_b), (4, .long v4_12)]) hx hb d_Nu_product_137 hl (k := 3) rfl (by rw [ex_15]; rfl) (by decide) rfl (fun ls hl => ?_)
          refine lv_goto (tgt := 38) hx hb d_Nu_product_140 (by decide) ?_
          exact J_38 _ _ h _ _ hP hD hS _ (lv_sub hl [1, 2, 3, 0] rfl)
        · intro k_123 J_123 h
          refine lo3_W (r := r) (fun (v6_16 : Int32) (v4_17 : Int64) (w_18 : Nat → Int32) => ∀ (H : Heap) (locs : List Loc), va_P (dC, dI) cl_all [(h_x, .inr (5, [.ref h_x_d, .int (a_n + b_n), .int x_minus])), (h_x_d, .inl (cI, x_d_n, .inl w_18)), (h_a, .inr (5, [.ref h_a_d, .int a_n, .int a_minus])), (h_a_d, .inl (cI, a_d_n, .inl a_d)), (h_b, .inr (5, [.ref h_b_d, .int b_n, .int b_minus])), (h_b_d, .inl (cI, b_d_n, .inl b_d))] H → va_D A [(h_x, .inr (5, [.ref h_x_d, .int (a_n + b_n), .int x_minus])), (h_x_d, .inl (cI, x_d_n, .inl w_18)), (h_a, .inr (5, [.ref h_a_d, .int a_n, .int a_minus])), (h_a_d, .inl (cI, a_d_n, .inl a_d)), (h_b, .inr (5, [.ref h_b_d, .int b_n, .int b_minus])), (h_b_d, .inl (cI, b_d_n, .inl b_d))] → va_S A s.heap H locs → ∀ ls : Array Slot, lv_has ls 7 [(0, .ref h_x), (1, .ref h_a), (2, .ref h_b), (3, .int v3_9), (4, .long v4_17), (6, .int v6_16)] → W p l e ({ frames := 1, cells := 0, slots := 0, locals := 20 } : Room) s m AR below meth c H locs 0 0 QQ (F0 m 52 ls [])) ?_ _ _ _ _ h _ _ hP hD hS _ (lv_sub hl [2, 3, 4, 5, 1, 0] rfl)
          intro k_52 v6_16 v4_17 w_18 J_52 h H locs hP hD hS ls hl
          refine lv_iload hx hb d_Nu_product_52 (lv_at hl 5 rfl) ?_
          refine lv_aload_n hx hb d_Nu_product_54 rfl (lv_at hl 2 rfl) ?_
          refine va_get (D := (dC, dI)) (ci := 5) (v := .int b_n) (C := "BasisWalkModel$Num") (T := T_Nu) (N := 3) hx hb hts iw1 hown hK hP 4 rfl rfl 1 (by decide) fl0 (fun _ h9 => h9) rfl d_Nu_product_55 ?_
          refine lv_icmp_ge (tgt := 123) hx hb d_Nu_product_58 (by decide) (fun c_19 => ?_) (fun c_19 => ?_)
          · replace h := ck_if_t h c_19
            exact J_123 _ _ h _ _ hP hD hS _ (lv_sub hl [0, 1, 2, 3, 4] rfl)
          · replace h := ck_if_f h c_19
            refine lv_lload hx hb d_Nu_product_61 (lv_at hl 4 rfl) ?_
            refine lv_aload_n hx hb d_Nu_product_63 rfl (lv_at hl 1 rfl) ?_
            refine va_get (D := (dC, dI)) (ci := 5) (v := .ref h_a_d) (C := "BasisWalkModel$Num") (T := T_Nu) (N := 3) hx hb hts iw1 hown hK hP 2 rfl rfl 0 (by decide) fl3 (fun _ h9 => h9) rfl d_Nu_product_64 ?_
            refine lv_iload_n hx hb d_Nu_product_67 rfl (lv_at hl 3 rfl) ?_
            obtain ⟨g_20, h⟩ := ck_in_s h
            refine va_iald hx hb hK hP 3 0 rfl rfl g_20 d_Nu_product_68 ?_
            refine lv_i2l hx hb d_Nu_product_69 rfl ?_
            refine lv_aload_n hx hb d_Nu_product_70 rfl (lv_at hl 2 rfl) ?_
            refine va_get (D := (dC, dI)) (ci := 5) (v := .ref h_b_d) (C := "BasisWalkModel$Num") (T := T_Nu) (N := 3) hx hb hts iw1 hown hK hP 4 rfl rfl 0 (by decide) fl3 (fun _ h9 => h9) rfl d_Nu_product_71 ?_
            refine lv_iload hx hb d_Nu_product_74 (lv_at hl 5 rfl) ?_
            obtain ⟨g_21, h⟩ := ck_in_s h
            refine va_iald hx hb hK hP 5 0 rfl rfl g_21 d_Nu_product_76 ?_
            refine lv_i2l hx hb d_Nu_product_77 rfl ?_
            refine lv_lmul hx hb d_Nu_product_78 ?_
            refine lv_aload_n hx hb d_Nu_product_79 rfl (lv_at hl 0 rfl) ?_
            refine va_get (D := (dC, dI)) (ci := 5) (v := .ref h_x_d) (C := "BasisWalkModel$Num") (T := T_Nu) (N := 3) hx hb hts iw1 hown hK hP 0 rfl rfl 0 (by decide) fl3 (fun _ h9 => h9) rfl d_Nu_product_80 ?_
            refine lv_iload_n hx hb d_Nu_product_83 rfl (lv_at hl 3 rfl) ?_
            refine lv_iload hx hb d_Nu_product_84 (lv_at hl 5 rfl) ?_
            refine lv_iadd hx hb d_Nu_product_86 ?_
            obtain ⟨g_22, h⟩ := ck_in_s h
            refine va_iald hx hb hK hP 1 0 rfl rfl g_22 d_Nu_product_87 ?_
            refine lv_i2l hx hb d_Nu_product_88 rfl ?_
            refine lv_ladd hx hb d_Nu_product_89 ?_
            refine lv_ladd hx hb d_Nu_product_90 ?_
            refine lv_topl (fun x_23 ex_23 => ?_)
            replace h := ck_nm_s h ex_23
            refine lv_lstore (lv' := [(4, .long x_23), (0, .ref h_x), (1, .ref h_a), (2, .ref h_b), (3, .int v3_9), (6, .int v6_16)]) hx hb d_Nu_product_91 hl (by decide) rfl (fun ls hl => ?_)
            refine lv_aload_n hx hb d_Nu_product_93 rfl (lv_at hl 1 rfl) ?_
            refine va_get (D := (dC, dI)) (ci := 5) (v := .ref h_x_d) (C := "BasisWalkModel$Num") (T := T_Nu) (N := 3) hx hb hts iw1 hown hK hP 0 rfl rfl 0 (by decide) fl3 (fun _ h9 => h9) rfl d_Nu_product_94 ?_
            refine lv_iload_n hx hb d_Nu_product_97 rfl (lv_at hl 4 rfl) ?_
            refine lv_iload hx hb d_Nu_product_98 (lv_at hl 5 rfl) ?_
            refine lv_iadd hx hb d_Nu_product_100 ?_
            refine lv_lload hx hb d_Nu_product_101 (lv_at hl 0 rfl) ?_
            refine lv_ldc2 (v := 65536) hx hb hown kc4 d_Nu_product_103 ?_
            refine lv_lrem hx hb d_Nu_product_106 (by decide) ?_
            refine lv_l2i hx hb d_Nu_product_107 rfl ?_
            obtain ⟨g_24, h⟩ := ck_in_s h
            refine va_iast hx hb hK hP hD hS 1 0 rfl rfl g_24 d_Nu_product_108 (fun H locs hP hD hS => ?_)
            have hP : va_P (dC, dI) cl_all [(h_x, .inr (5, [.ref h_x_d, .int (a_n + b_n), .int x_minus])), (h_x_d, .inl (cI, x_d_n, .inl (upd w_18 (v3_9 + v6_16).toNatClampNeg ((x_23 - x_23 / 65536 * 65536).toInt32)))), (h_a, .inr (5, [.ref h_a_d, .int a_n, .int a_minus])), (h_a_d, .inl (cI, a_d_n, .inl a_d)), (h_b, .inr (5, [.ref h_b_d, .int b_n, .int b_minus])), (h_b_d, .inl (cI, b_d_n, .inl b_d))] H := hP
            have hD : va_D A [(h_x, .inr (5, [.ref h_x_d, .int (a_n + b_n), .int x_minus])), (h_x_d, .inl (cI, x_d_n, .inl (upd w_18 (v3_9 + v6_16).toNatClampNeg ((x_23 - x_23 / 65536 * 65536).toInt32)))), (h_a, .inr (5, [.ref h_a_d, .int a_n, .int a_minus])), (h_a_d, .inl (cI, a_d_n, .inl a_d)), (h_b, .inr (5, [.ref h_b_d, .int b_n, .int b_minus])), (h_b_d, .inl (cI, b_d_n, .inl b_d))] := hD
            refine lv_lload hx hb d_Nu_product_109 (lv_at hl 0 rfl) ?_
            refine lv_ldc2 (v := 65536) hx hb hown kc4 d_Nu_product_111 ?_
            refine lv_ldiv hx hb d_Nu_product_114 (by decide) ?_
            refine lv_topl (fun x_25 ex_25 => ?_)
            replace h := ck_nm_s h ex_25
            refine lv_lstore (lv' := [(4, .long x_25), (0, .ref h_x), (1, .ref h_a), (2, .ref h_b), (3, .int v3_9), (6, .int v6_16)]) hx hb d_Nu_product_115 hl (by decide) rfl (fun ls hl => ?_)
            obtain ⟨x_26, ex_26⟩ : ∃ y : Int32, y = v6_16 + 1 := ⟨_, rfl⟩
            replace h := ck_nm_s h ex_26
            refine lv_iinc (v := x_26) (lv' := [(6, .int x_26), (4, .long x_25), (0, .ref h_x), (1, .ref h_a), (2, .ref h_b), (3, .int v3_9)]) hx hb d_Nu_product_117 hl (k := 5) rfl (by rw [ex_26]; rfl) (by decide) rfl (fun ls hl => ?_)
            refine lv_goto (tgt := 52) hx hb d_Nu_product_120 (by decide) ?_
            exact J_52 _ _ _ h _ _ hP hD hS _ (lv_sub hl [2, 3, 4, 5, 1, 0] rfl)
  · intro k_36 J_36 h
    refine lo2_W (r := r) (fun (v3_27 : Int32) (w_28 : Nat → Int32) => ∀ (H : Heap) (locs : List Loc), va_P (dC, dI) cl_all [(h_x, .inr (5, [.ref h_x_d, .int (a_n + b_n), .int x_minus])), (h_x_d, .inl (cI, x_d_n, .inl w_28)), (h_a, .inr (5, [.ref h_a_d, .int a_n, .int a_minus])), (h_a_d, .inl (cI, a_d_n, .inl a_d)), (h_b, .inr (5, [.ref h_b_d, .int b_n, .int b_minus])), (h_b_d, .inl (cI, b_d_n, .inl b_d))] H → va_D A [(h_x, .inr (5, [.ref h_x_d, .int (a_n + b_n), .int x_minus])), (h_x_d, .inl (cI, x_d_n, .inl w_28)), (h_a, .inr (5, [.ref h_a_d, .int a_n, .int a_minus])), (h_a_d, .inl (cI, a_d_n, .inl a_d)), (h_b, .inr (5, [.ref h_b_d, .int b_n, .int b_minus])), (h_b_d, .inl (cI, b_d_n, .inl b_d))] → va_S A s.heap H locs → ∀ ls : Array Slot, lv_has ls 7 [(0, .ref h_x), (1, .ref h_a), (2, .ref h_b), (3, .int v3_27)] → W p l e ({ frames := 1, cells := 0, slots := 0, locals := 20 } : Room) s m AR below meth c H locs 0 0 QQ (F0 m 15 ls [])) ?_ _ _ _ h _ _ hP hD hS _ (lv_sub hl [1, 2, 3, 0] rfl)
    intro k_15 v3_27 w_28 J_15 h H locs hP hD hS ls hl
    refine lv_iload_n hx hb d_Nu_product_15 rfl (lv_at hl 3 rfl) ?_
    refine lv_aload_n hx hb d_Nu_product_16 rfl (lv_at hl 0 rfl) ?_
    refine va_get (D := (dC, dI)) (ci := 5) (v := .int (a_n + b_n)) (C := "BasisWalkModel$Num") (T := T_Nu) (N := 3) hx hb hts iw1 hown hK hP 0 rfl rfl 1 (by decide) fl0 (fun _ h9 => h9) rfl d_Nu_product_17 ?_
    refine lv_icmp_ge (tgt := 36) hx hb d_Nu_product_20 (by decide) (fun c_29 => ?_) (fun c_29 => ?_)
    · replace h := ck_if_t h c_29
      exact J_36 _ h _ _ hP hD hS _ (lv_sub hl [0, 1, 2] rfl)
    · replace h := ck_if_f h c_29
      refine lv_aload_n hx hb d_Nu_product_23 rfl (lv_at hl 0 rfl) ?_
      refine va_get (D := (dC, dI)) (ci := 5) (v := .ref h_x_d) (C := "BasisWalkModel$Num") (T := T_Nu) (N := 3) hx hb hts iw1 hown hK hP 0 rfl rfl 0 (by decide) fl3 (fun _ h9 => h9) rfl d_Nu_product_24 ?_
      refine lv_iload_n hx hb d_Nu_product_27 rfl (lv_at hl 3 rfl) ?_
      refine lv_iconst (v := 0) hx hb d_Nu_product_28 (by decide) ?_
      obtain ⟨g_30, h⟩ := ck_in_s h
      refine va_iast hx hb hK hP hD hS 1 0 rfl rfl g_30 d_Nu_product_29 (fun H locs hP hD hS => ?_)
      have hP : va_P (dC, dI) cl_all [(h_x, .inr (5, [.ref h_x_d, .int (a_n + b_n), .int x_minus])), (h_x_d, .inl (cI, x_d_n, .inl (upd w_28 v3_27.toNatClampNeg 0))), (h_a, .inr (5, [.ref h_a_d, .int a_n, .int a_minus])), (h_a_d, .inl (cI, a_d_n, .inl a_d)), (h_b, .inr (5, [.ref h_b_d, .int b_n, .int b_minus])), (h_b_d, .inl (cI, b_d_n, .inl b_d))] H := hP
      have hD : va_D A [(h_x, .inr (5, [.ref h_x_d, .int (a_n + b_n), .int x_minus])), (h_x_d, .inl (cI, x_d_n, .inl (upd w_28 v3_27.toNatClampNeg 0))), (h_a, .inr (5, [.ref h_a_d, .int a_n, .int a_minus])), (h_a_d, .inl (cI, a_d_n, .inl a_d)), (h_b, .inr (5, [.ref h_b_d, .int b_n, .int b_minus])), (h_b_d, .inl (cI, b_d_n, .inl b_d))] := hD
      obtain ⟨x_31, ex_31⟩ : ∃ y : Int32, y = v3_27 + 1 := ⟨_, rfl⟩
      replace h := ck_nm_s h ex_31
      refine lv_iinc (v := x_31) (lv' := [(3, .int x_31), (0, .ref h_x), (1, .ref h_a), (2, .ref h_b)]) hx hb d_Nu_product_30 hl (k := 3) rfl (by rw [ex_31]; rfl) (by decide) rfl (fun ls hl => ?_)
      refine lv_goto (tgt := 15) hx hb d_Nu_product_33 (by decide) ?_
      exact J_15 _ _ h _ _ hP hD hS _ (lv_sub hl [1, 2, 3, 0] rfl)
theorem d_Nu_isAtMost_0 : decode prog_8_method_14_code 0 = .ok (.lconst 0, 1) := by decide +kernel
theorem d_Nu_isAtMost_1 : decode prog_8_method_14_code 1 = .ok (.lstore_n 3, 1) := by decide +kernel
theorem d_Nu_isAtMost_2 : decode prog_8_method_14_code 2 = .ok (.iconst 0, 1) := by decide +kernel
theorem d_Nu_isAtMost_3 : decode prog_8_method_14_code 3 = .ok (.istore 5, 2) := by decide +kernel
theorem d_Nu_isAtMost_5 : decode prog_8_method_14_code 5 = .ok (.iload 5, 2) := by decide +kernel
theorem d_Nu_isAtMost_7 : decode prog_8_method_14_code 7 = .ok (.aload_n 2, 1) := by decide +kernel
theorem d_Nu_isAtMost_8 : decode prog_8_method_14_code 8 = .ok (.getfield 13, 3) := by decide +kernel
theorem d_Nu_isAtMost_11 : decode prog_8_method_14_code 11 = .ok (.if_icmp .ge 68, 3) := by decide +kernel
theorem d_Nu_isAtMost_14 : decode prog_8_method_14_code 14 = .ok (.aload_n 2, 1) := by decide +kernel
theorem d_Nu_isAtMost_15 : decode prog_8_method_14_code 15 = .ok (.getfield 7, 3) := by decide +kernel
theorem d_Nu_isAtMost_18 : decode prog_8_method_14_code 18 = .ok (.iload 5, 2) := by decide +kernel
theorem d_Nu_isAtMost_20 : decode prog_8_method_14_code 20 = .ok (.iaload, 1) := by decide +kernel
theorem d_Nu_isAtMost_21 : decode prog_8_method_14_code 21 = .ok (.i2l, 1) := by decide +kernel
theorem d_Nu_isAtMost_22 : decode prog_8_method_14_code 22 = .ok (.lload_n 3, 1) := by decide +kernel
theorem d_Nu_isAtMost_23 : decode prog_8_method_14_code 23 = .ok (.lsub, 1) := by decide +kernel
theorem d_Nu_isAtMost_24 : decode prog_8_method_14_code 24 = .ok (.iload 5, 2) := by decide +kernel
theorem d_Nu_isAtMost_26 : decode prog_8_method_14_code 26 = .ok (.aload_n 0, 1) := by decide +kernel
theorem d_Nu_isAtMost_27 : decode prog_8_method_14_code 27 = .ok (.getfield 13, 3) := by decide +kernel
theorem d_Nu_isAtMost_30 : decode prog_8_method_14_code 30 = .ok (.if_icmp .ge 17, 3) := by decide +kernel
theorem d_Nu_isAtMost_33 : decode prog_8_method_14_code 33 = .ok (.aload_n 0, 1) := by decide +kernel
theorem d_Nu_isAtMost_34 : decode prog_8_method_14_code 34 = .ok (.getfield 7, 3) := by decide +kernel
theorem d_Nu_isAtMost_37 : decode prog_8_method_14_code 37 = .ok (.iload 5, 2) := by decide +kernel
theorem d_Nu_isAtMost_39 : decode prog_8_method_14_code 39 = .ok (.iaload, 1) := by decide +kernel
theorem d_Nu_isAtMost_40 : decode prog_8_method_14_code 40 = .ok (.i2l, 1) := by decide +kernel
theorem d_Nu_isAtMost_41 : decode prog_8_method_14_code 41 = .ok (.iload_n 1, 1) := by decide +kernel
theorem d_Nu_isAtMost_42 : decode prog_8_method_14_code 42 = .ok (.i2l, 1) := by decide +kernel
theorem d_Nu_isAtMost_43 : decode prog_8_method_14_code 43 = .ok (.lmul, 1) := by decide +kernel
theorem d_Nu_isAtMost_44 : decode prog_8_method_14_code 44 = .ok (.goto 4, 3) := by decide +kernel
theorem d_Nu_isAtMost_47 : decode prog_8_method_14_code 47 = .ok (.lconst 0, 1) := by decide +kernel
theorem d_Nu_isAtMost_48 : decode prog_8_method_14_code 48 = .ok (.lsub, 1) := by decide +kernel
theorem d_Nu_isAtMost_49 : decode prog_8_method_14_code 49 = .ok (.lstore 6, 2) := by decide +kernel
theorem d_Nu_isAtMost_51 : decode prog_8_method_14_code 51 = .ok (.lload 6, 2) := by decide +kernel
theorem d_Nu_isAtMost_53 : decode prog_8_method_14_code 53 = .ok (.lconst 0, 1) := by decide +kernel
theorem d_Nu_isAtMost_54 : decode prog_8_method_14_code 54 = .ok (.lcmp, 1) := by decide +kernel
theorem d_Nu_isAtMost_55 : decode prog_8_method_14_code 55 = .ok (.ifCond .ge 16, 3) := by decide +kernel
theorem d_Nu_isAtMost_58 : decode prog_8_method_14_code 58 = .ok (.ldc2_w 43, 3) := by decide +kernel
theorem d_Nu_isAtMost_61 : decode prog_8_method_14_code 61 = .ok (.lload 6, 2) := by decide +kernel
theorem d_Nu_isAtMost_63 : decode prog_8_method_14_code 63 = .ok (.lsub, 1) := by decide +kernel
theorem d_Nu_isAtMost_64 : decode prog_8_method_14_code 64 = .ok (.ldc2_w 24, 3) := by decide +kernel
theorem d_Nu_isAtMost_67 : decode prog_8_method_14_code 67 = .ok (.ldiv, 1) := by decide +kernel
theorem d_Nu_isAtMost_68 : decode prog_8_method_14_code 68 = .ok (.goto 4, 3) := by decide +kernel
theorem d_Nu_isAtMost_71 : decode prog_8_method_14_code 71 = .ok (.lconst 0, 1) := by decide +kernel
theorem d_Nu_isAtMost_72 : decode prog_8_method_14_code 72 = .ok (.lstore_n 3, 1) := by decide +kernel
theorem d_Nu_isAtMost_73 : decode prog_8_method_14_code 73 = .ok (.iinc 5 1, 3) := by decide +kernel
theorem d_Nu_isAtMost_76 : decode prog_8_method_14_code 76 = .ok (.goto (-71), 3) := by decide +kernel
theorem d_Nu_isAtMost_79 : decode prog_8_method_14_code 79 = .ok (.lload_n 3, 1) := by decide +kernel
theorem d_Nu_isAtMost_80 : decode prog_8_method_14_code 80 = .ok (.lconst 0, 1) := by decide +kernel
theorem d_Nu_isAtMost_81 : decode prog_8_method_14_code 81 = .ok (.lcmp, 1) := by decide +kernel
theorem d_Nu_isAtMost_82 : decode prog_8_method_14_code 82 = .ok (.ifCond .ne 7, 3) := by decide +kernel
theorem d_Nu_isAtMost_85 : decode prog_8_method_14_code 85 = .ok (.iconst 1, 1) := by decide +kernel
theorem d_Nu_isAtMost_86 : decode prog_8_method_14_code 86 = .ok (.goto 4, 3) := by decide +kernel
theorem d_Nu_isAtMost_89 : decode prog_8_method_14_code 89 = .ok (.iconst 0, 1) := by decide +kernel
theorem d_Nu_isAtMost_90 : decode prog_8_method_14_code 90 = .ok (.ireturn, 1) := by decide +kernel
def f_N_isAtMost (b_n : Int32) (b_d_n : Nat) (b_d : Nat → Int32) (w_n : Int32) (w_d_n : Nat) (w_d : Nat → Int32) (mul0 : Int32) : Option (Int32) :=
  ck_jn (fun (v3_1 : Int64) => ck_if ((lg_cmp v3_1 0) = 0) (some 1) (some 0)) <| fun k_79 => lo2 (fun k_5 (v5_3 : Int32) (v3_4 : Int64) => ck_if (w_n ≤ v5_3) (k_79 v3_4) (ck_in v5_3 w_d_n <| ck_jn (fun (s0_7 : Int64) => ck_nm ((((w_d v5_3.toNatClampNeg).toInt64) - v3_4) - s0_7) <| fun x_8 => ck_jn (fun (s0_9 : Int64) => ck_nm (v5_3 + 1) <| fun x_10 => k_5 x_10 s0_9) <| fun k_72 => ck_if (0 ≤ (lg_cmp x_8 0)) (k_72 0) (k_72 ((65535 - x_8) / 65536))) <| fun k_48 => ck_if (b_n ≤ v5_3) (k_48 0) (ck_in v5_3 b_d_n <| k_48 (((b_d v5_3.toNatClampNeg).toInt64) * mul0.toInt64)))) ck_F 0 0
set_option maxHeartbeats 4000000 in
set_option maxRecDepth 100000 in
theorem c_N_isAtMost (l : Launch) (dC : Nat → ClassId) (dI : Nat → Nat → Nat) (cI cJ cB cZ cT cN : ClassId) (sz : Nat) (h_b : Nat) (h_w : Nat) (h_b_d : Nat) (h_w_d : Nat) (b_n : Int32) (b_minus : Int32) (b_d_n : Nat) (b_d : Nat → Int32) (w_n : Int32) (w_minus : Int32) (w_d_n : Nat) (w_d : Nat → Int32) (mul0 : Int32) (r : Int32) (h : f_N_isAtMost b_n b_d_n b_d w_n w_d_n w_d mul0 = some r) : Met l y_Nu_isAtMost w_Nu_isAtMost ({ frames := 0, cells := 0, slots := 0, locals := 0 } : Room) (va_Pc [.ref h_b, .int mul0, .ref h_w] (fun U => U.heap.size = sz ∧ va_P (dC, dI) cl_all [(h_b, .inr (5, [.ref h_b_d, .int b_n, .int b_minus])), (h_b_d, .inl (cI, b_d_n, .inl b_d)), (h_w, .inr (5, [.ref h_w_d, .int w_n, .int w_minus])), (h_w_d, .inl (cI, w_d_n, .inl w_d))] U.heap ∧ va_K (dC, dI) cl_all [(cI, .int), (cJ, .long), (cB, .byte), (cZ, .boolean), (cT, .object "BasisWalk$Table"), (cN, .object "BasisWalkModel$Num")] U ∧ NW U ∧ va_D (fun _ => True) [(h_b, .inr (5, [.ref h_b_d, .int b_n, .int b_minus])), (h_b_d, .inl (cI, b_d_n, .inl b_d)), (h_w, .inr (5, [.ref h_w_d, .int w_n, .int w_minus])), (h_w_d, .inl (cI, w_d_n, .inl w_d))])) (va_Qi (fun (v : Int32) (_ : Unit) => v = r) (fun (u : Unit) (t : State) => va_P (dC, dI) cl_all [(h_b, .inr (5, [.ref h_b_d, .int b_n, .int b_minus])), (h_b_d, .inl (cI, b_d_n, .inl b_d)), (h_w, .inr (5, [.ref h_w_d, .int w_n, .int w_minus])), (h_w_d, .inl (cI, w_d_n, .inl w_d))] t.heap ∧ va_K (dC, dI) cl_all [(cI, .int), (cJ, .long), (cB, .byte), (cZ, .boolean), (cT, .object "BasisWalk$Table"), (cN, .object "BasisWalkModel$Num")] t ∧ va_D (va_A [(h_b, .inr (5, [.ref h_b_d, .int b_n, .int b_minus])), (h_b_d, .inl (cI, b_d_n, .inl b_d)), (h_w, .inr (5, [.ref h_w_d, .int w_n, .int w_minus])), (h_w_d, .inl (cI, w_d_n, .inl w_d))] sz) [(h_b, .inr (5, [.ref h_b_d, .int b_n, .int b_minus])), (h_b_d, .inl (cI, b_d_n, .inl b_d)), (h_w, .inr (5, [.ref h_w_d, .int w_n, .int w_minus])), (h_w_d, .inl (cI, w_d_n, .inl w_d))]) (va_A [(h_b, .inr (5, [.ref h_b_d, .int b_n, .int b_minus])), (h_b_d, .inl (cI, b_d_n, .inl b_d)), (h_w, .inr (5, [.ref h_w_d, .int w_n, .int w_minus])), (h_w_d, .inl (cI, w_d_n, .inl w_d))] sz)) 0 0 (va_A [(h_b, .inr (5, [.ref h_b_d, .int b_n, .int b_minus])), (h_b_d, .inl (cI, b_d_n, .inl b_d)), (h_w, .inr (5, [.ref h_w_d, .int w_n, .int w_minus])), (h_w_d, .inl (cI, w_d_n, .inl w_d))] sz) := by
  refine Met.ofW (cc := prog_8_method_14_code) (maxL := 8) (ret := (Option.some Jvm.ClassFile.FieldType.boolean)) (by decide) rfl ?_
  intro p e s m args below meth c s₁ B hml hv
  obtain ⟨hAR, hsz, hP, hK, hN, hD0⟩ := hv
  have hx := B.exec
  have hb := B.bytes
  have hr := B.returns
  have hts := atoms_spec (ws := w_Nu_isAtMost) B.pre
  have hown : s.vm.findClass "BasisWalkModel$Num" = some m.cls := findClass_of_methodNamed B.named
  have hlocks := B.notSynchronized
  clear B
  subst hsz
  have hD := hD0.self (sz := s.heap.size)
  generalize hAe : va_A [(h_b, .inr (5, [.ref h_b_d, .int b_n, .int b_minus])), (h_b_d, .inl (cI, b_d_n, .inl b_d)), (h_w, .inr (5, [.ref h_w_d, .int w_n, .int w_minus])), (h_w_d, .inl (cI, w_d_n, .inl w_d))] s.heap.size = A at hD ⊢
  have hA : ∀ q : Nat, s.heap.size ≤ q → A q := fun q h => by rw [← hAe]; exact Or.inr h
  clear hAe hD0
  have hS : va_S A s.heap s.heap [] := va_S.rf
  have hl := lv_entry ([.ref h_b, .int mul0, .ref h_w]) (n := 8) (Nat.le_of_ble_eq_true rfl)
  subst hAR
  rw [lg_entry_eq]
  generalize (lg_sl ([.ref h_b, .int mul0, .ref h_w]) ++ List.replicate (8 - (lg_sl ([.ref h_b, .int mul0, .ref h_w])).length) Slot.unset).toArray = ls at hl ⊢
  have hl : lv_has ls 8 [(0, .ref h_b), (1, .int mul0), (2, .ref h_w)] := hl
  change W p l e ({ frames := 0, cells := 0, slots := 0, locals := 0 } : Room) s m _ below meth c s.heap [] 0 0 _ _
  generalize hARe : ([.ref h_b, .int mul0, .ref h_w] : List Value).toArray = AR at hts ⊢
  clear hARe
  generalize hQ : MQ below _ AR s 0 0 A = QQ
  have fl0 := hts _ (List.mem_cons_of_mem _ tw_340)
  have iw1 := (fun w hw => List.mem_cons_of_mem _ (in_Nu w hw) : ∀ w ∈ u_ws "BasisWalkModel$Num" T_Nu 3, w ∈ w_Nu_isAtMost)
  have fl2 := hts _ (List.mem_cons_of_mem _ tw_338)
  have kc3 := hts _ (List.mem_cons_of_mem _ tw_559)
  have kc4 := hts _ (List.mem_cons_of_mem _ tw_497)
  obtain ⟨H, hHe⟩ : ∃ H : Heap, H = s.heap := ⟨_, rfl⟩
  rw [← hHe] at hP ⊢
  replace hS : va_S A s.heap H [] := by rw [hHe]; exact va_S.rf
  clear hHe
  unfold f_N_isAtMost at h
  refine lv_lconst (v := 0) hx hb d_Nu_isAtMost_0 (by decide) ?_
  refine lv_lstore_n (lv' := [(3, .long 0), (0, .ref h_b), (1, .int mul0), (2, .ref h_w)]) hx hb d_Nu_isAtMost_1 rfl hl (by decide) rfl (fun ls hl => ?_)
  refine lv_iconst (v := 0) hx hb d_Nu_isAtMost_2 (by decide) ?_
  refine lv_istore (lv' := [(5, .int 0), (3, .long 0), (0, .ref h_b), (1, .int mul0), (2, .ref h_w)]) hx hb d_Nu_isAtMost_3 hl (by decide) rfl (fun ls hl => ?_)
  refine ck_jn_W h (fun k' => ∀ (v3_1 : Int64), k' v3_1 = some r → ∀ (H : Heap) (locs : List Loc), va_P (dC, dI) cl_all [(h_b, .inr (5, [.ref h_b_d, .int b_n, .int b_minus])), (h_b_d, .inl (cI, b_d_n, .inl b_d)), (h_w, .inr (5, [.ref h_w_d, .int w_n, .int w_minus])), (h_w_d, .inl (cI, w_d_n, .inl w_d))] H → va_D A [(h_b, .inr (5, [.ref h_b_d, .int b_n, .int b_minus])), (h_b_d, .inl (cI, b_d_n, .inl b_d)), (h_w, .inr (5, [.ref h_w_d, .int w_n, .int w_minus])), (h_w_d, .inl (cI, w_d_n, .inl w_d))] → va_S A s.heap H locs → ∀ ls : Array Slot, lv_has ls 8 [(3, .long v3_1)] → W p l e ({ frames := 0, cells := 0, slots := 0, locals := 0 } : Room) s m AR below meth c H locs 0 0 QQ (F0 m 79 ls [])) ?_ ?_
  · intro v3_1 h H locs hP hD hS ls hl
    refine lv_lload_n hx hb d_Nu_isAtMost_79 rfl (lv_at hl 0 rfl) ?_
    refine lv_lconst (v := 0) hx hb d_Nu_isAtMost_80 (by decide) ?_
    refine W.lcmp hx hb d_Nu_isAtMost_81 ?_
    refine lv_if_ne (tgt := 89) hx hb d_Nu_isAtMost_82 (by decide) (fun c_2 => ?_) (fun c_2 => ?_)
    · replace h := ck_if_f h c_2
      refine lv_iconst (v := 0) hx hb d_Nu_isAtMost_89 (by decide) ?_
      obtain rfl := Option.some.inj h
      subst hQ
      exact W.zret (ty := .boolean) (v := 0) hx hb hr rfl (fun t ht hW => ⟨⟨0, (), rfl, rfl, by rw [ht]; exact hP, va_K.moved hW.alike hK, hD⟩, hS.F ht⟩) hS.2.2 d_Nu_isAtMost_90
    · replace h := ck_if_t h c_2
      refine lv_iconst (v := 1) hx hb d_Nu_isAtMost_85 (by decide) ?_
      refine lv_goto (tgt := 90) hx hb d_Nu_isAtMost_86 (by decide) ?_
      obtain rfl := Option.some.inj h
      subst hQ
      exact W.zret (ty := .boolean) (v := 1) hx hb hr rfl (fun t ht hW => ⟨⟨1, (), rfl, rfl, by rw [ht]; exact hP, va_K.moved hW.alike hK, hD⟩, hS.F ht⟩) hS.2.2 d_Nu_isAtMost_90
  · intro k_79 J_79 h
    refine lo2_W (r := r) (fun (v5_3 : Int32) (v3_4 : Int64) => ∀ (H : Heap) (locs : List Loc), va_P (dC, dI) cl_all [(h_b, .inr (5, [.ref h_b_d, .int b_n, .int b_minus])), (h_b_d, .inl (cI, b_d_n, .inl b_d)), (h_w, .inr (5, [.ref h_w_d, .int w_n, .int w_minus])), (h_w_d, .inl (cI, w_d_n, .inl w_d))] H → va_D A [(h_b, .inr (5, [.ref h_b_d, .int b_n, .int b_minus])), (h_b_d, .inl (cI, b_d_n, .inl b_d)), (h_w, .inr (5, [.ref h_w_d, .int w_n, .int w_minus])), (h_w_d, .inl (cI, w_d_n, .inl w_d))] → va_S A s.heap H locs → ∀ ls : Array Slot, lv_has ls 8 [(0, .ref h_b), (1, .int mul0), (2, .ref h_w), (3, .long v3_4), (5, .int v5_3)] → W p l e ({ frames := 0, cells := 0, slots := 0, locals := 0 } : Room) s m AR below meth c H locs 0 0 QQ (F0 m 5 ls [])) ?_ _ _ _ h _ _ hP hD hS _ (lv_sub hl [2, 3, 4, 1, 0] rfl)
    intro k_5 v5_3 v3_4 J_5 h H locs hP hD hS ls hl
    refine lv_iload hx hb d_Nu_isAtMost_5 (lv_at hl 4 rfl) ?_
    refine lv_aload_n hx hb d_Nu_isAtMost_7 rfl (lv_at hl 2 rfl) ?_
    refine va_get (D := (dC, dI)) (ci := 5) (v := .int w_n) (C := "BasisWalkModel$Num") (T := T_Nu) (N := 3) hx hb hts iw1 hown hK hP 2 rfl rfl 1 (by decide) fl0 (fun _ h9 => h9) rfl d_Nu_isAtMost_8 ?_
    refine lv_icmp_ge (tgt := 79) hx hb d_Nu_isAtMost_11 (by decide) (fun c_5 => ?_) (fun c_5 => ?_)
    · replace h := ck_if_t h c_5
      exact J_79 _ h _ _ hP hD hS _ (lv_sub hl [3] rfl)
    · replace h := ck_if_f h c_5
      refine lv_aload_n hx hb d_Nu_isAtMost_14 rfl (lv_at hl 2 rfl) ?_
      refine va_get (D := (dC, dI)) (ci := 5) (v := .ref h_w_d) (C := "BasisWalkModel$Num") (T := T_Nu) (N := 3) hx hb hts iw1 hown hK hP 2 rfl rfl 0 (by decide) fl2 (fun _ h9 => h9) rfl d_Nu_isAtMost_15 ?_
      refine lv_iload hx hb d_Nu_isAtMost_18 (lv_at hl 4 rfl) ?_
      obtain ⟨g_6, h⟩ := ck_in_s h
      refine va_iald hx hb hK hP 3 0 rfl rfl g_6 d_Nu_isAtMost_20 ?_
      refine lv_i2l hx hb d_Nu_isAtMost_21 rfl ?_
      refine lv_lload_n hx hb d_Nu_isAtMost_22 rfl (lv_at hl 3 rfl) ?_
      refine lv_lsub hx hb d_Nu_isAtMost_23 ?_
      refine lv_iload hx hb d_Nu_isAtMost_24 (lv_at hl 4 rfl) ?_
      refine lv_aload_n hx hb d_Nu_isAtMost_26 rfl (lv_at hl 0 rfl) ?_
      refine va_get (D := (dC, dI)) (ci := 5) (v := .int b_n) (C := "BasisWalkModel$Num") (T := T_Nu) (N := 3) hx hb hts iw1 hown hK hP 0 rfl rfl 1 (by decide) fl0 (fun _ h9 => h9) rfl d_Nu_isAtMost_27 ?_
      refine ck_jn_W h (fun k' => ∀ (s0_7 : Int64), k' s0_7 = some r → ∀ (H : Heap) (locs : List Loc), va_P (dC, dI) cl_all [(h_b, .inr (5, [.ref h_b_d, .int b_n, .int b_minus])), (h_b_d, .inl (cI, b_d_n, .inl b_d)), (h_w, .inr (5, [.ref h_w_d, .int w_n, .int w_minus])), (h_w_d, .inl (cI, w_d_n, .inl w_d))] H → va_D A [(h_b, .inr (5, [.ref h_b_d, .int b_n, .int b_minus])), (h_b_d, .inl (cI, b_d_n, .inl b_d)), (h_w, .inr (5, [.ref h_w_d, .int w_n, .int w_minus])), (h_w_d, .inl (cI, w_d_n, .inl w_d))] → va_S A s.heap H locs → ∀ ls : Array Slot, lv_has ls 8 [(0, .ref h_b), (1, .int mul0), (2, .ref h_w), (5, .int v5_3)] → W p l e ({ frames := 0, cells := 0, slots := 0, locals := 0 } : Room) s m AR below meth c H locs 0 0 QQ (F0 m 48 ls [.long s0_7, .long (((w_d v5_3.toNatClampNeg).toInt64) - v3_4)])) ?_ ?_
      · intro s0_7 h H locs hP hD hS ls hl
        refine lv_lsub hx hb d_Nu_isAtMost_48 ?_
        refine lv_topl (fun x_8 ex_8 => ?_)
        replace h := ck_nm_s h ex_8
        refine lv_lstore (lv' := [(6, .long x_8), (0, .ref h_b), (1, .int mul0), (2, .ref h_w), (5, .int v5_3)]) hx hb d_Nu_isAtMost_49 hl (by decide) rfl (fun ls hl => ?_)
        refine lv_lload hx hb d_Nu_isAtMost_51 (lv_at hl 0 rfl) ?_
        refine lv_lconst (v := 0) hx hb d_Nu_isAtMost_53 (by decide) ?_
        refine W.lcmp hx hb d_Nu_isAtMost_54 ?_
        refine ck_jn_W h (fun k' => ∀ (s0_9 : Int64), k' s0_9 = some r → ∀ (H : Heap) (locs : List Loc), va_P (dC, dI) cl_all [(h_b, .inr (5, [.ref h_b_d, .int b_n, .int b_minus])), (h_b_d, .inl (cI, b_d_n, .inl b_d)), (h_w, .inr (5, [.ref h_w_d, .int w_n, .int w_minus])), (h_w_d, .inl (cI, w_d_n, .inl w_d))] H → va_D A [(h_b, .inr (5, [.ref h_b_d, .int b_n, .int b_minus])), (h_b_d, .inl (cI, b_d_n, .inl b_d)), (h_w, .inr (5, [.ref h_w_d, .int w_n, .int w_minus])), (h_w_d, .inl (cI, w_d_n, .inl w_d))] → va_S A s.heap H locs → ∀ ls : Array Slot, lv_has ls 8 [(0, .ref h_b), (1, .int mul0), (2, .ref h_w), (5, .int v5_3)] → W p l e ({ frames := 0, cells := 0, slots := 0, locals := 0 } : Room) s m AR below meth c H locs 0 0 QQ (F0 m 72 ls [.long s0_9])) ?_ ?_
        · intro s0_9 h H locs hP hD hS ls hl
          refine lv_lstore_n (lv' := [(3, .long s0_9), (0, .ref h_b), (1, .int mul0), (2, .ref h_w), (5, .int v5_3)]) hx hb d_Nu_isAtMost_72 rfl hl (by decide) rfl (fun ls hl => ?_)
          obtain ⟨x_10, ex_10⟩ : ∃ y : Int32, y = v5_3 + 1 := ⟨_, rfl⟩
          replace h := ck_nm_s h ex_10
          refine lv_iinc (v := x_10) (lv' := [(5, .int x_10), (3, .long s0_9), (0, .ref h_b), (1, .int mul0), (2, .ref h_w)]) hx hb d_Nu_isAtMost_73 hl (k := 4) rfl (by rw [ex_10]; rfl) (by decide) rfl (fun ls hl => ?_)
          refine lv_goto (tgt := 5) hx hb d_Nu_isAtMost_76 (by decide) ?_
          exact J_5 _ _ h _ _ hP hD hS _ (lv_sub hl [2, 3, 4, 1, 0] rfl)
        · intro k_72 J_72 h
          refine lv_if_ge (tgt := 71) hx hb d_Nu_isAtMost_55 (by decide) (fun c_11 => ?_) (fun c_11 => ?_)
          · replace h := ck_if_t h c_11
            refine lv_lconst (v := 0) hx hb d_Nu_isAtMost_71 (by decide) ?_
            exact J_72 _ h _ _ hP hD hS _ (lv_sub hl [1, 2, 3, 4] rfl)
          · replace h := ck_if_f h c_11
            refine lv_ldc2 (v := 65535) hx hb hown kc3 d_Nu_isAtMost_58 ?_
            refine lv_lload hx hb d_Nu_isAtMost_61 (lv_at hl 0 rfl) ?_
            refine lv_lsub hx hb d_Nu_isAtMost_63 ?_
            refine lv_ldc2 (v := 65536) hx hb hown kc4 d_Nu_isAtMost_64 ?_
            refine lv_ldiv hx hb d_Nu_isAtMost_67 (by decide) ?_
            refine lv_goto (tgt := 72) hx hb d_Nu_isAtMost_68 (by decide) ?_
            exact J_72 _ h _ _ hP hD hS _ (lv_sub hl [1, 2, 3, 4] rfl)
      · intro k_48 J_48 h
        refine lv_icmp_ge (tgt := 47) hx hb d_Nu_isAtMost_30 (by decide) (fun c_12 => ?_) (fun c_12 => ?_)
        · replace h := ck_if_t h c_12
          refine lv_lconst (v := 0) hx hb d_Nu_isAtMost_47 (by decide) ?_
          exact J_48 _ h _ _ hP hD hS _ (lv_sub hl [0, 1, 2, 4] rfl)
        · replace h := ck_if_f h c_12
          refine lv_aload_n hx hb d_Nu_isAtMost_33 rfl (lv_at hl 0 rfl) ?_
          refine va_get (D := (dC, dI)) (ci := 5) (v := .ref h_b_d) (C := "BasisWalkModel$Num") (T := T_Nu) (N := 3) hx hb hts iw1 hown hK hP 0 rfl rfl 0 (by decide) fl2 (fun _ h9 => h9) rfl d_Nu_isAtMost_34 ?_
          refine lv_iload hx hb d_Nu_isAtMost_37 (lv_at hl 4 rfl) ?_
          obtain ⟨g_13, h⟩ := ck_in_s h
          refine va_iald hx hb hK hP 1 0 rfl rfl g_13 d_Nu_isAtMost_39 ?_
          refine lv_i2l hx hb d_Nu_isAtMost_40 rfl ?_
          refine lv_iload_n hx hb d_Nu_isAtMost_41 rfl (lv_at hl 1 rfl) ?_
          refine lv_i2l hx hb d_Nu_isAtMost_42 rfl ?_
          refine lv_lmul hx hb d_Nu_isAtMost_43 ?_
          refine lv_goto (tgt := 48) hx hb d_Nu_isAtMost_44 (by decide) ?_
          exact J_48 _ h _ _ hP hD hS _ (lv_sub hl [0, 1, 2, 4] rfl)
theorem d_Nu_often_0 : decode prog_8_method_13_code 0 = .ok (.iconst 1, 1) := by decide +kernel
theorem d_Nu_often_1 : decode prog_8_method_13_code 1 = .ok (.istore_n 2, 1) := by decide +kernel
theorem d_Nu_often_2 : decode prog_8_method_13_code 2 = .ok (.ldc 38, 2) := by decide +kernel
theorem d_Nu_often_4 : decode prog_8_method_13_code 4 = .ok (.istore_n 3, 1) := by decide +kernel
theorem d_Nu_often_5 : decode prog_8_method_13_code 5 = .ok (.iload_n 2, 1) := by decide +kernel
theorem d_Nu_often_6 : decode prog_8_method_13_code 6 = .ok (.iload_n 3, 1) := by decide +kernel
theorem d_Nu_often_7 : decode prog_8_method_13_code 7 = .ok (.if_icmp .ge 36, 3) := by decide +kernel
theorem d_Nu_often_10 : decode prog_8_method_13_code 10 = .ok (.iload_n 2, 1) := by decide +kernel
theorem d_Nu_often_11 : decode prog_8_method_13_code 11 = .ok (.iload_n 3, 1) := by decide +kernel
theorem d_Nu_often_12 : decode prog_8_method_13_code 12 = .ok (.iadd, 1) := by decide +kernel
theorem d_Nu_often_13 : decode prog_8_method_13_code 13 = .ok (.iconst 1, 1) := by decide +kernel
theorem d_Nu_often_14 : decode prog_8_method_13_code 14 = .ok (.iadd, 1) := by decide +kernel
theorem d_Nu_often_15 : decode prog_8_method_13_code 15 = .ok (.iconst 2, 1) := by decide +kernel
theorem d_Nu_often_16 : decode prog_8_method_13_code 16 = .ok (.idiv, 1) := by decide +kernel
theorem d_Nu_often_17 : decode prog_8_method_13_code 17 = .ok (.istore 4, 2) := by decide +kernel
theorem d_Nu_often_19 : decode prog_8_method_13_code 19 = .ok (.aload_n 1, 1) := by decide +kernel
theorem d_Nu_often_20 : decode prog_8_method_13_code 20 = .ok (.iload 4, 2) := by decide +kernel
theorem d_Nu_often_22 : decode prog_8_method_13_code 22 = .ok (.aload_n 0, 1) := by decide +kernel
theorem d_Nu_often_23 : decode prog_8_method_13_code 23 = .ok (.invokestatic 39, 3) := by decide +kernel
theorem d_Nu_often_26 : decode prog_8_method_13_code 26 = .ok (.ifCond .eq 9, 3) := by decide +kernel
theorem d_Nu_often_29 : decode prog_8_method_13_code 29 = .ok (.iload 4, 2) := by decide +kernel
theorem d_Nu_often_31 : decode prog_8_method_13_code 31 = .ok (.istore_n 2, 1) := by decide +kernel
theorem d_Nu_often_32 : decode prog_8_method_13_code 32 = .ok (.goto 8, 3) := by decide +kernel
theorem d_Nu_often_35 : decode prog_8_method_13_code 35 = .ok (.iload 4, 2) := by decide +kernel
theorem d_Nu_often_37 : decode prog_8_method_13_code 37 = .ok (.iconst 1, 1) := by decide +kernel
theorem d_Nu_often_38 : decode prog_8_method_13_code 38 = .ok (.isub, 1) := by decide +kernel
theorem d_Nu_often_39 : decode prog_8_method_13_code 39 = .ok (.istore_n 3, 1) := by decide +kernel
theorem d_Nu_often_40 : decode prog_8_method_13_code 40 = .ok (.goto (-35), 3) := by decide +kernel
theorem d_Nu_often_43 : decode prog_8_method_13_code 43 = .ok (.lconst 0, 1) := by decide +kernel
theorem d_Nu_often_44 : decode prog_8_method_13_code 44 = .ok (.lstore 4, 2) := by decide +kernel
theorem d_Nu_often_46 : decode prog_8_method_13_code 46 = .ok (.iconst 0, 1) := by decide +kernel
theorem d_Nu_often_47 : decode prog_8_method_13_code 47 = .ok (.istore 6, 2) := by decide +kernel
theorem d_Nu_often_49 : decode prog_8_method_13_code 49 = .ok (.iload 6, 2) := by decide +kernel
theorem d_Nu_often_51 : decode prog_8_method_13_code 51 = .ok (.aload_n 0, 1) := by decide +kernel
theorem d_Nu_often_52 : decode prog_8_method_13_code 52 = .ok (.getfield 13, 3) := by decide +kernel
theorem d_Nu_often_55 : decode prog_8_method_13_code 55 = .ok (.if_icmp .ge 87, 3) := by decide +kernel
theorem d_Nu_often_58 : decode prog_8_method_13_code 58 = .ok (.aload_n 0, 1) := by decide +kernel
theorem d_Nu_often_59 : decode prog_8_method_13_code 59 = .ok (.getfield 7, 3) := by decide +kernel
theorem d_Nu_often_62 : decode prog_8_method_13_code 62 = .ok (.iload 6, 2) := by decide +kernel
theorem d_Nu_often_64 : decode prog_8_method_13_code 64 = .ok (.iaload, 1) := by decide +kernel
theorem d_Nu_often_65 : decode prog_8_method_13_code 65 = .ok (.i2l, 1) := by decide +kernel
theorem d_Nu_often_66 : decode prog_8_method_13_code 66 = .ok (.lload 4, 2) := by decide +kernel
theorem d_Nu_often_68 : decode prog_8_method_13_code 68 = .ok (.lsub, 1) := by decide +kernel
theorem d_Nu_often_69 : decode prog_8_method_13_code 69 = .ok (.iload 6, 2) := by decide +kernel
theorem d_Nu_often_71 : decode prog_8_method_13_code 71 = .ok (.aload_n 1, 1) := by decide +kernel
theorem d_Nu_often_72 : decode prog_8_method_13_code 72 = .ok (.getfield 13, 3) := by decide +kernel
theorem d_Nu_often_75 : decode prog_8_method_13_code 75 = .ok (.if_icmp .ge 17, 3) := by decide +kernel
theorem d_Nu_often_78 : decode prog_8_method_13_code 78 = .ok (.aload_n 1, 1) := by decide +kernel
theorem d_Nu_often_79 : decode prog_8_method_13_code 79 = .ok (.getfield 7, 3) := by decide +kernel
theorem d_Nu_often_82 : decode prog_8_method_13_code 82 = .ok (.iload 6, 2) := by decide +kernel
theorem d_Nu_often_84 : decode prog_8_method_13_code 84 = .ok (.iaload, 1) := by decide +kernel
theorem d_Nu_often_85 : decode prog_8_method_13_code 85 = .ok (.i2l, 1) := by decide +kernel
theorem d_Nu_often_86 : decode prog_8_method_13_code 86 = .ok (.iload_n 2, 1) := by decide +kernel
theorem d_Nu_often_87 : decode prog_8_method_13_code 87 = .ok (.i2l, 1) := by decide +kernel
theorem d_Nu_often_88 : decode prog_8_method_13_code 88 = .ok (.lmul, 1) := by decide +kernel
theorem d_Nu_often_89 : decode prog_8_method_13_code 89 = .ok (.goto 4, 3) := by decide +kernel
theorem d_Nu_often_92 : decode prog_8_method_13_code 92 = .ok (.lconst 0, 1) := by decide +kernel
theorem d_Nu_often_93 : decode prog_8_method_13_code 93 = .ok (.lsub, 1) := by decide +kernel
theorem d_Nu_often_94 : decode prog_8_method_13_code 94 = .ok (.lstore 7, 2) := by decide +kernel
theorem d_Nu_often_96 : decode prog_8_method_13_code 96 = .ok (.lload 7, 2) := by decide +kernel
theorem d_Nu_often_98 : decode prog_8_method_13_code 98 = .ok (.lconst 0, 1) := by decide +kernel
theorem d_Nu_often_99 : decode prog_8_method_13_code 99 = .ok (.lcmp, 1) := by decide +kernel
theorem d_Nu_often_100 : decode prog_8_method_13_code 100 = .ok (.ifCond .ge 16, 3) := by decide +kernel
theorem d_Nu_often_103 : decode prog_8_method_13_code 103 = .ok (.ldc2_w 43, 3) := by decide +kernel
theorem d_Nu_often_106 : decode prog_8_method_13_code 106 = .ok (.lload 7, 2) := by decide +kernel
theorem d_Nu_often_108 : decode prog_8_method_13_code 108 = .ok (.lsub, 1) := by decide +kernel
theorem d_Nu_often_109 : decode prog_8_method_13_code 109 = .ok (.ldc2_w 24, 3) := by decide +kernel
theorem d_Nu_often_112 : decode prog_8_method_13_code 112 = .ok (.ldiv, 1) := by decide +kernel
theorem d_Nu_often_113 : decode prog_8_method_13_code 113 = .ok (.goto 4, 3) := by decide +kernel
theorem d_Nu_often_116 : decode prog_8_method_13_code 116 = .ok (.lconst 0, 1) := by decide +kernel
theorem d_Nu_often_117 : decode prog_8_method_13_code 117 = .ok (.lstore 4, 2) := by decide +kernel
theorem d_Nu_often_119 : decode prog_8_method_13_code 119 = .ok (.aload_n 0, 1) := by decide +kernel
theorem d_Nu_often_120 : decode prog_8_method_13_code 120 = .ok (.getfield 7, 3) := by decide +kernel
theorem d_Nu_often_123 : decode prog_8_method_13_code 123 = .ok (.iload 6, 2) := by decide +kernel
theorem d_Nu_often_125 : decode prog_8_method_13_code 125 = .ok (.lload 7, 2) := by decide +kernel
theorem d_Nu_often_127 : decode prog_8_method_13_code 127 = .ok (.ldc2_w 24, 3) := by decide +kernel
theorem d_Nu_often_130 : decode prog_8_method_13_code 130 = .ok (.lload 4, 2) := by decide +kernel
theorem d_Nu_often_132 : decode prog_8_method_13_code 132 = .ok (.lmul, 1) := by decide +kernel
theorem d_Nu_often_133 : decode prog_8_method_13_code 133 = .ok (.ladd, 1) := by decide +kernel
theorem d_Nu_often_134 : decode prog_8_method_13_code 134 = .ok (.l2i, 1) := by decide +kernel
theorem d_Nu_often_135 : decode prog_8_method_13_code 135 = .ok (.iastore, 1) := by decide +kernel
theorem d_Nu_often_136 : decode prog_8_method_13_code 136 = .ok (.iinc 6 1, 3) := by decide +kernel
theorem d_Nu_often_139 : decode prog_8_method_13_code 139 = .ok (.goto (-90), 3) := by decide +kernel
theorem d_Nu_often_142 : decode prog_8_method_13_code 142 = .ok (.aload_n 0, 1) := by decide +kernel
theorem d_Nu_often_143 : decode prog_8_method_13_code 143 = .ok (.invokevirtual 27, 3) := by decide +kernel
theorem d_Nu_often_146 : decode prog_8_method_13_code 146 = .ok (.iload_n 2, 1) := by decide +kernel
theorem d_Nu_often_147 : decode prog_8_method_13_code 147 = .ok (.ireturn, 1) := by decide +kernel
def f_N_often (w_n : Int32) (w_minus : Int32) (w_d_n : Nat) (w_d : Nat → Int32) (b_n : Int32) (b_d_n : Nat) (b_d : Nat → Int32) : Option (Int32 × Int32 × Int32 × (Nat → Int32)) :=
  ck_jn (fun (v2_1 : Int32) => ck_jn (fun (w_2 : Nat → Int32) => ck_b2 (f_N_trim w_n w_minus w_d_n w_2) <| fun u_3 u_4 => some (v2_1, u_3, u_4, w_2)) <| fun k_142 => lo3 (fun k_49 (v6_6 : Int32) (v4_7 : Int64) (w_8 : Nat → Int32) => ck_if (w_n ≤ v6_6) (k_142 w_8) (ck_in v6_6 w_d_n <| ck_jn (fun (s0_11 : Int64) => ck_nm ((((w_8 v6_6.toNatClampNeg).toInt64) - v4_7) - s0_11) <| fun x_12 => ck_jn (fun (s0_13 : Int64) => ck_in v6_6 w_d_n <| ck_nm (v6_6 + 1) <| fun x_15 => k_49 x_15 s0_13 (upd w_8 v6_6.toNatClampNeg ((x_12 + (65536 * s0_13)).toInt32))) <| fun k_117 => ck_if (0 ≤ (lg_cmp x_12 0)) (k_117 0) (k_117 ((65535 - x_12) / 65536))) <| fun k_93 => ck_if (b_n ≤ v6_6) (k_93 0) (ck_in v6_6 b_d_n <| k_93 (((b_d v6_6.toNatClampNeg).toInt64) * v2_1.toInt64)))) ck_F 0 0 w_d) <| fun k_43 => lo2 (fun k_5 (v3_19 : Int32) (v2_20 : Int32) => ck_if (v3_19 ≤ v2_20) (k_43 v2_20) (ck_nm (((v2_20 + v3_19) + 1) / 2) <| fun x_22 => ck_b1 (f_N_isAtMost b_n b_d_n b_d w_n w_d_n w_d x_22) <| fun r_23 => ck_jn (fun (v2_25 : Int32) (v3_26 : Int32) => k_5 v3_26 v2_25) <| fun k_40 => ck_if (r_23 = 0) (ck_nm (x_22 - 1) <| fun x_28 => k_40 v2_20 x_28) (k_40 x_22 v3_19))) ck_F 65535 1
set_option maxHeartbeats 4000000 in
set_option maxRecDepth 100000 in
theorem c_N_often (l : Launch) (dC : Nat → ClassId) (dI : Nat → Nat → Nat) (cI cJ cB cZ cT cN : ClassId) (sz : Nat) (h_w : Nat) (h_b : Nat) (h_w_d : Nat) (h_b_d : Nat) (w_n : Int32) (w_minus : Int32) (w_d_n : Nat) (w_d : Nat → Int32) (b_n : Int32) (b_minus : Int32) (b_d_n : Nat) (b_d : Nat → Int32) (r : Int32 × Int32 × Int32 × (Nat → Int32)) (h : f_N_often w_n w_minus w_d_n w_d b_n b_d_n b_d = some r) : Met l y_Nu_often w_Nu_often ({ frames := 1, cells := 0, slots := 0, locals := 27 } : Room) (va_Pc [.ref h_w, .ref h_b] (fun U => U.heap.size = sz ∧ va_P (dC, dI) cl_all [(h_w, .inr (5, [.ref h_w_d, .int w_n, .int w_minus])), (h_w_d, .inl (cI, w_d_n, .inl w_d)), (h_b, .inr (5, [.ref h_b_d, .int b_n, .int b_minus])), (h_b_d, .inl (cI, b_d_n, .inl b_d))] U.heap ∧ va_K (dC, dI) cl_all [(cI, .int), (cJ, .long), (cB, .byte), (cZ, .boolean), (cT, .object "BasisWalk$Table"), (cN, .object "BasisWalkModel$Num")] U ∧ NW U ∧ va_D (fun _ => True) [(h_w, .inr (5, [.ref h_w_d, .int w_n, .int w_minus])), (h_w_d, .inl (cI, w_d_n, .inl w_d)), (h_b, .inr (5, [.ref h_b_d, .int b_n, .int b_minus])), (h_b_d, .inl (cI, b_d_n, .inl b_d))])) (va_Qi (fun (v : Int32) (u : Int32 × Int32 × (Nat → Int32)) => (v, u) = r) (fun (u : Int32 × Int32 × (Nat → Int32)) (t : State) => va_P (dC, dI) cl_all [(h_w, .inr (5, [.ref h_w_d, .int u.1, .int u.2.1])), (h_w_d, .inl (cI, w_d_n, .inl u.2.2)), (h_b, .inr (5, [.ref h_b_d, .int b_n, .int b_minus])), (h_b_d, .inl (cI, b_d_n, .inl b_d))] t.heap ∧ va_K (dC, dI) cl_all [(cI, .int), (cJ, .long), (cB, .byte), (cZ, .boolean), (cT, .object "BasisWalk$Table"), (cN, .object "BasisWalkModel$Num")] t ∧ va_D (va_A [(h_w, .inr (5, [.ref h_w_d, .int w_n, .int w_minus])), (h_w_d, .inl (cI, w_d_n, .inl w_d)), (h_b, .inr (5, [.ref h_b_d, .int b_n, .int b_minus])), (h_b_d, .inl (cI, b_d_n, .inl b_d))] sz) [(h_w, .inr (5, [.ref h_w_d, .int u.1, .int u.2.1])), (h_w_d, .inl (cI, w_d_n, .inl u.2.2)), (h_b, .inr (5, [.ref h_b_d, .int b_n, .int b_minus])), (h_b_d, .inl (cI, b_d_n, .inl b_d))]) (va_A [(h_w, .inr (5, [.ref h_w_d, .int w_n, .int w_minus])), (h_w_d, .inl (cI, w_d_n, .inl w_d)), (h_b, .inr (5, [.ref h_b_d, .int b_n, .int b_minus])), (h_b_d, .inl (cI, b_d_n, .inl b_d))] sz)) 0 0 (va_A [(h_w, .inr (5, [.ref h_w_d, .int w_n, .int w_minus])), (h_w_d, .inl (cI, w_d_n, .inl w_d)), (h_b, .inr (5, [.ref h_b_d, .int b_n, .int b_minus])), (h_b_d, .inl (cI, b_d_n, .inl b_d))] sz) := by
  refine Met.ofW (cc := prog_8_method_13_code) (maxL := 9) (ret := (Option.some Jvm.ClassFile.FieldType.int)) (by decide) rfl ?_
  intro p e s m args below meth c s₁ B hml hv
  obtain ⟨hAR, hsz, hP, hK, hN, hD0⟩ := hv
  have hx := B.exec
  have hb := B.bytes
  have hr := B.returns
  have hts := atoms_spec (ws := w_Nu_often) B.pre
  have hown : s.vm.findClass "BasisWalkModel$Num" = some m.cls := findClass_of_methodNamed B.named
  have hlocks := B.notSynchronized
  clear B
  subst hsz
  have hD := hD0.self (sz := s.heap.size)
  generalize hAe : va_A [(h_w, .inr (5, [.ref h_w_d, .int w_n, .int w_minus])), (h_w_d, .inl (cI, w_d_n, .inl w_d)), (h_b, .inr (5, [.ref h_b_d, .int b_n, .int b_minus])), (h_b_d, .inl (cI, b_d_n, .inl b_d))] s.heap.size = A at hD ⊢
  have hA : ∀ q : Nat, s.heap.size ≤ q → A q := fun q h => by rw [← hAe]; exact Or.inr h
  clear hAe hD0
  have hS : va_S A s.heap s.heap [] := va_S.rf
  have hl := lv_entry ([.ref h_w, .ref h_b]) (n := 9) (Nat.le_of_ble_eq_true rfl)
  subst hAR
  rw [lg_entry_eq]
  generalize (lg_sl ([.ref h_w, .ref h_b]) ++ List.replicate (9 - (lg_sl ([.ref h_w, .ref h_b])).length) Slot.unset).toArray = ls at hl ⊢
  have hl : lv_has ls 9 [(0, .ref h_w), (1, .ref h_b)] := hl
  change W p l e ({ frames := 1, cells := 0, slots := 0, locals := 27 } : Room) s m _ below meth c s.heap [] 0 0 _ _
  generalize hARe : ([.ref h_w, .ref h_b] : List Value).toArray = AR at hts ⊢
  clear hARe
  generalize hQ : MQ below _ AR s 0 0 A = QQ
  have kc0 := hts _ (List.mem_cons_of_mem _ tw_555)
  have fl1 := hts _ (List.mem_cons_of_mem _ tw_340)
  have iw2 := (fun w hw => List.mem_cons_of_mem _ (in_Nu w hw) : ∀ w ∈ u_ws "BasisWalkModel$Num" T_Nu 3, w ∈ w_Nu_often)
  have fl3 := hts _ (List.mem_cons_of_mem _ tw_338)
  have kc4 := hts _ (List.mem_cons_of_mem _ tw_497)
  have kc5 := hts _ (List.mem_cons_of_mem _ tw_559)
  obtain ⟨H, hHe⟩ : ∃ H : Heap, H = s.heap := ⟨_, rfl⟩
  rw [← hHe] at hP ⊢
  replace hS : va_S A s.heap H [] := by rw [hHe]; exact va_S.rf
  clear hHe
  unfold f_N_often at h
  refine lv_iconst (v := 1) hx hb d_Nu_often_0 (by decide) ?_
  refine lv_istore_n (lv' := [(2, .int 1), (0, .ref h_w), (1, .ref h_b)]) hx hb d_Nu_often_1 rfl hl (by decide) rfl (fun ls hl => ?_)
  refine lv_ldc (v := 65535) hx hb hown kc0 d_Nu_often_2 ?_
  refine lv_istore_n (lv' := [(3, .int 65535), (2, .int 1), (0, .ref h_w), (1, .ref h_b)]) hx hb d_Nu_often_4 rfl hl (by decide) rfl (fun ls hl => ?_)
  refine ck_jn_W h (fun k' => ∀ (v2_1 : Int32), k' v2_1 = some r → ∀ (H : Heap) (locs : List Loc), va_P (dC, dI) cl_all [(h_w, .inr (5, [.ref h_w_d, .int w_n, .int w_minus])), (h_w_d, .inl (cI, w_d_n, .inl w_d)), (h_b, .inr (5, [.ref h_b_d, .int b_n, .int b_minus])), (h_b_d, .inl (cI, b_d_n, .inl b_d))] H → va_D A [(h_w, .inr (5, [.ref h_w_d, .int w_n, .int w_minus])), (h_w_d, .inl (cI, w_d_n, .inl w_d)), (h_b, .inr (5, [.ref h_b_d, .int b_n, .int b_minus])), (h_b_d, .inl (cI, b_d_n, .inl b_d))] → va_S A s.heap H locs → ∀ ls : Array Slot, lv_has ls 9 [(0, .ref h_w), (1, .ref h_b), (2, .int v2_1)] → W p l e ({ frames := 1, cells := 0, slots := 0, locals := 27 } : Room) s m AR below meth c H locs 0 0 QQ (F0 m 43 ls [])) ?_ ?_
  · intro v2_1 h H locs hP hD hS ls hl
    refine lv_lconst (v := 0) hx hb d_Nu_often_43 (by decide) ?_
    refine lv_lstore (lv' := [(4, .long 0), (0, .ref h_w), (1, .ref h_b), (2, .int v2_1)]) hx hb d_Nu_often_44 hl (by decide) rfl (fun ls hl => ?_)
    refine lv_iconst (v := 0) hx hb d_Nu_often_46 (by decide) ?_
    refine lv_istore (lv' := [(6, .int 0), (4, .long 0), (0, .ref h_w), (1, .ref h_b), (2, .int v2_1)]) hx hb d_Nu_often_47 hl (by decide) rfl (fun ls hl => ?_)
    refine ck_jn_W h (fun k' => ∀ (w_2 : Nat → Int32), k' w_2 = some r → ∀ (H : Heap) (locs : List Loc), va_P (dC, dI) cl_all [(h_w, .inr (5, [.ref h_w_d, .int w_n, .int w_minus])), (h_w_d, .inl (cI, w_d_n, .inl w_2)), (h_b, .inr (5, [.ref h_b_d, .int b_n, .int b_minus])), (h_b_d, .inl (cI, b_d_n, .inl b_d))] H → va_D A [(h_w, .inr (5, [.ref h_w_d, .int w_n, .int w_minus])), (h_w_d, .inl (cI, w_d_n, .inl w_2)), (h_b, .inr (5, [.ref h_b_d, .int b_n, .int b_minus])), (h_b_d, .inl (cI, b_d_n, .inl b_d))] → va_S A s.heap H locs → ∀ ls : Array Slot, lv_has ls 9 [(0, .ref h_w), (2, .int v2_1)] → W p l e ({ frames := 1, cells := 0, slots := 0, locals := 27 } : Room) s m AR below meth c H locs 0 0 QQ (F0 m 142 ls [])) ?_ ?_
    · intro w_2 h H locs hP hD hS ls hl
      refine lv_aload_n hx hb d_Nu_often_142 rfl (lv_at hl 0 rfl) ?_
      obtain ⟨u_3, u_4, hc_5, h⟩ := ck_b2_s h
      have hPc := hP.sub (ws' := [(h_w, .inr (5, [.ref h_w_d, .int w_n, .int w_minus])), (h_w_d, .inl (cI, w_d_n, .inl w_2))]) [0, 1] rfl
      have hDc := hD.sub (ws' := [(h_w, .inr (5, [.ref h_w_d, .int w_n, .int w_minus])), (h_w_d, .inl (cI, w_d_n, .inl w_2))]) [0, 1] (by decide) rfl
      have hFc := va_free (wc := [(h_w, .inr (5, [.ref h_w_d, .int w_n, .int w_minus])), (h_w_d, .inl (cI, w_d_n, .inl w_2))]) hD hS hA [0, 1] rfl
      refine va_callv (va_runV (As := []) (rest := []) ⟨hx, hb, hml, hown, hts⟩ (c_N_trim l dC dI cI cJ cB cZ cT cN H.size h_w h_w_d w_n w_minus w_d_n w_2 _ hc_5) (cwV 0 hts (tb_V tw_526 tw_527 tw_528 tw_7 tw_529) rfl rfl rfl (by decide +kernel) ⟨Nat.le_of_ble_eq_true rfl, Nat.le_of_ble_eq_true rfl⟩) ⟨fun a U g mk q => by obtain ⟨q0, q1, qP, qK, qN, qD⟩ := q; exact ⟨q0, q1, qP, va_K.moved (u := U) (U := U.calling g mk a) (Vm.Alike.refl U.vm) qK, qN.same rfl, qD⟩, va_recv hK hPc (ci := 5) (q0 := 0) rfl rfl, fun U hU hW => ⟨rfl, by rw [hU], by rw [hU]; exact hPc, va_K.moved hW.alike hK, hN.warm hW, hDc.weaken (fun _ _ _ _ => trivial)⟩⟩ rfl rfl hl.1 rfl (lv_room (Nat.le_of_ble_eq_true rfl)) d_Nu_often_143 ⟨Nat.zero_le _, Nat.zero_le _⟩) hS (fun q _ h => hFc q h) hFc (fun u t H1 locs ht hvm hw hB hz1 hk1 hS => ?_)
      replace hw := hw.symm
      subst hw
      obtain ⟨hP1, -, hD1⟩ := hB
      rw [ht] at hP1
      obtain ⟨hP, hD⟩ := va_join (wr := [(h_b, .inr (5, [.ref h_b_d, .int b_n, .int b_minus])), (h_b_d, .inl (cI, b_d_n, .inl b_d))]) (w1 := [(h_w, .inr (5, [.ref h_w_d, .int u_3, .int u_4])), (h_w_d, .inl (cI, w_d_n, .inl w_2))]) hP hD [0, 1] [2, 3] rfl rfl (by decide) (by decide) hk1 hFc hP1 hD1
      generalize H1 = H at hP hS ⊢
      have hP : va_P (dC, dI) cl_all [(h_w, .inr (5, [.ref h_w_d, .int u_3, .int u_4])), (h_w_d, .inl (cI, w_d_n, .inl w_2)), (h_b, .inr (5, [.ref h_b_d, .int b_n, .int b_minus])), (h_b_d, .inl (cI, b_d_n, .inl b_d))] H := hP.sub [2, 3, 0, 1] rfl
      have hD : va_D A [(h_w, .inr (5, [.ref h_w_d, .int u_3, .int u_4])), (h_w_d, .inl (cI, w_d_n, .inl w_2)), (h_b, .inr (5, [.ref h_b_d, .int b_n, .int b_minus])), (h_b_d, .inl (cI, b_d_n, .inl b_d))] := hD.sub [2, 3, 0, 1] (by decide) rfl
      refine lv_iload_n hx hb d_Nu_often_146 rfl (lv_at hl 1 rfl) ?_
      obtain rfl := Option.some.inj h
      subst hQ
      exact W.iret (v := v2_1) hx hb hr (fun t ht hW => ⟨⟨v2_1, (u_3, u_4, w_2), rfl, rfl, by rw [ht]; exact hP, va_K.moved hW.alike hK, hD⟩, hS.F ht⟩) hS.2.2 d_Nu_often_147
    · intro k_142 J_142 h
      refine lo3_W (r := r) (fun (v6_6 : Int32) (v4_7 : Int64) (w_8 : Nat → Int32) => ∀ (H : Heap) (locs : List Loc), va_P (dC, dI) cl_all [(h_w, .inr (5, [.ref h_w_d, .int w_n, .int w_minus])), (h_w_d, .inl (cI, w_d_n, .inl w_8)), (h_b, .inr (5, [.ref h_b_d, .int b_n, .int b_minus])), (h_b_d, .inl (cI, b_d_n, .inl b_d))] H → va_D A [(h_w, .inr (5, [.ref h_w_d, .int w_n, .int w_minus])), (h_w_d, .inl (cI, w_d_n, .inl w_8)), (h_b, .inr (5, [.ref h_b_d, .int b_n, .int b_minus])), (h_b_d, .inl (cI, b_d_n, .inl b_d))] → va_S A s.heap H locs → ∀ ls : Array Slot, lv_has ls 9 [(0, .ref h_w), (1, .ref h_b), (2, .int v2_1), (4, .long v4_7), (6, .int v6_6)] → W p l e ({ frames := 1, cells := 0, slots := 0, locals := 27 } : Room) s m AR below meth c H locs 0 0 QQ (F0 m 49 ls [])) ?_ _ _ _ _ h _ _ hP hD hS _ (lv_sub hl [2, 3, 4, 1, 0] rfl)
      intro k_49 v6_6 v4_7 w_8 J_49 h H locs hP hD hS ls hl
      refine lv_iload hx hb d_Nu_often_49 (lv_at hl 4 rfl) ?_
      refine lv_aload_n hx hb d_Nu_often_51 rfl (lv_at hl 0 rfl) ?_
      refine va_get (D := (dC, dI)) (ci := 5) (v := .int w_n) (C := "BasisWalkModel$Num") (T := T_Nu) (N := 3) hx hb hts iw2 hown hK hP 0 rfl rfl 1 (by decide) fl1 (fun _ h9 => h9) rfl d_Nu_often_52 ?_
      refine lv_icmp_ge (tgt := 142) hx hb d_Nu_often_55 (by decide) (fun c_9 => ?_) (fun c_9 => ?_)
      · replace h := ck_if_t h c_9
        exact J_142 _ h _ _ hP hD hS _ (lv_sub hl [0, 2] rfl)
      · replace h := ck_if_f h c_9
        refine lv_aload_n hx hb d_Nu_often_58 rfl (lv_at hl 0 rfl) ?_
        refine va_get (D := (dC, dI)) (ci := 5) (v := .ref h_w_d) (C := "BasisWalkModel$Num") (T := T_Nu) (N := 3) hx hb hts iw2 hown hK hP 0 rfl rfl 0 (by decide) fl3 (fun _ h9 => h9) rfl d_Nu_often_59 ?_
        refine lv_iload hx hb d_Nu_often_62 (lv_at hl 4 rfl) ?_
        obtain ⟨g_10, h⟩ := ck_in_s h
        refine va_iald hx hb hK hP 1 0 rfl rfl g_10 d_Nu_often_64 ?_
        refine lv_i2l hx hb d_Nu_often_65 rfl ?_
        refine lv_lload hx hb d_Nu_often_66 (lv_at hl 3 rfl) ?_
        refine lv_lsub hx hb d_Nu_often_68 ?_
        refine lv_iload hx hb d_Nu_often_69 (lv_at hl 4 rfl) ?_
        refine lv_aload_n hx hb d_Nu_often_71 rfl (lv_at hl 1 rfl) ?_
        refine va_get (D := (dC, dI)) (ci := 5) (v := .int b_n) (C := "BasisWalkModel$Num") (T := T_Nu) (N := 3) hx hb hts iw2 hown hK hP 2 rfl rfl 1 (by decide) fl1 (fun _ h9 => h9) rfl d_Nu_often_72 ?_
        refine ck_jn_W h (fun k' => ∀ (s0_11 : Int64), k' s0_11 = some r → ∀ (H : Heap) (locs : List Loc), va_P (dC, dI) cl_all [(h_w, .inr (5, [.ref h_w_d, .int w_n, .int w_minus])), (h_w_d, .inl (cI, w_d_n, .inl w_8)), (h_b, .inr (5, [.ref h_b_d, .int b_n, .int b_minus])), (h_b_d, .inl (cI, b_d_n, .inl b_d))] H → va_D A [(h_w, .inr (5, [.ref h_w_d, .int w_n, .int w_minus])), (h_w_d, .inl (cI, w_d_n, .inl w_8)), (h_b, .inr (5, [.ref h_b_d, .int b_n, .int b_minus])), (h_b_d, .inl (cI, b_d_n, .inl b_d))] → va_S A s.heap H locs → ∀ ls : Array Slot, lv_has ls 9 [(0, .ref h_w), (1, .ref h_b), (2, .int v2_1), (6, .int v6_6)] → W p l e ({ frames := 1, cells := 0, slots := 0, locals := 27 } : Room) s m AR below meth c H locs 0 0 QQ (F0 m 93 ls [.long s0_11, .long (((w_8 v6_6.toNatClampNeg).toInt64) - v4_7)])) ?_ ?_
        · intro s0_11 h H locs hP hD hS ls hl
          refine lv_lsub hx hb d_Nu_often_93 ?_
          refine lv_topl (fun x_12 ex_12 => ?_)
          replace h := ck_nm_s h ex_12
          refine lv_lstore (lv' := [(7, .long x_12), (0, .ref h_w), (1, .ref h_b), (2, .int v2_1), (6, .int v6_6)]) hx hb d_Nu_often_94 hl (by decide) rfl (fun ls hl => ?_)
          refine lv_lload hx hb d_Nu_often_96 (lv_at hl 0 rfl) ?_
          refine lv_lconst (v := 0) hx hb d_Nu_often_98 (by decide) ?_
          refine W.lcmp hx hb d_Nu_often_99 ?_
          refine ck_jn_W h (fun k' => ∀ (s0_13 : Int64), k' s0_13 = some r → ∀ (H : Heap) (locs : List Loc), va_P (dC, dI) cl_all [(h_w, .inr (5, [.ref h_w_d, .int w_n, .int w_minus])), (h_w_d, .inl (cI, w_d_n, .inl w_8)), (h_b, .inr (5, [.ref h_b_d, .int b_n, .int b_minus])), (h_b_d, .inl (cI, b_d_n, .inl b_d))] H → va_D A [(h_w, .inr (5, [.ref h_w_d, .int w_n, .int w_minus])), (h_w_d, .inl (cI, w_d_n, .inl w_8)), (h_b, .inr (5, [.ref h_b_d, .int b_n, .int b_minus])), (h_b_d, .inl (cI, b_d_n, .inl b_d))] → va_S A s.heap H locs → ∀ ls : Array Slot, lv_has ls 9 [(0, .ref h_w), (1, .ref h_b), (2, .int v2_1), (6, .int v6_6), (7, .long x_12)] → W p l e ({ frames := 1, cells := 0, slots := 0, locals := 27 } : Room) s m AR below meth c H locs 0 0 QQ (F0 m 117 ls [.long s0_13])) ?_ ?_
          · intro s0_13 h H locs hP hD hS ls hl
            refine lv_lstore (lv' := [(4, .long s0_13), (0, .ref h_w), (1, .ref h_b), (2, .int v2_1), (6, .int v6_6), (7, .long x_12)]) hx hb d_Nu_often_117 hl (by decide) rfl (fun ls hl => ?_)
            refine lv_aload_n hx hb d_Nu_often_119 rfl (lv_at hl 1 rfl) ?_
            refine va_get (D := (dC, dI)) (ci := 5) (v := .ref h_w_d) (C := "BasisWalkModel$Num") (T := T_Nu) (N := 3) hx hb hts iw2 hown hK hP 0 rfl rfl 0 (by decide) fl3 (fun _ h9 => h9) rfl d_Nu_often_120 ?_
            refine lv_iload hx hb d_Nu_often_123 (lv_at hl 4 rfl) ?_
            refine lv_lload hx hb d_Nu_often_125 (lv_at hl 5 rfl) ?_
            refine lv_ldc2 (v := 65536) hx hb hown kc4 d_Nu_often_127 ?_
            refine lv_lload hx hb d_Nu_often_130 (lv_at hl 0 rfl) ?_
            refine lv_lmul hx hb d_Nu_often_132 ?_
            refine lv_ladd hx hb d_Nu_often_133 ?_
            refine lv_l2i hx hb d_Nu_often_134 rfl ?_
            obtain ⟨g_14, h⟩ := ck_in_s h
            refine va_iast hx hb hK hP hD hS 1 0 rfl rfl g_14 d_Nu_often_135 (fun H locs hP hD hS => ?_)
            have hP : va_P (dC, dI) cl_all [(h_w, .inr (5, [.ref h_w_d, .int w_n, .int w_minus])), (h_w_d, .inl (cI, w_d_n, .inl (upd w_8 v6_6.toNatClampNeg ((x_12 + (65536 * s0_13)).toInt32)))), (h_b, .inr (5, [.ref h_b_d, .int b_n, .int b_minus])), (h_b_d, .inl (cI, b_d_n, .inl b_d))] H := hP
            have hD : va_D A [(h_w, .inr (5, [.ref h_w_d, .int w_n, .int w_minus])), (h_w_d, .inl (cI, w_d_n, .inl (upd w_8 v6_6.toNatClampNeg ((x_12 + (65536 * s0_13)).toInt32)))), (h_b, .inr (5, [.ref h_b_d, .int b_n, .int b_minus])), (h_b_d, .inl (cI, b_d_n, .inl b_d))] := hD
            obtain ⟨x_15, ex_15⟩ : ∃ y : Int32, y = v6_6 + 1 := ⟨_, rfl⟩
            replace h := ck_nm_s h ex_15
            refine lv_iinc (v := x_15) (lv' := [(6, .int x_15), (4, .long s0_13), (0, .ref h_w), (1, .ref h_b), (2, .int v2_1), (7, .long x_12)]) hx hb d_Nu_often_136 hl (k := 4) rfl (by rw [ex_15]; rfl) (by decide) rfl (fun ls hl => ?_)
            refine lv_goto (tgt := 49) hx hb d_Nu_often_139 (by decide) ?_
            exact J_49 _ _ _ h _ _ hP hD hS _ (lv_sub hl [2, 3, 4, 1, 0] rfl)
          · intro k_117 J_117 h
            refine lv_if_ge (tgt := 116) hx hb d_Nu_often_100 (by decide) (fun c_16 => ?_) (fun c_16 => ?_)
            · replace h := ck_if_t h c_16
              refine lv_lconst (v := 0) hx hb d_Nu_often_116 (by decide) ?_
              exact J_117 _ h _ _ hP hD hS _ (lv_sub hl [1, 2, 3, 4, 0] rfl)
            · replace h := ck_if_f h c_16
              refine lv_ldc2 (v := 65535) hx hb hown kc5 d_Nu_often_103 ?_
              refine lv_lload hx hb d_Nu_often_106 (lv_at hl 0 rfl) ?_
              refine lv_lsub hx hb d_Nu_often_108 ?_
              refine lv_ldc2 (v := 65536) hx hb hown kc4 d_Nu_often_109 ?_
              refine lv_ldiv hx hb d_Nu_often_112 (by decide) ?_
              refine lv_goto (tgt := 117) hx hb d_Nu_often_113 (by decide) ?_
              exact J_117 _ h _ _ hP hD hS _ (lv_sub hl [1, 2, 3, 4, 0] rfl)
        · intro k_93 J_93 h
          refine lv_icmp_ge (tgt := 92) hx hb d_Nu_often_75 (by decide) (fun c_17 => ?_) (fun c_17 => ?_)
          · replace h := ck_if_t h c_17
            refine lv_lconst (v := 0) hx hb d_Nu_often_92 (by decide) ?_
            exact J_93 _ h _ _ hP hD hS _ (lv_sub hl [0, 1, 2, 4] rfl)
          · replace h := ck_if_f h c_17
            refine lv_aload_n hx hb d_Nu_often_78 rfl (lv_at hl 1 rfl) ?_
            refine va_get (D := (dC, dI)) (ci := 5) (v := .ref h_b_d) (C := "BasisWalkModel$Num") (T := T_Nu) (N := 3) hx hb hts iw2 hown hK hP 2 rfl rfl 0 (by decide) fl3 (fun _ h9 => h9) rfl d_Nu_often_79 ?_
            refine lv_iload hx hb d_Nu_often_82 (lv_at hl 4 rfl) ?_
            obtain ⟨g_18, h⟩ := ck_in_s h
            refine va_iald hx hb hK hP 3 0 rfl rfl g_18 d_Nu_often_84 ?_
            refine lv_i2l hx hb d_Nu_often_85 rfl ?_
            refine lv_iload_n hx hb d_Nu_often_86 rfl (lv_at hl 2 rfl) ?_
            refine lv_i2l hx hb d_Nu_often_87 rfl ?_
            refine lv_lmul hx hb d_Nu_often_88 ?_
            refine lv_goto (tgt := 93) hx hb d_Nu_often_89 (by decide) ?_
            exact J_93 _ h _ _ hP hD hS _ (lv_sub hl [0, 1, 2, 4] rfl)
  · intro k_43 J_43 h
    refine lo2_W (r := r) (fun (v3_19 : Int32) (v2_20 : Int32) => ∀ (H : Heap) (locs : List Loc), va_P (dC, dI) cl_all [(h_w, .inr (5, [.ref h_w_d, .int w_n, .int w_minus])), (h_w_d, .inl (cI, w_d_n, .inl w_d)), (h_b, .inr (5, [.ref h_b_d, .int b_n, .int b_minus])), (h_b_d, .inl (cI, b_d_n, .inl b_d))] H → va_D A [(h_w, .inr (5, [.ref h_w_d, .int w_n, .int w_minus])), (h_w_d, .inl (cI, w_d_n, .inl w_d)), (h_b, .inr (5, [.ref h_b_d, .int b_n, .int b_minus])), (h_b_d, .inl (cI, b_d_n, .inl b_d))] → va_S A s.heap H locs → ∀ ls : Array Slot, lv_has ls 9 [(0, .ref h_w), (1, .ref h_b), (2, .int v2_20), (3, .int v3_19)] → W p l e ({ frames := 1, cells := 0, slots := 0, locals := 27 } : Room) s m AR below meth c H locs 0 0 QQ (F0 m 5 ls [])) ?_ _ _ _ h _ _ hP hD hS _ (lv_sub hl [2, 3, 1, 0] rfl)
    intro k_5 v3_19 v2_20 J_5 h H locs hP hD hS ls hl
    refine lv_iload_n hx hb d_Nu_often_5 rfl (lv_at hl 2 rfl) ?_
    refine lv_iload_n hx hb d_Nu_often_6 rfl (lv_at hl 3 rfl) ?_
    refine lv_icmp_ge (tgt := 43) hx hb d_Nu_often_7 (by decide) (fun c_21 => ?_) (fun c_21 => ?_)
    · replace h := ck_if_t h c_21
      exact J_43 _ h _ _ hP hD hS _ (lv_sub hl [0, 1, 2] rfl)
    · replace h := ck_if_f h c_21
      refine lv_iload_n hx hb d_Nu_often_10 rfl (lv_at hl 2 rfl) ?_
      refine lv_iload_n hx hb d_Nu_often_11 rfl (lv_at hl 3 rfl) ?_
      refine lv_iadd hx hb d_Nu_often_12 ?_
      refine lv_iconst (v := 1) hx hb d_Nu_often_13 (by decide) ?_
      refine lv_iadd hx hb d_Nu_often_14 ?_
      refine lv_iconst (v := 2) hx hb d_Nu_often_15 (by decide) ?_
      refine lv_idiv hx hb d_Nu_often_16 (by decide) ?_
      refine lv_topi (fun x_22 ex_22 => ?_)
      replace h := ck_nm_s h ex_22
      refine lv_istore (lv' := [(4, .int x_22), (0, .ref h_w), (1, .ref h_b), (2, .int v2_20), (3, .int v3_19)]) hx hb d_Nu_often_17 hl (by decide) rfl (fun ls hl => ?_)
      refine lv_aload_n hx hb d_Nu_often_19 rfl (lv_at hl 2 rfl) ?_
      refine lv_iload hx hb d_Nu_often_20 (lv_at hl 0 rfl) ?_
      refine lv_aload_n hx hb d_Nu_often_22 rfl (lv_at hl 1 rfl) ?_
      obtain ⟨r_23, hc_24, h⟩ := ck_b1_s h
      have hPc := hP.sub (ws' := [(h_b, .inr (5, [.ref h_b_d, .int b_n, .int b_minus])), (h_b_d, .inl (cI, b_d_n, .inl b_d)), (h_w, .inr (5, [.ref h_w_d, .int w_n, .int w_minus])), (h_w_d, .inl (cI, w_d_n, .inl w_d))]) [2, 3, 0, 1] rfl
      have hDc := hD.sub (ws' := [(h_b, .inr (5, [.ref h_b_d, .int b_n, .int b_minus])), (h_b_d, .inl (cI, b_d_n, .inl b_d)), (h_w, .inr (5, [.ref h_w_d, .int w_n, .int w_minus])), (h_w_d, .inl (cI, w_d_n, .inl w_d))]) [2, 3, 0, 1] (by decide) rfl
      have hFc := va_free (wc := [(h_b, .inr (5, [.ref h_b_d, .int b_n, .int b_minus])), (h_b_d, .inl (cI, b_d_n, .inl b_d)), (h_w, .inr (5, [.ref h_w_d, .int w_n, .int w_minus])), (h_w_d, .inl (cI, w_d_n, .inl w_d))]) hD hS hA [2, 3, 0, 1] rfl
      refine va_calli (va_runS (As := [.ref h_b, .int x_22, .ref h_w]) (rest := []) ⟨hx, hb, hml, hown, hts⟩ (c_N_isAtMost l dC dI cI cJ cB cZ cT cN H.size h_b h_w h_b_d h_w_d b_n b_minus b_d_n b_d w_n w_minus w_d_n w_d x_22 _ hc_24) (va_cwS 3 hts (tb_S tw_556 tw_557 tw_7 tw_558) rfl rfl rfl (by decide +kernel) ⟨Nat.le_of_ble_eq_true rfl, Nat.le_of_ble_eq_true rfl⟩) ⟨fun a U g mk q => by obtain ⟨q0, q1, qP, qK, qN, qD⟩ := q; exact ⟨q0, q1, qP, va_K.moved (u := U) (U := U.calling g mk a) (Vm.Alike.refl U.vm) qK, qN.same rfl, qD⟩, fun U hU hW => ⟨rfl, by rw [hU], by rw [hU]; exact hPc, va_K.moved hW.alike hK, hN.warm hW, hDc.weaken (fun _ _ _ _ => trivial)⟩⟩ rfl rfl hl.1 rfl (lv_room (Nat.le_of_ble_eq_true rfl)) d_Nu_often_23 ⟨Nat.zero_le _, Nat.zero_le _⟩) hS (fun q _ h => hFc q h) hFc (fun rr u t H1 locs ht hvm hw hB hz1 hk1 hS => ?_)
      replace hw := hw.symm
      subst hw
      obtain ⟨hP1, -, hD1⟩ := hB
      rw [ht] at hP1
      obtain ⟨hP, hD⟩ := va_join (wr := []) (w1 := [(h_b, .inr (5, [.ref h_b_d, .int b_n, .int b_minus])), (h_b_d, .inl (cI, b_d_n, .inl b_d)), (h_w, .inr (5, [.ref h_w_d, .int w_n, .int w_minus])), (h_w_d, .inl (cI, w_d_n, .inl w_d))]) hP hD [2, 3, 0, 1] [] rfl rfl (by decide) (by decide) hk1 hFc hP1 hD1
      generalize H1 = H at hP hS ⊢
      have hP : va_P (dC, dI) cl_all [(h_w, .inr (5, [.ref h_w_d, .int w_n, .int w_minus])), (h_w_d, .inl (cI, w_d_n, .inl w_d)), (h_b, .inr (5, [.ref h_b_d, .int b_n, .int b_minus])), (h_b_d, .inl (cI, b_d_n, .inl b_d))] H := hP.sub [2, 3, 0, 1] rfl
      have hD : va_D A [(h_w, .inr (5, [.ref h_w_d, .int w_n, .int w_minus])), (h_w_d, .inl (cI, w_d_n, .inl w_d)), (h_b, .inr (5, [.ref h_b_d, .int b_n, .int b_minus])), (h_b_d, .inl (cI, b_d_n, .inl b_d))] := hD.sub [2, 3, 0, 1] (by decide) rfl
      refine ck_jn_W h (fun k' => ∀ (v2_25 : Int32) (v3_26 : Int32), k' v2_25 v3_26 = some r → ∀ (H : Heap) (locs : List Loc), va_P (dC, dI) cl_all [(h_w, .inr (5, [.ref h_w_d, .int w_n, .int w_minus])), (h_w_d, .inl (cI, w_d_n, .inl w_d)), (h_b, .inr (5, [.ref h_b_d, .int b_n, .int b_minus])), (h_b_d, .inl (cI, b_d_n, .inl b_d))] H → va_D A [(h_w, .inr (5, [.ref h_w_d, .int w_n, .int w_minus])), (h_w_d, .inl (cI, w_d_n, .inl w_d)), (h_b, .inr (5, [.ref h_b_d, .int b_n, .int b_minus])), (h_b_d, .inl (cI, b_d_n, .inl b_d))] → va_S A s.heap H locs → ∀ ls : Array Slot, lv_has ls 9 [(0, .ref h_w), (1, .ref h_b), (2, .int v2_25), (3, .int v3_26)] → W p l e ({ frames := 1, cells := 0, slots := 0, locals := 27 } : Room) s m AR below meth c H locs 0 0 QQ (F0 m 40 ls [])) ?_ ?_
      · intro v2_25 v3_26 h H locs hP hD hS ls hl
        refine lv_goto (tgt := 5) hx hb d_Nu_often_40 (by decide) ?_
        exact J_5 _ _ h _ _ hP hD hS _ (lv_sub hl [0, 1, 2, 3] rfl)
      · intro k_40 J_40 h
        refine lv_if_eq (tgt := 35) hx hb d_Nu_often_26 (by decide) (fun c_27 => ?_) (fun c_27 => ?_)
        · replace h := ck_if_t h c_27
          refine lv_iload hx hb d_Nu_often_35 (lv_at hl 0 rfl) ?_
          refine lv_iconst (v := 1) hx hb d_Nu_often_37 (by decide) ?_
          refine lv_isub hx hb d_Nu_often_38 ?_
          refine lv_topi (fun x_28 ex_28 => ?_)
          replace h := ck_nm_s h ex_28
          refine lv_istore_n (lv' := [(3, .int x_28), (4, .int x_22), (0, .ref h_w), (1, .ref h_b), (2, .int v2_20)]) hx hb d_Nu_often_39 rfl hl (by decide) rfl (fun ls hl => ?_)
          exact J_40 _ _ h _ _ hP hD hS _ (lv_sub hl [2, 3, 4, 0] rfl)
        · replace h := ck_if_f h c_27
          refine lv_iload hx hb d_Nu_often_29 (lv_at hl 0 rfl) ?_
          refine lv_istore_n (lv' := [(2, .int x_22), (4, .int x_22), (0, .ref h_w), (1, .ref h_b), (3, .int v3_19)]) hx hb d_Nu_often_31 rfl hl (by decide) rfl (fun ls hl => ?_)
          refine lv_goto (tgt := 40) hx hb d_Nu_often_32 (by decide) ?_
          exact J_40 _ _ h _ _ hP hD hS _ (lv_sub hl [2, 3, 0, 4] rfl)
theorem d_Nu_quotient_0 : decode prog_8_method_12_code 0 = .ok (.aload_n 3, 1) := by decide +kernel
theorem d_Nu_quotient_1 : decode prog_8_method_12_code 1 = .ok (.invokevirtual 21, 3) := by decide +kernel
theorem d_Nu_quotient_4 : decode prog_8_method_12_code 4 = .ok (.aload_n 1, 1) := by decide +kernel
theorem d_Nu_quotient_5 : decode prog_8_method_12_code 5 = .ok (.getfield 13, 3) := by decide +kernel
theorem d_Nu_quotient_8 : decode prog_8_method_12_code 8 = .ok (.iconst 1, 1) := by decide +kernel
theorem d_Nu_quotient_9 : decode prog_8_method_12_code 9 = .ok (.isub, 1) := by decide +kernel
theorem d_Nu_quotient_10 : decode prog_8_method_12_code 10 = .ok (.istore 4, 2) := by decide +kernel
theorem d_Nu_quotient_12 : decode prog_8_method_12_code 12 = .ok (.iload 4, 2) := by decide +kernel
theorem d_Nu_quotient_14 : decode prog_8_method_12_code 14 = .ok (.ifCond .lt 97, 3) := by decide +kernel
theorem d_Nu_quotient_17 : decode prog_8_method_12_code 17 = .ok (.aload_n 3, 1) := by decide +kernel
theorem d_Nu_quotient_18 : decode prog_8_method_12_code 18 = .ok (.getfield 13, 3) := by decide +kernel
theorem d_Nu_quotient_21 : decode prog_8_method_12_code 21 = .ok (.istore 5, 2) := by decide +kernel
theorem d_Nu_quotient_23 : decode prog_8_method_12_code 23 = .ok (.iload 5, 2) := by decide +kernel
theorem d_Nu_quotient_25 : decode prog_8_method_12_code 25 = .ok (.ifCond .le 25, 3) := by decide +kernel
theorem d_Nu_quotient_28 : decode prog_8_method_12_code 28 = .ok (.aload_n 3, 1) := by decide +kernel
theorem d_Nu_quotient_29 : decode prog_8_method_12_code 29 = .ok (.getfield 7, 3) := by decide +kernel
theorem d_Nu_quotient_32 : decode prog_8_method_12_code 32 = .ok (.iload 5, 2) := by decide +kernel
theorem d_Nu_quotient_34 : decode prog_8_method_12_code 34 = .ok (.aload_n 3, 1) := by decide +kernel
theorem d_Nu_quotient_35 : decode prog_8_method_12_code 35 = .ok (.getfield 7, 3) := by decide +kernel
theorem d_Nu_quotient_38 : decode prog_8_method_12_code 38 = .ok (.iload 5, 2) := by decide +kernel
theorem d_Nu_quotient_40 : decode prog_8_method_12_code 40 = .ok (.iconst 1, 1) := by decide +kernel
theorem d_Nu_quotient_41 : decode prog_8_method_12_code 41 = .ok (.isub, 1) := by decide +kernel
theorem d_Nu_quotient_42 : decode prog_8_method_12_code 42 = .ok (.iaload, 1) := by decide +kernel
theorem d_Nu_quotient_43 : decode prog_8_method_12_code 43 = .ok (.iastore, 1) := by decide +kernel
theorem d_Nu_quotient_44 : decode prog_8_method_12_code 44 = .ok (.iinc 5 (-1), 3) := by decide +kernel
theorem d_Nu_quotient_47 : decode prog_8_method_12_code 47 = .ok (.goto (-24), 3) := by decide +kernel
theorem d_Nu_quotient_50 : decode prog_8_method_12_code 50 = .ok (.aload_n 3, 1) := by decide +kernel
theorem d_Nu_quotient_51 : decode prog_8_method_12_code 51 = .ok (.getfield 7, 3) := by decide +kernel
theorem d_Nu_quotient_54 : decode prog_8_method_12_code 54 = .ok (.iconst 0, 1) := by decide +kernel
theorem d_Nu_quotient_55 : decode prog_8_method_12_code 55 = .ok (.aload_n 1, 1) := by decide +kernel
theorem d_Nu_quotient_56 : decode prog_8_method_12_code 56 = .ok (.getfield 7, 3) := by decide +kernel
theorem d_Nu_quotient_59 : decode prog_8_method_12_code 59 = .ok (.iload 4, 2) := by decide +kernel
theorem d_Nu_quotient_61 : decode prog_8_method_12_code 61 = .ok (.iaload, 1) := by decide +kernel
theorem d_Nu_quotient_62 : decode prog_8_method_12_code 62 = .ok (.iastore, 1) := by decide +kernel
theorem d_Nu_quotient_63 : decode prog_8_method_12_code 63 = .ok (.aload_n 3, 1) := by decide +kernel
theorem d_Nu_quotient_64 : decode prog_8_method_12_code 64 = .ok (.dup, 1) := by decide +kernel
theorem d_Nu_quotient_65 : decode prog_8_method_12_code 65 = .ok (.getfield 13, 3) := by decide +kernel
theorem d_Nu_quotient_68 : decode prog_8_method_12_code 68 = .ok (.iconst 1, 1) := by decide +kernel
theorem d_Nu_quotient_69 : decode prog_8_method_12_code 69 = .ok (.iadd, 1) := by decide +kernel
theorem d_Nu_quotient_70 : decode prog_8_method_12_code 70 = .ok (.putfield 13, 3) := by decide +kernel
theorem d_Nu_quotient_73 : decode prog_8_method_12_code 73 = .ok (.aload_n 3, 1) := by decide +kernel
theorem d_Nu_quotient_74 : decode prog_8_method_12_code 74 = .ok (.invokevirtual 27, 3) := by decide +kernel
theorem d_Nu_quotient_77 : decode prog_8_method_12_code 77 = .ok (.aload_n 0, 1) := by decide +kernel
theorem d_Nu_quotient_78 : decode prog_8_method_12_code 78 = .ok (.getfield 7, 3) := by decide +kernel
theorem d_Nu_quotient_81 : decode prog_8_method_12_code 81 = .ok (.iload 4, 2) := by decide +kernel
theorem d_Nu_quotient_83 : decode prog_8_method_12_code 83 = .ok (.iconst 0, 1) := by decide +kernel
theorem d_Nu_quotient_84 : decode prog_8_method_12_code 84 = .ok (.iastore, 1) := by decide +kernel
theorem d_Nu_quotient_85 : decode prog_8_method_12_code 85 = .ok (.aload_n 3, 1) := by decide +kernel
theorem d_Nu_quotient_86 : decode prog_8_method_12_code 86 = .ok (.aload_n 2, 1) := by decide +kernel
theorem d_Nu_quotient_87 : decode prog_8_method_12_code 87 = .ok (.invokevirtual 30, 3) := by decide +kernel
theorem d_Nu_quotient_90 : decode prog_8_method_12_code 90 = .ok (.ifCond .lt 15, 3) := by decide +kernel
theorem d_Nu_quotient_93 : decode prog_8_method_12_code 93 = .ok (.aload_n 0, 1) := by decide +kernel
theorem d_Nu_quotient_94 : decode prog_8_method_12_code 94 = .ok (.getfield 7, 3) := by decide +kernel
theorem d_Nu_quotient_97 : decode prog_8_method_12_code 97 = .ok (.iload 4, 2) := by decide +kernel
theorem d_Nu_quotient_99 : decode prog_8_method_12_code 99 = .ok (.aload_n 3, 1) := by decide +kernel
theorem d_Nu_quotient_100 : decode prog_8_method_12_code 100 = .ok (.aload_n 2, 1) := by decide +kernel
theorem d_Nu_quotient_101 : decode prog_8_method_12_code 101 = .ok (.invokestatic 34, 3) := by decide +kernel
theorem d_Nu_quotient_104 : decode prog_8_method_12_code 104 = .ok (.iastore, 1) := by decide +kernel
theorem d_Nu_quotient_105 : decode prog_8_method_12_code 105 = .ok (.iinc 4 (-1), 3) := by decide +kernel
theorem d_Nu_quotient_108 : decode prog_8_method_12_code 108 = .ok (.goto (-96), 3) := by decide +kernel
theorem d_Nu_quotient_111 : decode prog_8_method_12_code 111 = .ok (.aload_n 0, 1) := by decide +kernel
theorem d_Nu_quotient_112 : decode prog_8_method_12_code 112 = .ok (.aload_n 1, 1) := by decide +kernel
theorem d_Nu_quotient_113 : decode prog_8_method_12_code 113 = .ok (.getfield 13, 3) := by decide +kernel
theorem d_Nu_quotient_116 : decode prog_8_method_12_code 116 = .ok (.putfield 13, 3) := by decide +kernel
theorem d_Nu_quotient_119 : decode prog_8_method_12_code 119 = .ok (.aload_n 0, 1) := by decide +kernel
theorem d_Nu_quotient_120 : decode prog_8_method_12_code 120 = .ok (.aload_n 1, 1) := by decide +kernel
theorem d_Nu_quotient_121 : decode prog_8_method_12_code 121 = .ok (.getfield 17, 3) := by decide +kernel
theorem d_Nu_quotient_124 : decode prog_8_method_12_code 124 = .ok (.aload_n 2, 1) := by decide +kernel
theorem d_Nu_quotient_125 : decode prog_8_method_12_code 125 = .ok (.getfield 17, 3) := by decide +kernel
theorem d_Nu_quotient_128 : decode prog_8_method_12_code 128 = .ok (.if_icmp .eq 7, 3) := by decide +kernel
theorem d_Nu_quotient_131 : decode prog_8_method_12_code 131 = .ok (.iconst 1, 1) := by decide +kernel
theorem d_Nu_quotient_132 : decode prog_8_method_12_code 132 = .ok (.goto 4, 3) := by decide +kernel
theorem d_Nu_quotient_135 : decode prog_8_method_12_code 135 = .ok (.iconst 0, 1) := by decide +kernel
theorem d_Nu_quotient_136 : decode prog_8_method_12_code 136 = .ok (.putfield 17, 3) := by decide +kernel
theorem d_Nu_quotient_139 : decode prog_8_method_12_code 139 = .ok (.aload_n 0, 1) := by decide +kernel
theorem d_Nu_quotient_140 : decode prog_8_method_12_code 140 = .ok (.invokevirtual 27, 3) := by decide +kernel
theorem d_Nu_quotient_143 : decode prog_8_method_12_code 143 = .ok (.return_, 1) := by decide +kernel
def f_N_quotient (x_d_n : Nat) (x_d : Nat → Int32) (a_n : Int32) (a_minus : Int32) (a_d_n : Nat) (a_d : Nat → Int32) (b_n : Int32) (b_minus : Int32) (b_d_n : Nat) (b_d : Nat → Int32) (w_d_n : Nat) (w_d : Nat → Int32) : Option (Int32 × Int32 × (Nat → Int32) × Int32 × Int32 × (Nat → Int32)) :=
  ck_b2 (f_N_zero) <| fun u_1 u_2 => ck_nm (a_n - 1) <| fun x_4 => ck_jn (fun (w_5 : Nat → Int32) (w_6 : Int32) (w_7 : Int32) (w_8 : Nat → Int32) => ck_jn (fun (s0_9 : Int32) => ck_z s0_9 <| ck_b2 (f_N_trim a_n s0_9 x_d_n w_5) <| fun u_11 u_12 => some (u_11, u_12, w_5, w_6, w_7, w_8)) <| fun k_136 => ck_if (a_minus = b_minus) (k_136 0) (k_136 1)) <| fun k_111 => lo5 (fun k_12 (v4_15 : Int32) (w_16 : Nat → Int32) (w_17 : Int32) (w_18 : Int32) (w_19 : Nat → Int32) => ck_if (v4_15 < 0) (k_111 w_16 w_17 w_18 w_19) (ck_jn (fun (w_21 : Nat → Int32) => ck_in v4_15 a_d_n <| ck_in 0 w_d_n <| ck_b2 (f_N_trim (w_17 + 1) w_18 w_d_n (upd w_21 (0 : Int32).toNatClampNeg (a_d v4_15.toNatClampNeg))) <| fun u_24 u_25 => ck_in v4_15 x_d_n <| ck_b1 (f_N_compareSize u_24 w_d_n (upd w_21 (0 : Int32).toNatClampNeg (a_d v4_15.toNatClampNeg)) b_n b_d_n b_d) <| fun r_28 => ck_jn (fun (w_30 : Nat → Int32) (w_31 : Int32) (w_32 : Int32) (w_33 : Nat → Int32) => ck_nm (v4_15 + (-1)) <| fun x_34 => k_12 x_34 w_30 w_31 w_32 w_33) <| fun k_105 => ck_if (r_28 < 0) (k_105 (upd w_16 v4_15.toNatClampNeg 0) u_24 u_25 (upd w_21 (0 : Int32).toNatClampNeg (a_d v4_15.toNatClampNeg))) (ck_b4 (f_N_often u_24 u_25 w_d_n (upd w_21 (0 : Int32).toNatClampNeg (a_d v4_15.toNatClampNeg)) b_n b_d_n b_d) <| fun r_36 u_37 u_38 u_39 => ck_in v4_15 x_d_n <| k_105 (upd (upd w_16 v4_15.toNatClampNeg 0) v4_15.toNatClampNeg r_36) u_37 u_38 u_39)) <| fun k_50 => lo2 (fun k_23 (v5_42 : Int32) (w_43 : Nat → Int32) => ck_if (v5_42 ≤ 0) (k_50 w_43) (ck_in (v5_42 - 1) w_d_n <| ck_in v5_42 w_d_n <| ck_nm (v5_42 + (-1)) <| fun x_47 => k_23 x_47 (upd w_43 v5_42.toNatClampNeg (w_43 (v5_42 - 1).toNatClampNeg)))) ck_F w_17 w_19)) ck_F x_4 x_d u_1 u_2 w_d
set_option maxHeartbeats 4000000 in
set_option maxRecDepth 100000 in
theorem c_N_quotient (l : Launch) (dC : Nat → ClassId) (dI : Nat → Nat → Nat) (cI cJ cB cZ cT cN : ClassId) (sz : Nat) (h_x : Nat) (h_a : Nat) (h_b : Nat) (h_w : Nat) (h_x_d : Nat) (h_a_d : Nat) (h_b_d : Nat) (h_w_d : Nat) (x_n : Int32) (x_minus : Int32) (x_d_n : Nat) (x_d : Nat → Int32) (a_n : Int32) (a_minus : Int32) (a_d_n : Nat) (a_d : Nat → Int32) (b_n : Int32) (b_minus : Int32) (b_d_n : Nat) (b_d : Nat → Int32) (w_n : Int32) (w_minus : Int32) (w_d_n : Nat) (w_d : Nat → Int32) (r : Int32 × Int32 × (Nat → Int32) × Int32 × Int32 × (Nat → Int32)) (h : f_N_quotient x_d_n x_d a_n a_minus a_d_n a_d b_n b_minus b_d_n b_d w_d_n w_d = some r) : Met l y_Nu_quotient w_Nu_quotient ({ frames := 2, cells := 0, slots := 0, locals := 55 } : Room) (va_Pc [.ref h_x, .ref h_a, .ref h_b, .ref h_w] (fun U => U.heap.size = sz ∧ va_P (dC, dI) cl_all [(h_x, .inr (5, [.ref h_x_d, .int x_n, .int x_minus])), (h_x_d, .inl (cI, x_d_n, .inl x_d)), (h_a, .inr (5, [.ref h_a_d, .int a_n, .int a_minus])), (h_a_d, .inl (cI, a_d_n, .inl a_d)), (h_b, .inr (5, [.ref h_b_d, .int b_n, .int b_minus])), (h_b_d, .inl (cI, b_d_n, .inl b_d)), (h_w, .inr (5, [.ref h_w_d, .int w_n, .int w_minus])), (h_w_d, .inl (cI, w_d_n, .inl w_d))] U.heap ∧ va_K (dC, dI) cl_all [(cI, .int), (cJ, .long), (cB, .byte), (cZ, .boolean), (cT, .object "BasisWalk$Table"), (cN, .object "BasisWalkModel$Num")] U ∧ NW U ∧ va_D (fun _ => True) [(h_x, .inr (5, [.ref h_x_d, .int x_n, .int x_minus])), (h_x_d, .inl (cI, x_d_n, .inl x_d)), (h_a, .inr (5, [.ref h_a_d, .int a_n, .int a_minus])), (h_a_d, .inl (cI, a_d_n, .inl a_d)), (h_b, .inr (5, [.ref h_b_d, .int b_n, .int b_minus])), (h_b_d, .inl (cI, b_d_n, .inl b_d)), (h_w, .inr (5, [.ref h_w_d, .int w_n, .int w_minus])), (h_w_d, .inl (cI, w_d_n, .inl w_d))])) (va_Qv (fun u : Int32 × Int32 × (Nat → Int32) × Int32 × Int32 × (Nat → Int32) => u = r) (fun (u : Int32 × Int32 × (Nat → Int32) × Int32 × Int32 × (Nat → Int32)) (t : State) => va_P (dC, dI) cl_all [(h_x, .inr (5, [.ref h_x_d, .int u.1, .int u.2.1])), (h_x_d, .inl (cI, x_d_n, .inl u.2.2.1)), (h_a, .inr (5, [.ref h_a_d, .int a_n, .int a_minus])), (h_a_d, .inl (cI, a_d_n, .inl a_d)), (h_b, .inr (5, [.ref h_b_d, .int b_n, .int b_minus])), (h_b_d, .inl (cI, b_d_n, .inl b_d)), (h_w, .inr (5, [.ref h_w_d, .int u.2.2.2.1, .int u.2.2.2.2.1])), (h_w_d, .inl (cI, w_d_n, .inl u.2.2.2.2.2))] t.heap ∧ va_K (dC, dI) cl_all [(cI, .int), (cJ, .long), (cB, .byte), (cZ, .boolean), (cT, .object "BasisWalk$Table"), (cN, .object "BasisWalkModel$Num")] t ∧ va_D (va_A [(h_x, .inr (5, [.ref h_x_d, .int x_n, .int x_minus])), (h_x_d, .inl (cI, x_d_n, .inl x_d)), (h_a, .inr (5, [.ref h_a_d, .int a_n, .int a_minus])), (h_a_d, .inl (cI, a_d_n, .inl a_d)), (h_b, .inr (5, [.ref h_b_d, .int b_n, .int b_minus])), (h_b_d, .inl (cI, b_d_n, .inl b_d)), (h_w, .inr (5, [.ref h_w_d, .int w_n, .int w_minus])), (h_w_d, .inl (cI, w_d_n, .inl w_d))] sz) [(h_x, .inr (5, [.ref h_x_d, .int u.1, .int u.2.1])), (h_x_d, .inl (cI, x_d_n, .inl u.2.2.1)), (h_a, .inr (5, [.ref h_a_d, .int a_n, .int a_minus])), (h_a_d, .inl (cI, a_d_n, .inl a_d)), (h_b, .inr (5, [.ref h_b_d, .int b_n, .int b_minus])), (h_b_d, .inl (cI, b_d_n, .inl b_d)), (h_w, .inr (5, [.ref h_w_d, .int u.2.2.2.1, .int u.2.2.2.2.1])), (h_w_d, .inl (cI, w_d_n, .inl u.2.2.2.2.2))]) (va_A [(h_x, .inr (5, [.ref h_x_d, .int x_n, .int x_minus])), (h_x_d, .inl (cI, x_d_n, .inl x_d)), (h_a, .inr (5, [.ref h_a_d, .int a_n, .int a_minus])), (h_a_d, .inl (cI, a_d_n, .inl a_d)), (h_b, .inr (5, [.ref h_b_d, .int b_n, .int b_minus])), (h_b_d, .inl (cI, b_d_n, .inl b_d)), (h_w, .inr (5, [.ref h_w_d, .int w_n, .int w_minus])), (h_w_d, .inl (cI, w_d_n, .inl w_d))] sz)) 0 0 (va_A [(h_x, .inr (5, [.ref h_x_d, .int x_n, .int x_minus])), (h_x_d, .inl (cI, x_d_n, .inl x_d)), (h_a, .inr (5, [.ref h_a_d, .int a_n, .int a_minus])), (h_a_d, .inl (cI, a_d_n, .inl a_d)), (h_b, .inr (5, [.ref h_b_d, .int b_n, .int b_minus])), (h_b_d, .inl (cI, b_d_n, .inl b_d)), (h_w, .inr (5, [.ref h_w_d, .int w_n, .int w_minus])), (h_w_d, .inl (cI, w_d_n, .inl w_d))] sz) := by
  refine Met.ofW (cc := prog_8_method_12_code) (maxL := 6) (ret := (Option.none : Option Jvm.ClassFile.FieldType)) (by decide) rfl ?_
  intro p e s m args below meth c s₁ B hml hv
  obtain ⟨hAR, hsz, hP, hK, hN, hD0⟩ := hv
  have hx := B.exec
  have hb := B.bytes
  have hr := B.returns
  have hts := atoms_spec (ws := w_Nu_quotient) B.pre
  have hown : s.vm.findClass "BasisWalkModel$Num" = some m.cls := findClass_of_methodNamed B.named
  have hlocks := B.notSynchronized
  clear B
  subst hsz
  have hD := hD0.self (sz := s.heap.size)
  generalize hAe : va_A [(h_x, .inr (5, [.ref h_x_d, .int x_n, .int x_minus])), (h_x_d, .inl (cI, x_d_n, .inl x_d)), (h_a, .inr (5, [.ref h_a_d, .int a_n, .int a_minus])), (h_a_d, .inl (cI, a_d_n, .inl a_d)), (h_b, .inr (5, [.ref h_b_d, .int b_n, .int b_minus])), (h_b_d, .inl (cI, b_d_n, .inl b_d)), (h_w, .inr (5, [.ref h_w_d, .int w_n, .int w_minus])), (h_w_d, .inl (cI, w_d_n, .inl w_d))] s.heap.size = A at hD ⊢
  have hA : ∀ q : Nat, s.heap.size ≤ q → A q := fun q h => by rw [← hAe]; exact Or.inr h
  clear hAe hD0
  have hS : va_S A s.heap s.heap [] := va_S.rf
  have hl := lv_entry ([.ref h_x, .ref h_a, .ref h_b, .ref h_w]) (n := 6) (Nat.le_of_ble_eq_true rfl)
  subst hAR
  rw [lg_entry_eq]
  generalize (lg_sl ([.ref h_x, .ref h_a, .ref h_b, .ref h_w]) ++ List.replicate (6 - (lg_sl ([.ref h_x, .ref h_a, .ref h_b, .ref h_w])).length) Slot.unset).toArray = ls at hl ⊢
  have hl : lv_has ls 6 [(0, .ref h_x), (1, .ref h_a), (2, .ref h_b), (3, .ref h_w)] := hl
  change W p l e ({ frames := 2, cells := 0, slots := 0, locals := 55 } : Room) s m _ below meth c s.heap [] 0 0 _ _
  generalize hARe : ([.ref h_x, .ref h_a, .ref h_b, .ref h_w] : List Value).toArray = AR at hts ⊢
  clear hARe
  generalize hQ : MQ below _ AR s 0 0 A = QQ
  have fl0 := hts _ (List.mem_cons_of_mem _ tw_340)
  have iw1 := (fun w hw => List.mem_cons_of_mem _ (in_Nu w hw) : ∀ w ∈ u_ws "BasisWalkModel$Num" T_Nu 3, w ∈ w_Nu_quotient)
  have fl2 := hts _ (List.mem_cons_of_mem _ tw_342)
  have fl3 := hts _ (List.mem_cons_of_mem _ tw_338)
  obtain ⟨H, hHe⟩ : ∃ H : Heap, H = s.heap := ⟨_, rfl⟩
  rw [← hHe] at hP ⊢
  replace hS : va_S A s.heap H [] := by rw [hHe]; exact va_S.rf
  clear hHe
  unfold f_N_quotient at h
  refine lv_aload_n hx hb d_Nu_quotient_0 rfl (lv_at hl 3 rfl) ?_
  obtain ⟨u_1, u_2, hc_3, h⟩ := ck_b2_s h
  have hPc := hP.sub (ws' := [(h_w, .inr (5, [.ref h_w_d, .int w_n, .int w_minus])), (h_w_d, .inl (cI, w_d_n, .inl w_d))]) [6, 7] rfl
  have hDc := hD.sub (ws' := [(h_w, .inr (5, [.ref h_w_d, .int w_n, .int w_minus])), (h_w_d, .inl (cI, w_d_n, .inl w_d))]) [6, 7] (by decide) rfl
  have hFc := va_free (wc := [(h_w, .inr (5, [.ref h_w_d, .int w_n, .int w_minus])), (h_w_d, .inl (cI, w_d_n, .inl w_d))]) hD hS hA [6, 7] rfl
  refine va_callv (va_runV (As := []) (rest := []) ⟨hx, hb, hml, hown, hts⟩ (c_N_zero l dC dI cI cJ cB cZ cT cN H.size h_w h_w_d w_n w_minus w_d_n w_d _ hc_3) (cwV 0 hts (tb_V tw_493 tw_494 tw_495 tw_7 tw_496) rfl rfl rfl (by decide +kernel) ⟨Nat.le_of_ble_eq_true rfl, Nat.le_of_ble_eq_true rfl⟩) ⟨fun a U g mk q => by obtain ⟨q0, q1, qP, qK, qN, qD⟩ := q; exact ⟨q0, q1, qP, va_K.moved (u := U) (U := U.calling g mk a) (Vm.Alike.refl U.vm) qK, qN.same rfl, qD⟩, va_recv hK hPc (ci := 5) (q0 := 0) rfl rfl, fun U hU hW => ⟨rfl, by rw [hU], by rw [hU]; exact hPc, va_K.moved hW.alike hK, hN.warm hW, hDc.weaken (fun _ _ _ _ => trivial)⟩⟩ rfl rfl hl.1 rfl (lv_room (Nat.le_of_ble_eq_true rfl)) d_Nu_quotient_1 ⟨Nat.zero_le _, Nat.zero_le _⟩) hS (fun q _ h => hFc q h) hFc (fun u t H1 locs ht hvm hw hB hz1 hk1 hS => ?_)
  replace hw := hw.symm
  subst hw
  obtain ⟨hP1, -, hD1⟩ := hB
  rw [ht] at hP1
  obtain ⟨hP, hD⟩ := va_join (wr := [(h_x, .inr (5, [.ref h_x_d, .int x_n, .int x_minus])), (h_x_d, .inl (cI, x_d_n, .inl x_d)), (h_a, .inr (5, [.ref h_a_d, .int a_n, .int a_minus])), (h_a_d, .inl (cI, a_d_n, .inl a_d)), (h_b, .inr (5, [.ref h_b_d, .int b_n, .int b_minus])), (h_b_d, .inl (cI, b_d_n, .inl b_d))]) (w1 := [(h_w, .inr (5, [.ref h_w_d, .int u_1, .int u_2])), (h_w_d, .inl (cI, w_d_n, .inl w_d))]) hP hD [6, 7] [0, 1, 2, 3, 4, 5] rfl rfl (by decide) (by decide) hk1 hFc hP1 hD1
  generalize H1 = H at hP hS ⊢
  have hP : va_P (dC, dI) cl_all [(h_x, .inr (5, [.ref h_x_d, .int x_n, .int x_minus])), (h_x_d, .inl (cI, x_d_n, .inl x_d)), (h_a, .inr (5, [.ref h_a_d, .int a_n, .int a_minus])), (h_a_d, .inl (cI, a_d_n, .inl a_d)), (h_b, .inr (5, [.ref h_b_d, .int b_n, .int b_minus])), (h_b_d, .inl (cI, b_d_n, .inl b_d)), (h_w, .inr (5, [.ref h_w_d, .int u_1, .int u_2])), (h_w_d, .inl (cI, w_d_n, .inl w_d))] H := hP.sub [0, 1, 2, 3, 4, 5, 6, 7] rfl
  have hD : va_D A [(h_x, .inr (5, [.ref h_x_d, .int x_n, .int x_minus])), (h_x_d, .inl (cI, x_d_n, .inl x_d)), (h_a, .inr (5, [.ref h_a_d, .int a_n, .int a_minus])), (h_a_d, .inl (cI, a_d_n, .inl a_d)), (h_b, .inr (5, [.ref h_b_d, .int b_n, .int b_minus])), (h_b_d, .inl (cI, b_d_n, .inl b_d)), (h_w, .inr (5, [.ref h_w_d, .int u_1, .int u_2])), (h_w_d, .inl (cI, w_d_n, .inl w_d))] := hD.sub [0, 1, 2, 3, 4, 5, 6, 7] (by decide) rfl
  refine lv_aload_n hx hb d_Nu_quotient_4 rfl (lv_at hl 1 rfl) ?_
  refine va_get (D := (dC, dI)) (ci := 5) (v := .int a_n) (C := "BasisWalkModel$Num") (T := T_Nu) (N := 3) hx hb hts iw1 hown hK hP 2 rfl rfl 1 (by decide) fl0 (fun _ h9 => h9) rfl d_Nu_quotient_5 ?_
  refine lv_iconst (v := 1) hx hb d_Nu_quotient_8 (by decide) ?_
  refine lv_isub hx hb d_Nu_quotient_9 ?_
  refine lv_topi (fun x_4 ex_4 => ?_)
  replace h := ck_nm_s h ex_4
  refine lv_istore (lv' := [(4, .int x_4), (0, .ref h_x), (1, .ref h_a), (2, .ref h_b), (3, .ref h_w)]) hx hb d_Nu_quotient_10 hl (by decide) rfl (fun ls hl => ?_)
  refine ck_jn_W h (fun k' => ∀ (w_5 : Nat → Int32) (w_6 : Int32) (w_7 : Int32) (w_8 : Nat → Int32), k' w_5 w_6 w_7 w_8 = some r → ∀ (H : Heap) (locs : List Loc), va_P (dC, dI) cl_all [(h_x, .inr (5, [.ref h_x_d, .int x_n, .int x_minus])), (h_x_d, .inl (cI, x_d_n, .inl w_5)), (h_a, .inr (5, [.ref h_a_d, .int a_n, .int a_minus])), (h_a_d, .inl (cI, a_d_n, .inl a_d)), (h_b, .inr (5, [.ref h_b_d, .int b_n, .int b_minus])), (h_b_d, .inl (cI, b_d_n, .inl b_d)), (h_w, .inr (5, [.ref h_w_d, .int w_6, .int w_7])), (h_w_d, .inl (cI, w_d_n, .inl w_8))] H → va_D A [(h_x, .inr (5, [.ref h_x_d, .int x_n, .int x_minus])), (h_x_d, .inl (cI, x_d_n, .inl w_5)), (h_a, .inr (5, [.ref h_a_d, .int a_n, .int a_minus])), (h_a_d, .inl (cI, a_d_n, .inl a_d)), (h_b, .inr (5, [.ref h_b_d, .int b_n, .int b_minus])), (h_b_d, .inl (cI, b_d_n, .inl b_d)), (h_w, .inr (5, [.ref h_w_d, .int w_6, .int w_7])), (h_w_d, .inl (cI, w_d_n, .inl w_8))] → va_S A s.heap H locs → ∀ ls : Array Slot, lv_has ls 6 [(0, .ref h_x), (1, .ref h_a), (2, .ref h_b)] → W p l e ({ frames := 2, cells := 0, slots := 0, locals := 55 } : Room) s m AR below meth c H locs 0 0 QQ (F0 m 111 ls [])) ?_ ?_
  · intro w_5 w_6 w_7 w_8 h H locs hP hD hS ls hl
    refine lv_aload_n hx hb d_Nu_quotient_111 rfl (lv_at hl 0 rfl) ?_
    refine lv_aload_n hx hb d_Nu_quotient_112 rfl (lv_at hl 1 rfl) ?_
    refine va_get (D := (dC, dI)) (ci := 5) (v := .int a_n) (C := "BasisWalkModel$Num") (T := T_Nu) (N := 3) hx hb hts iw1 hown hK hP 2 rfl rfl 1 (by decide) fl0 (fun _ h9 => h9) rfl d_Nu_quotient_113 ?_
    refine va_put (D := (dC, dI)) (ci := 5) (v := .int a_n) (ty := .int) (C := "BasisWalkModel$Num") (T := T_Nu) (N := 3) hx hb hts iw1 ty_Nu tyok_Nu nm_Nu hown hK hP hD hS 0 rfl rfl 1 (by decide) fl0 (fun _ h9 => h9) rfl (by decide +kernel) rfl rfl (Nat.le_of_ble_eq_true rfl) d_Nu_quotient_116 (fun H locs hP hD hS => ?_)
    have hP : va_P (dC, dI) cl_all [(h_x, .inr (5, [.ref h_x_d, .int a_n, .int x_minus])), (h_x_d, .inl (cI, x_d_n, .inl w_5)), (h_a, .inr (5, [.ref h_a_d, .int a_n, .int a_minus])), (h_a_d, .inl (cI, a_d_n, .inl a_d)), (h_b, .inr (5, [.ref h_b_d, .int b_n, .int b_minus])), (h_b_d, .inl (cI, b_d_n, .inl b_d)), (h_w, .inr (5, [.ref h_w_d, .int w_6, .int w_7])), (h_w_d, .inl (cI, w_d_n, .inl w_8))] H := hP
    have hD : va_D A [(h_x, .inr (5, [.ref h_x_d, .int a_n, .int x_minus])), (h_x_d, .inl (cI, x_d_n, .inl w_5)), (h_a, .inr (5, [.ref h_a_d, .int a_n, .int a_minus])), (h_a_d, .inl (cI, a_d_n, .inl a_d)), (h_b, .inr (5, [.ref h_b_d, .int b_n, .int b_minus])), (h_b_d, .inl (cI, b_d_n, .inl b_d)), (h_w, .inr (5, [.ref h_w_d, .int w_6, .int w_7])), (h_w_d, .inl (cI, w_d_n, .inl w_8))] := hD
    refine lv_aload_n hx hb d_Nu_quotient_119 rfl (lv_at hl 0 rfl) ?_
    refine lv_aload_n hx hb d_Nu_quotient_120 rfl (lv_at hl 1 rfl) ?_
    refine va_get (D := (dC, dI)) (ci := 5) (v := .int a_minus) (C := "BasisWalkModel$Num") (T := T_Nu) (N := 3) hx hb hts iw1 hown hK hP 2 rfl rfl 2 (by decide) fl2 (fun _ h9 => h9) rfl d_Nu_quotient_121 ?_
    refine lv_aload_n hx hb d_Nu_quotient_124 rfl (lv_at hl 2 rfl) ?_
    refine va_get (D := (dC, dI)) (ci := 5) (v := .int b_minus) (C := "BasisWalkModel$Num") (T := T_Nu) (N := 3) hx hb hts iw1 hown hK hP 4 rfl rfl 2 (by decide) fl2 (fun _ h9 => h9) rfl d_Nu_quotient_125 ?_
    refine ck_jn_W h (fun k' => ∀ (s0_9 : Int32), k' s0_9 = some r → ∀ (H : Heap) (locs : List Loc), va_P (dC, dI) cl_all [(h_x, .inr (5, [.ref h_x_d, .int a_n, .int x_minus])), (h_x_d, .inl (cI, x_d_n, .inl w_5)), (h_a, .inr (5, [.ref h_a_d, .int a_n, .int a_minus])), (h_a_d, .inl (cI, a_d_n, .inl a_d)), (h_b, .inr (5, [.ref h_b_d, .int b_n, .int b_minus])), (h_b_d, .inl (cI, b_d_n, .inl b_d)), (h_w, .inr (5, [.ref h_w_d, .int w_6, .int w_7])), (h_w_d, .inl (cI, w_d_n, .inl w_8))] H → va_D A [(h_x, .inr (5, [.ref h_x_d, .int a_n, .int x_minus])), (h_x_d, .inl (cI, x_d_n, .inl w_5)), (h_a, .inr (5, [.ref h_a_d, .int a_n, .int a_minus])), (h_a_d, .inl (cI, a_d_n, .inl a_d)), (h_b, .inr (5, [.ref h_b_d, .int b_n, .int b_minus])), (h_b_d, .inl (cI, b_d_n, .inl b_d)), (h_w, .inr (5, [.ref h_w_d, .int w_6, .int w_7])), (h_w_d, .inl (cI, w_d_n, .inl w_8))] → va_S A s.heap H locs → ∀ ls : Array Slot, lv_has ls 6 [(0, .ref h_x)] → W p l e ({ frames := 2, cells := 0, slots := 0, locals := 55 } : Room) s m AR below meth c H locs 0 0 QQ (F0 m 136 ls [.int s0_9, .ref h_x])) ?_ ?_
    · intro s0_9 h H locs hP hD hS ls hl
      obtain ⟨g_10, h⟩ := ck_z_s h
      refine va_put (D := (dC, dI)) (ci := 5) (v := .int s0_9) (ty := .boolean) (C := "BasisWalkModel$Num") (T := T_Nu) (N := 3) hx hb hts iw1 ty_Nu tyok_Nu nm_Nu hown hK hP hD hS 0 rfl rfl 2 (by decide) fl2 (fun _ h9 => h9) rfl (by decide +kernel) g_10.1 g_10.2 (Nat.le_of_ble_eq_true rfl) d_Nu_quotient_136 (fun H locs hP hD hS => ?_)
      have hP : va_P (dC, dI) cl_all [(h_x, .inr (5, [.ref h_x_d, .int a_n, .int s0_9])), (h_x_d, .inl (cI, x_d_n, .inl w_5)), (h_a, .inr (5, [.ref h_a_d, .int a_n, .int a_minus])), (h_a_d, .inl (cI, a_d_n, .inl a_d)), (h_b, .inr (5, [.ref h_b_d, .int b_n, .int b_minus])), (h_b_d, .inl (cI, b_d_n, .inl b_d)), (h_w, .inr (5, [.ref h_w_d, .int w_6, .int w_7])), (h_w_d, .inl (cI, w_d_n, .inl w_8))] H := hP
      have hD : va_D A [(h_x, .inr (5, [.ref h_x_d, .int a_n, .int s0_9])), (h_x_d, .inl (cI, x_d_n, .inl w_5)), (h_a, .inr (5, [.ref h_a_d, .int a_n, .int a_minus])), (h_a_d, .inl (cI, a_d_n, .inl a_d)), (h_b, .inr (5, [.ref h_b_d, .int b_n, .int b_minus])), (h_b_d, .inl (cI, b_d_n, .inl b_d)), (h_w, .inr (5, [.ref h_w_d, .int w_6, .int w_7])), (h_w_d, .inl (cI, w_d_n, .inl w_8))] := hD
      refine lv_aload_n hx hb d_Nu_quotient_139 rfl (lv_at hl 0 rfl) ?_
      obtain ⟨u_11, u_12, hc_13, h⟩ := ck_b2_s h
      have hPc := hP.sub (ws' := [(h_x, .inr (5, [.ref h_x_d, .int a_n, .int s0_9])), (h_x_d, .inl (cI, x_d_n, .inl w_5))]) [0, 1] rfl
      have hDc := hD.sub (ws' := [(h_x, .inr (5, [.ref h_x_d, .int a_n, .int s0_9])), (h_x_d, .inl (cI, x_d_n, .inl w_5))]) [0, 1] (by decide) rfl
      have hFc := va_free (wc := [(h_x, .inr (5, [.ref h_x_d, .int a_n, .int s0_9])), (h_x_d, .inl (cI, x_d_n, .inl w_5))]) hD hS hA [0, 1] rfl
      refine va_callv (va_runV (As := []) (rest := []) ⟨hx, hb, hml, hown, hts⟩ (c_N_trim l dC dI cI cJ cB cZ cT cN H.size h_x h_x_d a_n s0_9 x_d_n w_5 _ hc_13) (cwV 0 hts (tb_V tw_526 tw_527 tw_528 tw_7 tw_529) rfl rfl rfl (by decide +kernel) ⟨Nat.le_of_ble_eq_true rfl, Nat.le_of_ble_eq_true rfl⟩) ⟨fun a U g mk q => by obtain ⟨q0, q1, qP, qK, qN, qD⟩ := q; exact ⟨q0, q1, qP, va_K.moved (u := U) (U := U.calling g mk a) (Vm.Alike.refl U.vm) qK, qN.same rfl, qD⟩, va_recv hK hPc (ci := 5) (q0 := 0) rfl rfl, fun U hU hW => ⟨rfl, by rw [hU], by rw [hU]; exact hPc, va_K.moved hW.alike hK, hN.warm hW, hDc.weaken (fun _ _ _ _ => trivial)⟩⟩ rfl rfl hl.1 rfl (lv_room (Nat.le_of_ble_eq_true rfl)) d_Nu_quotient_140 ⟨Nat.zero_le _, Nat.zero_le _⟩) hS (fun q _ h => hFc q h) hFc (fun u t H1 locs ht hvm hw hB hz1 hk1 hS => ?_)
      replace hw := hw.symm
      subst hw
      obtain ⟨hP1, -, hD1⟩ := hB
      rw [ht] at hP1
      obtain ⟨hP, hD⟩ := va_join (wr := [(h_a, .inr (5, [.ref h_a_d, .int a_n, .int a_minus])), (h_a_d, .inl (cI, a_d_n, .inl a_d)), (h_b, .inr (5, [.ref h_b_d, .int b_n, .int b_minus])), (h_b_d, .inl (cI, b_d_n, .inl b_d)), (h_w, .inr (5, [.ref h_w_d, .int w_6, .int w_7])), (h_w_d, .inl (cI, w_d_n, .inl w_8))]) (w1 := [(h_x, .inr (5, [.ref h_x_d, .int u_11, .int u_12])), (h_x_d, .inl (cI, x_d_n, .inl w_5))]) hP hD [0, 1] [2, 3, 4, 5, 6, 7] rfl rfl (by decide) (by decide) hk1 hFc hP1 hD1
      generalize H1 = H at hP hS ⊢
      have hP : va_P (dC, dI) cl_all [(h_x, .inr (5, [.ref h_x_d, .int u_11, .int u_12])), (h_x_d, .inl (cI, x_d_n, .inl w_5)), (h_a, .inr (5, [.ref h_a_d, .int a_n, .int a_minus])), (h_a_d, .inl (cI, a_d_n, .inl a_d)), (h_b, .inr (5, [.ref h_b_d, .int b_n, .int b_minus])), (h_b_d, .inl (cI, b_d_n, .inl b_d)), (h_w, .inr (5, [.ref h_w_d, .int w_6, .int w_7])), (h_w_d, .inl (cI, w_d_n, .inl w_8))] H := hP.sub [6, 7, 0, 1, 2, 3, 4, 5] rfl
      have hD : va_D A [(h_x, .inr (5, [.ref h_x_d, .int u_11, .int u_12])), (h_x_d, .inl (cI, x_d_n, .inl w_5)), (h_a, .inr (5, [.ref h_a_d, .int a_n, .int a_minus])), (h_a_d, .inl (cI, a_d_n, .inl a_d)), (h_b, .inr (5, [.ref h_b_d, .int b_n, .int b_minus])), (h_b_d, .inl (cI, b_d_n, .inl b_d)), (h_w, .inr (5, [.ref h_w_d, .int w_6, .int w_7])), (h_w_d, .inl (cI, w_d_n, .inl w_8))] := hD.sub [6, 7, 0, 1, 2, 3, 4, 5] (by decide) rfl
      obtain rfl := Option.some.inj h
      subst hQ
      exact W.vret hx hb hr (fun t ht hW => ⟨⟨(u_11, u_12, w_5, w_6, w_7, w_8), rfl, rfl, by rw [ht]; exact hP, va_K.moved hW.alike hK, hD⟩, hS.F ht⟩) hS.2.2 d_Nu_quotient_143
    · intro k_136 J_136 h
      refine lv_icmp_eq (tgt := 135) hx hb d_Nu_quotient_128 (by decide) (fun c_14 => ?_) (fun c_14 => ?_)
      · replace h := ck_if_t h c_14
        refine lv_iconst (v := 0) hx hb d_Nu_quotient_135 (by decide) ?_
        exact J_136 _ h _ _ hP hD hS _ (lv_sub hl [0] rfl)
      · replace h := ck_if_f h c_14
        refine lv_iconst (v := 1) hx hb d_Nu_quotient_131 (by decide) ?_
        refine lv_goto (tgt := 136) hx hb d_Nu_quotient_132 (by decide) ?_
        exact J_136 _ h _ _ hP hD hS _ (lv_sub hl [0] rfl)
  · intro k_111 J_111 h
    refine lo5_W (r := r) (fun (v4_15 : Int32) (w_16 : Nat → Int32) (w_17 : Int32) (w_18 : Int32) (w_19 : Nat → Int32) => ∀ (H : Heap) (locs : List Loc), va_P (dC, dI) cl_all [(h_x, .inr (5, [.ref h_x_d, .int x_n, .int x_minus])), (h_x_d, .inl (cI, x_d_n, .inl w_16)), (h_a, .inr (5, [.ref h_a_d, .int a_n, .int a_minus])), (h_a_d, .inl (cI, a_d_n, .inl a_d)), (h_b, .inr (5, [.ref h_b_d, .int b_n, .int b_minus])), (h_b_d, .inl (cI, b_d_n, .inl b_d)), (h_w, .inr (5, [.ref h_w_d, .int w_17, .int w_18])), (h_w_d, .inl (cI, w_d_n, .inl w_19))] H → va_D A [(h_x, .inr (5, [.ref h_x_d, .int x_n, .int x_minus])), (h_x_d, .inl (cI, x_d_n, .inl w_16)), (h_a, .inr (5, [.ref h_a_d, .int a_n, .int a_minus])), (h_a_d, .inl (cI, a_d_n, .inl a_d)), (h_b, .inr (5, [.ref h_b_d, .int b_n, .int b_minus])), (h_b_d, .inl (cI, b_d_n, .inl b_d)), (h_w, .inr (5, [.ref h_w_d, .int w_17, .int w_18])), (h_w_d, .inl (cI, w_d_n, .inl w_19))] → va_S A s.heap H locs → ∀ ls : Array Slot, lv_has ls 6 [(0, .ref h_x), (1, .ref h_a), (2, .ref h_b), (3, .ref h_w), (4, .int v4_15)] → W p l e ({ frames := 2, cells := 0, slots := 0, locals := 55 } : Room) s m AR below meth c H locs 0 0 QQ (F0 m 12 ls [])) ?_ _ _ _ _ _ _ h _ _ hP hD hS _ (lv_sub hl [1, 2, 3, 4, 0] rfl)
    intro k_12 v4_15 w_16 w_17 w_18 w_19 J_12 h H locs hP hD hS ls hl
    refine lv_iload hx hb d_Nu_quotient_12 (lv_at hl 4 rfl) ?_
    refine lv_if_lt (tgt := 111) hx hb d_Nu_quotient_14 (by decide) (fun c_20 => ?_) (fun c_20 => ?_)
    · replace h := ck_if_t h c_20
      exact J_111 _ _ _ _ h _ _ hP hD hS _ (lv_sub hl [0, 1, 2] rfl)
    · replace h := ck_if_f h c_20
      refine lv_aload_n hx hb d_Nu_quotient_17 rfl (lv_at hl 3 rfl) ?_
      refine va_get (D := (dC, dI)) (ci := 5) (v := .int w_17) (C := "BasisWalkModel$Num") (T := T_Nu) (N := 3) hx hb hts iw1 hown hK hP 6 rfl rfl 1 (by decide) fl0 (fun _ h9 => h9) rfl d_Nu_quotient_18 ?_
      refine lv_istore (lv' := [(5, .int w_17), (0, .ref h_x), (1, .ref h_a), (2, .ref h_b), (3, .ref h_w), (4, .int v4_15)]) hx hb d_Nu_quotient_21 hl (by decide) rfl (fun ls hl => ?_)
      refine ck_jn_W h (fun k' => ∀ (w_21 : Nat → Int32), k' w_21 = some r → ∀ (H : Heap) (locs : List Loc), va_P (dC, dI) cl_all [(h_x, .inr (5, [.ref h_x_d, .int x_n, .int x_minus])), (h_x_d, .inl (cI, x_d_n, .inl w_16)), (h_a, .inr (5, [.ref h_a_d, .int a_n, .int a_minus])), (h_a_d, .inl (cI, a_d_n, .inl a_d)), (h_b, .inr (5, [.ref h_b_d, .int b_n, .int b_minus])), (h_b_d, .inl (cI, b_d_n, .inl b_d)), (h_w, .inr (5, [.ref h_w_d, .int w_17, .int w_18])), (h_w_d, .inl (cI, w_d_n, .inl w_21))] H → va_D A [(h_x, .inr (5, [.ref h_x_d, .int x_n, .int x_minus])), (h_x_d, .inl (cI, x_d_n, .inl w_16)), (h_a, .inr (5, [.ref h_a_d, .int a_n, .int a_minus])), (h_a_d, .inl (cI, a_d_n, .inl a_d)), (h_b, .inr (5, [.ref h_b_d, .int b_n, .int b_minus])), (h_b_d, .inl (cI, b_d_n, .inl b_d)), (h_w, .inr (5, [.ref h_w_d, .int w_17, .int w_18])), (h_w_d, .inl (cI, w_d_n, .inl w_21))] → va_S A s.heap H locs → ∀ ls : Array Slot, lv_has ls 6 [(0, .ref h_x), (1, .ref h_a), (2, .ref h_b), (3, .ref h_w), (4, .int v4_15)] → W p l e ({ frames := 2, cells := 0, slots := 0, locals := 55 } : Room) s m AR below meth c H locs 0 0 QQ (F0 m 50 ls [])) ?_ ?_
      · intro w_21 h H locs hP hD hS ls hl
        refine lv_aload_n hx hb d_Nu_quotient_50 rfl (lv_at hl 3 rfl) ?_
        refine va_get (D := (dC, dI)) (ci := 5) (v := .ref h_w_d) (C := "BasisWalkModel$Num") (T := T_Nu) (N := 3) hx hb hts iw1 hown hK hP 6 rfl rfl 0 (by decide) fl3 (fun _ h9 => h9) rfl d_Nu_quotient_51 ?_
        refine lv_iconst (v := 0) hx hb d_Nu_quotient_54 (by decide) ?_
        refine lv_aload_n hx hb d_Nu_quotient_55 rfl (lv_at hl 1 rfl) ?_
        refine va_get (D := (dC, dI)) (ci := 5) (v := .ref h_a_d) (C := "BasisWalkModel$Num") (T := T_Nu) (N := 3) hx hb hts iw1 hown hK hP 2 rfl rfl 0 (by decide) fl3 (fun _ h9 => h9) rfl d_Nu_quotient_56 ?_
        refine lv_iload hx hb d_Nu_quotient_59 (lv_at hl 4 rfl) ?_
        obtain ⟨g_22, h⟩ := ck_in_s h
        refine va_iald hx hb hK hP 3 0 rfl rfl g_22 d_Nu_quotient_61 ?_
        obtain ⟨g_23, h⟩ := ck_in_s h
        refine va_iast hx hb hK hP hD hS 7 0 rfl rfl g_23 d_Nu_quotient_62 (fun H locs hP hD hS => ?_)
        have hP : va_P (dC, dI) cl_all [(h_x, .inr (5, [.ref h_x_d, .int x_n, .int x_minus])), (h_x_d, .inl (cI, x_d_n, .inl w_16)), (h_a, .inr (5, [.ref h_a_d, .int a_n, .int a_minus])), (h_a_d, .inl (cI, a_d_n, .inl a_d)), (h_b, .inr (5, [.ref h_b_d, .int b_n, .int b_minus])), (h_b_d, .inl (cI, b_d_n, .inl b_d)), (h_w, .inr (5, [.ref h_w_d, .int w_17, .int w_18])), (h_w_d, .inl (cI, w_d_n, .inl (upd w_21 (0 : Int32).toNatClampNeg (a_d v4_15.toNatClampNeg))))] H := hP
        have hD : va_D A [(h_x, .inr (5, [.ref h_x_d, .int x_n, .int x_minus])), (h_x_d, .inl (cI, x_d_n, .inl w_16)), (h_a, .inr (5, [.ref h_a_d, .int a_n, .int a_minus])), (h_a_d, .inl (cI, a_d_n, .inl a_d)), (h_b, .inr (5, [.ref h_b_d, .int b_n, .int b_minus])), (h_b_d, .inl (cI, b_d_n, .inl b_d)), (h_w, .inr (5, [.ref h_w_d, .int w_17, .int w_18])), (h_w_d, .inl (cI, w_d_n, .inl (upd w_21 (0 : Int32).toNatClampNeg (a_d v4_15.toNatClampNeg))))] := hD
        refine lv_aload_n hx hb d_Nu_quotient_63 rfl (lv_at hl 3 rfl) ?_
        refine lv_dup hx hb d_Nu_quotient_64 rfl ?_
        refine va_get (D := (dC, dI)) (ci := 5) (v := .int w_17) (C := "BasisWalkModel$Num") (T := T_Nu) (N := 3) hx hb hts iw1 hown hK hP 6 rfl rfl 1 (by decide) fl0 (fun _ h9 => h9) rfl d_Nu_quotient_65 ?_
        refine lv_iconst (v := 1) hx hb d_Nu_quotient_68 (by decide) ?_
        refine lv_iadd hx hb d_Nu_quotient_69 ?_
        refine va_put (D := (dC, dI)) (ci := 5) (v := .int (w_17 + 1)) (ty := .int) (C := "BasisWalkModel$Num") (T := T_Nu) (N := 3) hx hb hts iw1 ty_Nu tyok_Nu nm_Nu hown hK hP hD hS 6 rfl rfl 1 (by decide) fl0 (fun _ h9 => h9) rfl (by decide +kernel) rfl rfl (Nat.le_of_ble_eq_true rfl) d_Nu_quotient_70 (fun H locs hP hD hS => ?_)
        have hP : va_P (dC, dI) cl_all [(h_x, .inr (5, [.ref h_x_d, .int x_n, .int x_minus])), (h_x_d, .inl (cI, x_d_n, .inl w_16)), (h_a, .inr (5, [.ref h_a_d, .int a_n, .int a_minus])), (h_a_d, .inl (cI, a_d_n, .inl a_d)), (h_b, .inr (5, [.ref h_b_d, .int b_n, .int b_minus])), (h_b_d, .inl (cI, b_d_n, .inl b_d)), (h_w, .inr (5, [.ref h_w_d, .int (w_17 + 1), .int w_18])), (h_w_d, .inl (cI, w_d_n, .inl (upd w_21 (0 : Int32).toNatClampNeg (a_d v4_15.toNatClampNeg))))] H := hP
        have hD : va_D A [(h_x, .inr (5, [.ref h_x_d, .int x_n, .int x_minus])), (h_x_d, .inl (cI, x_d_n, .inl w_16)), (h_a, .inr (5, [.ref h_a_d, .int a_n, .int a_minus])), (h_a_d, .inl (cI, a_d_n, .inl a_d)), (h_b, .inr (5, [.ref h_b_d, .int b_n, .int b_minus])), (h_b_d, .inl (cI, b_d_n, .inl b_d)), (h_w, .inr (5, [.ref h_w_d, .int (w_17 + 1), .int w_18])), (h_w_d, .inl (cI, w_d_n, .inl (upd w_21 (0 : Int32).toNatClampNeg (a_d v4_15.toNatClampNeg))))] := hD
        refine lv_aload_n hx hb d_Nu_quotient_73 rfl (lv_at hl 3 rfl) ?_
        obtain ⟨u_24, u_25, hc_26, h⟩ := ck_b2_s h
        have hPc := hP.sub (ws' := [(h_w, .inr (5, [.ref h_w_d, .int (w_17 + 1), .int w_18])), (h_w_d, .inl (cI, w_d_n, .inl (upd w_21 (0 : Int32).toNatClampNeg (a_d v4_15.toNatClampNeg))))]) [6, 7] rfl
        have hDc := hD.sub (ws' := [(h_w, .inr (5, [.ref h_w_d, .int (w_17 + 1), .int w_18])), (h_w_d, .inl (cI, w_d_n, .inl (upd w_21 (0 : Int32).toNatClampNeg (a_d v4_15.toNatClampNeg))))]) [6, 7] (by decide) rfl
        have hFc := va_free (wc := [(h_w, .inr (5, [.ref h_w_d, .int (w_17 + 1), .int w_18])), (h_w_d, .inl (cI, w_d_n, .inl (upd w_21 (0 : Int32).toNatClampNeg (a_d v4_15.toNatClampNeg))))]) hD hS hA [6, 7] rfl
        refine va_callv (va_runV (As := []) (rest := []) ⟨hx, hb, hml, hown, hts⟩ (c_N_trim l dC dI cI cJ cB cZ cT cN H.size h_w h_w_d (w_17 + 1) w_18 w_d_n (upd w_21 (0 : Int32).toNatClampNeg (a_d v4_15.toNatClampNeg)) _ hc_26) (cwV 0 hts (tb_V tw_526 tw_527 tw_528 tw_7 tw_529) rfl rfl rfl (by decide +kernel) ⟨Nat.le_of_ble_eq_true rfl, Nat.le_of_ble_eq_true rfl⟩) ⟨fun a U g mk q => by obtain ⟨q0, q1, qP, qK, qN, qD⟩ := q; exact ⟨q0, q1, qP, va_K.moved (u := U) (U := U.calling g mk a) (Vm.Alike.refl U.vm) qK, qN.same rfl, qD⟩, va_recv hK hPc (ci := 5) (q0 := 0) rfl rfl, fun U hU hW => ⟨rfl, by rw [hU], by rw [hU]; exact hPc, va_K.moved hW.alike hK, hN.warm hW, hDc.weaken (fun _ _ _ _ => trivial)⟩⟩ rfl rfl hl.1 rfl (lv_room (Nat.le_of_ble_eq_true rfl)) d_Nu_quotient_74 ⟨Nat.zero_le _, Nat.zero_le _⟩) hS (fun q _ h => hFc q h) hFc (fun u t H1 locs ht hvm hw hB hz1 hk1 hS => ?_)
        replace hw := hw.symm
        subst hw
        obtain ⟨hP1, -, hD1⟩ := hB
        rw [ht] at hP1
        obtain ⟨hP, hD⟩ := va_join (wr := [(h_x, .inr (5, [.ref h_x_d, .int x_n, .int x_minus])), (h_x_d, .inl (cI, x_d_n, .inl w_16)), (h_a, .inr (5, [.ref h_a_d, .int a_n, .int a_minus])), (h_a_d, .inl (cI, a_d_n, .inl a_d)), (h_b, .inr (5, [.ref h_b_d, .int b_n, .int b_minus])), (h_b_d, .inl (cI, b_d_n, .inl b_d))]) (w1 := [(h_w, .inr (5, [.ref h_w_d, .int u_24, .int u_25])), (h_w_d, .inl (cI, w_d_n, .inl (upd w_21 (0 : Int32).toNatClampNeg (a_d v4_15.toNatClampNeg))))]) hP hD [6, 7] [0, 1, 2, 3, 4, 5] rfl rfl (by decide) (by decide) hk1 hFc hP1 hD1
        generalize H1 = H at hP hS ⊢
        have hP : va_P (dC, dI) cl_all [(h_x, .inr (5, [.ref h_x_d, .int x_n, .int x_minus])), (h_x_d, .inl (cI, x_d_n, .inl w_16)), (h_a, .inr (5, [.ref h_a_d, .int a_n, .int a_minus])), (h_a_d, .inl (cI, a_d_n, .inl a_d)), (h_b, .inr (5, [.ref h_b_d, .int b_n, .int b_minus])), (h_b_d, .inl (cI, b_d_n, .inl b_d)), (h_w, .inr (5, [.ref h_w_d, .int u_24, .int u_25])), (h_w_d, .inl (cI, w_d_n, .inl (upd w_21 (0 : Int32).toNatClampNeg (a_d v4_15.toNatClampNeg))))] H := hP.sub [0, 1, 2, 3, 4, 5, 6, 7] rfl
        have hD : va_D A [(h_x, .inr (5, [.ref h_x_d, .int x_n, .int x_minus])), (h_x_d, .inl (cI, x_d_n, .inl w_16)), (h_a, .inr (5, [.ref h_a_d, .int a_n, .int a_minus])), (h_a_d, .inl (cI, a_d_n, .inl a_d)), (h_b, .inr (5, [.ref h_b_d, .int b_n, .int b_minus])), (h_b_d, .inl (cI, b_d_n, .inl b_d)), (h_w, .inr (5, [.ref h_w_d, .int u_24, .int u_25])), (h_w_d, .inl (cI, w_d_n, .inl (upd w_21 (0 : Int32).toNatClampNeg (a_d v4_15.toNatClampNeg))))] := hD.sub [0, 1, 2, 3, 4, 5, 6, 7] (by decide) rfl
        refine lv_aload_n hx hb d_Nu_quotient_77 rfl (lv_at hl 0 rfl) ?_
        refine va_get (D := (dC, dI)) (ci := 5) (v := .ref h_x_d) (C := "BasisWalkModel$Num") (T := T_Nu) (N := 3) hx hb hts iw1 hown hK hP 0 rfl rfl 0 (by decide) fl3 (fun _ h9 => h9) rfl d_Nu_quotient_78 ?_
        refine lv_iload hx hb d_Nu_quotient_81 (lv_at hl 4 rfl) ?_
        refine lv_iconst (v := 0) hx hb d_Nu_quotient_83 (by decide) ?_
        obtain ⟨g_27, h⟩ := ck_in_s h
        refine va_iast hx hb hK hP hD hS 1 0 rfl rfl g_27 d_Nu_quotient_84 (fun H locs hP hD hS => ?_)
        have hP : va_P (dC, dI) cl_all [(h_x, .inr (5, [.ref h_x_d, .int x_n, .int x_minus])), (h_x_d, .inl (cI, x_d_n, .inl (upd w_16 v4_15.toNatClampNeg 0))), (h_a, .inr (5, [.ref h_a_d, .int a_n, .int a_minus])), (h_a_d, .inl (cI, a_d_n, .inl a_d)), (h_b, .inr (5, [.ref h_b_d, .int b_n, .int b_minus])), (h_b_d, .inl (cI, b_d_n, .inl b_d)), (h_w, .inr (5, [.ref h_w_d, .int u_24, .int u_25])), (h_w_d, .inl (cI, w_d_n, .inl (upd w_21 (0 : Int32).toNatClampNeg (a_d v4_15.toNatClampNeg))))] H := hP
        have hD : va_D A [(h_x, .inr (5, [.ref h_x_d, .int x_n, .int x_minus])), (h_x_d, .inl (cI, x_d_n, .inl (upd w_16 v4_15.toNatClampNeg 0))), (h_a, .inr (5, [.ref h_a_d, .int a_n, .int a_minus])), (h_a_d, .inl (cI, a_d_n, .inl a_d)), (h_b, .inr (5, [.ref h_b_d, .int b_n, .int b_minus])), (h_b_d, .inl (cI, b_d_n, .inl b_d)), (h_w, .inr (5, [.ref h_w_d, .int u_24, .int u_25])), (h_w_d, .inl (cI, w_d_n, .inl (upd w_21 (0 : Int32).toNatClampNeg (a_d v4_15.toNatClampNeg))))] := hD
        refine lv_aload_n hx hb d_Nu_quotient_85 rfl (lv_at hl 3 rfl) ?_
        refine lv_aload_n hx hb d_Nu_quotient_86 rfl (lv_at hl 2 rfl) ?_
        obtain ⟨r_28, hc_29, h⟩ := ck_b1_s h
        have hPc := hP.sub (ws' := [(h_w, .inr (5, [.ref h_w_d, .int u_24, .int u_25])), (h_w_d, .inl (cI, w_d_n, .inl (upd w_21 (0 : Int32).toNatClampNeg (a_d v4_15.toNatClampNeg)))), (h_b, .inr (5, [.ref h_b_d, .int b_n, .int b_minus])), (h_b_d, .inl (cI, b_d_n, .inl b_d))]) [6, 7, 4, 5] rfl
        have hDc := hD.sub (ws' := [(h_w, .inr (5, [.ref h_w_d, .int u_24, .int u_25])), (h_w_d, .inl (cI, w_d_n, .inl (upd w_21 (0 : Int32).toNatClampNeg (a_d v4_15.toNatClampNeg)))), (h_b, .inr (5, [.ref h_b_d, .int b_n, .int b_minus])), (h_b_d, .inl (cI, b_d_n, .inl b_d))]) [6, 7, 4, 5] (by decide) rfl
        have hFc := va_free (wc := [(h_w, .inr (5, [.ref h_w_d, .int u_24, .int u_25])), (h_w_d, .inl (cI, w_d_n, .inl (upd w_21 (0 : Int32).toNatClampNeg (a_d v4_15.toNatClampNeg)))), (h_b, .inr (5, [.ref h_b_d, .int b_n, .int b_minus])), (h_b_d, .inl (cI, b_d_n, .inl b_d))]) hD hS hA [6, 7, 4, 5] rfl
        refine va_calli (va_runV (As := [.ref h_b]) (rest := []) ⟨hx, hb, hml, hown, hts⟩ (c_N_compareSize l dC dI cI cJ cB cZ cT cN H.size h_w h_b h_w_d h_b_d u_24 u_25 w_d_n (upd w_21 (0 : Int32).toNatClampNeg (a_d v4_15.toNatClampNeg)) b_n b_minus b_d_n b_d _ hc_29) (cwV 1 hts (tb_V tw_535 tw_536 tw_537 tw_7 tw_538) rfl rfl rfl (by decide +kernel) ⟨Nat.le_of_ble_eq_true rfl, Nat.le_of_ble_eq_true rfl⟩) ⟨fun a U g mk q => by obtain ⟨q0, q1, qP, qK, qN, qD⟩ := q; exact ⟨q0, q1, qP, va_K.moved (u := U) (U := U.calling g mk a) (Vm.Alike.refl U.vm) qK, qN.same rfl, qD⟩, va_recv hK hPc (ci := 5) (q0 := 0) rfl rfl, fun U hU hW => ⟨rfl, by rw [hU], by rw [hU]; exact hPc, va_K.moved hW.alike hK, hN.warm hW, hDc.weaken (fun _ _ _ _ => trivial)⟩⟩ rfl rfl hl.1 rfl (lv_room (Nat.le_of_ble_eq_true rfl)) d_Nu_quotient_87 ⟨Nat.zero_le _, Nat.zero_le _⟩) hS (fun q _ h => hFc q h) hFc (fun rr u t H1 locs ht hvm hw hB hz1 hk1 hS => ?_)
        replace hw := hw.symm
        subst hw
        obtain ⟨hP1, -, hD1⟩ := hB
        rw [ht] at hP1
        obtain ⟨hP, hD⟩ := va_join (wr := [(h_x, .inr (5, [.ref h_x_d, .int x_n, .int x_minus])), (h_x_d, .inl (cI, x_d_n, .inl (upd w_16 v4_15.toNatClampNeg 0))), (h_a, .inr (5, [.ref h_a_d, .int a_n, .int a_minus])), (h_a_d, .inl (cI, a_d_n, .inl a_d))]) (w1 := [(h_w, .inr (5, [.ref h_w_d, .int u_24, .int u_25])), (h_w_d, .inl (cI, w_d_n, .inl (upd w_21 (0 : Int32).toNatClampNeg (a_d v4_15.toNatClampNeg)))), (h_b, .inr (5, [.ref h_b_d, .int b_n, .int b_minus])), (h_b_d, .inl (cI, b_d_n, .inl b_d))]) hP hD [6, 7, 4, 5] [0, 1, 2, 3] rfl rfl (by decide) (by decide) hk1 hFc hP1 hD1
        generalize H1 = H at hP hS ⊢
        have hP : va_P (dC, dI) cl_all [(h_x, .inr (5, [.ref h_x_d, .int x_n, .int x_minus])), (h_x_d, .inl (cI, x_d_n, .inl (upd w_16 v4_15.toNatClampNeg 0))), (h_a, .inr (5, [.ref h_a_d, .int a_n, .int a_minus])), (h_a_d, .inl (cI, a_d_n, .inl a_d)), (h_b, .inr (5, [.ref h_b_d, .int b_n, .int b_minus])), (h_b_d, .inl (cI, b_d_n, .inl b_d)), (h_w, .inr (5, [.ref h_w_d, .int u_24, .int u_25])), (h_w_d, .inl (cI, w_d_n, .inl (upd w_21 (0 : Int32).toNatClampNeg (a_d v4_15.toNatClampNeg))))] H := hP.sub [0, 1, 2, 3, 6, 7, 4, 5] rfl
        have hD : va_D A [(h_x, .inr (5, [.ref h_x_d, .int x_n, .int x_minus])), (h_x_d, .inl (cI, x_d_n, .inl (upd w_16 v4_15.toNatClampNeg 0))), (h_a, .inr (5, [.ref h_a_d, .int a_n, .int a_minus])), (h_a_d, .inl (cI, a_d_n, .inl a_d)), (h_b, .inr (5, [.ref h_b_d, .int b_n, .int b_minus])), (h_b_d, .inl (cI, b_d_n, .inl b_d)), (h_w, .inr (5, [.ref h_w_d, .int u_24, .int u_25])), (h_w_d, .inl (cI, w_d_n, .inl (upd w_21 (0 : Int32).toNatClampNeg (a_d v4_15.toNatClampNeg))))] := hD.sub [0, 1, 2, 3, 6, 7, 4, 5] (by decide) rfl
        refine ck_jn_W h (fun k' => ∀ (w_30 : Nat → Int32) (w_31 : Int32) (w_32 : Int32) (w_33 : Nat → Int32), k' w_30 w_31 w_32 w_33 = some r → ∀ (H : Heap) (locs : List Loc), va_P (dC, dI) cl_all [(h_x, .inr (5, [.ref h_x_d, .int x_n, .int x_minus])), (h_x_d, .inl (cI, x_d_n, .inl w_30)), (h_a, .inr (5, [.ref h_a_d, .int a_n, .int a_minus])), (h_a_d, .inl (cI, a_d_n, .inl a_d)), (h_b, .inr (5, [.ref h_b_d, .int b_n, .int b_minus])), (h_b_d, .inl (cI, b_d_n, .inl b_d)), (h_w, .inr (5, [.ref h_w_d, .int w_31, .int w_32])), (h_w_d, .inl (cI, w_d_n, .inl w_33))] H → va_D A [(h_x, .inr (5, [.ref h_x_d, .int x_n, .int x_minus])), (h_x_d, .inl (cI, x_d_n, .inl w_30)), (h_a, .inr (5, [.ref h_a_d, .int a_n, .int a_minus])), (h_a_d, .inl (cI, a_d_n, .inl a_d)), (h_b, .inr (5, [.ref h_b_d, .int b_n, .int b_minus])), (h_b_d, .inl (cI, b_d_n, .inl b_d)), (h_w, .inr (5, [.ref h_w_d, .int w_31, .int w_32])), (h_w_d, .inl (cI, w_d_n, .inl w_33))] → va_S A s.heap H locs → ∀ ls : Array Slot, lv_has ls 6 [(0, .ref h_x), (1, .ref h_a), (2, .ref h_b), (3, .ref h_w), (4, .int v4_15)] → W p l e ({ frames := 2, cells := 0, slots := 0, locals := 55 } : Room) s m AR below meth c H locs 0 0 QQ (F0 m 105 ls [])) ?_ ?_
        · intro w_30 w_31 w_32 w_33 h H locs hP hD hS ls hl
          obtain ⟨x_34, ex_34⟩ : ∃ y : Int32, y = v4_15 + (-1) := ⟨_, rfl⟩
          replace h := ck_nm_s h ex_34
          refine lv_iinc (v := x_34) (lv' := [(4, .int x_34), (0, .ref h_x), (1, .ref h_a), (2, .ref h_b), (3, .ref h_w)]) hx hb d_Nu_quotient_105 hl (k := 4) rfl (by rw [ex_34]; rfl) (by decide) rfl (fun ls hl => ?_)
          refine lv_goto (tgt := 12) hx hb d_Nu_quotient_108 (by decide) ?_
          exact J_12 _ _ _ _ _ h _ _ hP hD hS _ (lv_sub hl [1, 2, 3, 4, 0] rfl)
        · intro k_105 J_105 h
          refine lv_if_lt (tgt := 105) hx hb d_Nu_quotient_90 (by decide) (fun c_35 => ?_) (fun c_35 => ?_)
          · replace h := ck_if_t h c_35
            exact J_105 _ _ _ _ h _ _ hP hD hS _ (lv_sub hl [0, 1, 2, 3, 4] rfl)
          · replace h := ck_if_f h c_35
            refine lv_aload_n hx hb d_Nu_quotient_93 rfl (lv_at hl 0 rfl) ?_
            refine va_get (D := (dC, dI)) (ci := 5) (v := .ref h_x_d) (C := "BasisWalkModel$Num") (T := T_Nu) (N := 3) hx hb hts iw1 hown hK hP 0 rfl rfl 0 (by decide) fl3 (fun _ h9 => h9) rfl d_Nu_quotient_94 ?_
            refine lv_iload hx hb d_Nu_quotient_97 (lv_at hl 4 rfl) ?_
            refine lv_aload_n hx hb d_Nu_quotient_99 rfl (lv_at hl 3 rfl) ?_
            refine lv_aload_n hx hb d_Nu_quotient_100 rfl (lv_at hl 2 rfl) ?_
            obtain ⟨r_36, u_37, u_38, u_39, hc_40, h⟩ := ck_b4_s h
            have hPc := hP.sub (ws' := [(h_w, .inr (5, [.ref h_w_d, .int u_24, .int u_25])), (h_w_d, .inl (cI, w_d_n, .inl (upd w_21 (0 : Int32).toNatClampNeg (a_d v4_15.toNatClampNeg)))), (h_b, .inr (5, [.ref h_b_d, .int b_n, .int b_minus])), (h_b_d, .inl (cI, b_d_n, .inl b_d))]) [6, 7, 4, 5] rfl
            have hDc := hD.sub (ws' := [(h_w, .inr (5, [.ref h_w_d, .int u_24, .int u_25])), (h_w_d, .inl (cI, w_d_n, .inl (upd w_21 (0 : Int32).toNatClampNeg (a_d v4_15.toNatClampNeg)))), (h_b, .inr (5, [.ref h_b_d, .int b_n, .int b_minus])), (h_b_d, .inl (cI, b_d_n, .inl b_d))]) [6, 7, 4, 5] (by decide) rfl
            have hFc := va_free (wc := [(h_w, .inr (5, [.ref h_w_d, .int u_24, .int u_25])), (h_w_d, .inl (cI, w_d_n, .inl (upd w_21 (0 : Int32).toNatClampNeg (a_d v4_15.toNatClampNeg)))), (h_b, .inr (5, [.ref h_b_d, .int b_n, .int b_minus])), (h_b_d, .inl (cI, b_d_n, .inl b_d))]) hD hS hA [6, 7, 4, 5] rfl
            refine va_calli (va_runS (As := [.ref h_w, .ref h_b]) (rest := [.int v4_15, .ref h_x_d]) ⟨hx, hb, hml, hown, hts⟩ (c_N_often l dC dI cI cJ cB cZ cT cN H.size h_w h_b h_w_d h_b_d u_24 u_25 w_d_n (upd w_21 (0 : Int32).toNatClampNeg (a_d v4_15.toNatClampNeg)) b_n b_minus b_d_n b_d _ hc_40) (va_cwS 2 hts (tb_S tw_552 tw_553 tw_7 tw_554) rfl rfl rfl (by decide +kernel) ⟨Nat.le_of_ble_eq_true rfl, Nat.le_of_ble_eq_true rfl⟩) ⟨fun a U g mk q => by obtain ⟨q0, q1, qP, qK, qN, qD⟩ := q; exact ⟨q0, q1, qP, va_K.moved (u := U) (U := U.calling g mk a) (Vm.Alike.refl U.vm) qK, qN.same rfl, qD⟩, fun U hU hW => ⟨rfl, by rw [hU], by rw [hU]; exact hPc, va_K.moved hW.alike hK, hN.warm hW, hDc.weaken (fun _ _ _ _ => trivial)⟩⟩ rfl rfl hl.1 rfl (lv_room (Nat.le_of_ble_eq_true rfl)) d_Nu_quotient_101 ⟨Nat.zero_le _, Nat.zero_le _⟩) hS (fun q _ h => hFc q h) hFc (fun rr u t H1 locs ht hvm hw hB hz1 hk1 hS => ?_)
            obtain ⟨e1, e2⟩ := Prod.mk.inj hw
            replace e1 := e1.symm
            replace e2 := e2.symm
            subst e1
            subst e2
            obtain ⟨hP1, -, hD1⟩ := hB
            rw [ht] at hP1
            obtain ⟨hP, hD⟩ := va_join (wr := [(h_x, .inr (5, [.ref h_x_d, .int x_n, .int x_minus])), (h_x_d, .inl (cI, x_d_n, .inl (upd w_16 v4_15.toNatClampNeg 0))), (h_a, .inr (5, [.ref h_a_d, .int a_n, .int a_minus])), (h_a_d, .inl (cI, a_d_n, .inl a_d))]) (w1 := [(h_w, .inr (5, [.ref h_w_d, .int u_37, .int u_38])), (h_w_d, .inl (cI, w_d_n, .inl u_39)), (h_b, .inr (5, [.ref h_b_d, .int b_n, .int b_minus])), (h_b_d, .inl (cI, b_d_n, .inl b_d))]) hP hD [6, 7, 4, 5] [0, 1, 2, 3] rfl rfl (by decide) (by decide) hk1 hFc hP1 hD1
            generalize H1 = H at hP hS ⊢
            have hP : va_P (dC, dI) cl_all [(h_x, .inr (5, [.ref h_x_d, .int x_n, .int x_minus])), (h_x_d, .inl (cI, x_d_n, .inl (upd w_16 v4_15.toNatClampNeg 0))), (h_a, .inr (5, [.ref h_a_d, .int a_n, .int a_minus])), (h_a_d, .inl (cI, a_d_n, .inl a_d)), (h_b, .inr (5, [.ref h_b_d, .int b_n, .int b_minus])), (h_b_d, .inl (cI, b_d_n, .inl b_d)), (h_w, .inr (5, [.ref h_w_d, .int u_37, .int u_38])), (h_w_d, .inl (cI, w_d_n, .inl u_39))] H := hP.sub [0, 1, 2, 3, 6, 7, 4, 5] rfl
            have hD : va_D A [(h_x, .inr (5, [.ref h_x_d, .int x_n, .int x_minus])), (h_x_d, .inl (cI, x_d_n, .inl (upd w_16 v4_15.toNatClampNeg 0))), (h_a, .inr (5, [.ref h_a_d, .int a_n, .int a_minus])), (h_a_d, .inl (cI, a_d_n, .inl a_d)), (h_b, .inr (5, [.ref h_b_d, .int b_n, .int b_minus])), (h_b_d, .inl (cI, b_d_n, .inl b_d)), (h_w, .inr (5, [.ref h_w_d, .int u_37, .int u_38])), (h_w_d, .inl (cI, w_d_n, .inl u_39))] := hD.sub [0, 1, 2, 3, 6, 7, 4, 5] (by decide) rfl
            obtain ⟨g_41, h⟩ := ck_in_s h
            refine va_iast hx hb hK hP hD hS 1 0 rfl rfl g_41 d_Nu_quotient_104 (fun H locs hP hD hS => ?_)
            have hP : va_P (dC, dI) cl_all [(h_x, .inr (5, [.ref h_x_d, .int x_n, .int x_minus])), (h_x_d, .inl (cI, x_d_n, .inl (upd (upd w_16 v4_15.toNatClampNeg 0) v4_15.toNatClampNeg r_36))), (h_a, .inr (5, [.ref h_a_d, .int a_n, .int a_minus])), (h_a_d, .inl (cI, a_d_n, .inl a_d)), (h_b, .inr (5, [.ref h_b_d, .int b_n, .int b_minus])), (h_b_d, .inl (cI, b_d_n, .inl b_d)), (h_w, .inr (5, [.ref h_w_d, .int u_37, .int u_38])), (h_w_d, .inl (cI, w_d_n, .inl u_39))] H := hP
            have hD : va_D A [(h_x, .inr (5, [.ref h_x_d, .int x_n, .int x_minus])), (h_x_d, .inl (cI, x_d_n, .inl (upd (upd w_16 v4_15.toNatClampNeg 0) v4_15.toNatClampNeg r_36))), (h_a, .inr (5, [.ref h_a_d, .int a_n, .int a_minus])), (h_a_d, .inl (cI, a_d_n, .inl a_d)), (h_b, .inr (5, [.ref h_b_d, .int b_n, .int b_minus])), (h_b_d, .inl (cI, b_d_n, .inl b_d)), (h_w, .inr (5, [.ref h_w_d, .int u_37, .int u_38])), (h_w_d, .inl (cI, w_d_n, .inl u_39))] := hD
            exact J_105 _ _ _ _ h _ _ hP hD hS _ (lv_sub hl [0, 1, 2, 3, 4] rfl)
      · intro k_50 J_50 h
        refine lo2_W (r := r) (fun (v5_42 : Int32) (w_43 : Nat → Int32) => ∀ (H : Heap) (locs : List Loc), va_P (dC, dI) cl_all [(h_x, .inr (5, [.ref h_x_d, .int x_n, .int x_minus])), (h_x_d, .inl (cI, x_d_n, .inl w_16)), (h_a, .inr (5, [.ref h_a_d, .int a_n, .int a_minus])), (h_a_d, .inl (cI, a_d_n, .inl a_d)), (h_b, .inr (5, [.ref h_b_d, .int b_n, .int b_minus])), (h_b_d, .inl (cI, b_d_n, .inl b_d)), (h_w, .inr (5, [.ref h_w_d, .int w_17, .int w_18])), (h_w_d, .inl (cI, w_d_n, .inl w_43))] H → va_D A [(h_x, .inr (5, [.ref h_x_d, .int x_n, .int x_minus])), (h_x_d, .inl (cI, x_d_n, .inl w_16)), (h_a, .inr (5, [.ref h_a_d, .int a_n, .int a_minus])), (h_a_d, .inl (cI, a_d_n, .inl a_d)), (h_b, .inr (5, [.ref h_b_d, .int b_n, .int b_minus])), (h_b_d, .inl (cI, b_d_n, .inl b_d)), (h_w, .inr (5, [.ref h_w_d, .int w_17, .int w_18])), (h_w_d, .inl (cI, w_d_n, .inl w_43))] → va_S A s.heap H locs → ∀ ls : Array Slot, lv_has ls 6 [(0, .ref h_x), (1, .ref h_a), (2, .ref h_b), (3, .ref h_w), (4, .int v4_15), (5, .int v5_42)] → W p l e ({ frames := 2, cells := 0, slots := 0, locals := 55 } : Room) s m AR below meth c H locs 0 0 QQ (F0 m 23 ls [])) ?_ _ _ _ h _ _ hP hD hS _ (lv_sub hl [1, 2, 3, 4, 5, 0] rfl)
        intro k_23 v5_42 w_43 J_23 h H locs hP hD hS ls hl
        refine lv_iload hx hb d_Nu_quotient_23 (lv_at hl 5 rfl) ?_
        refine lv_if_le (tgt := 50) hx hb d_Nu_quotient_25 (by decide) (fun c_44 => ?_) (fun c_44 => ?_)
        · replace h := ck_if_t h c_44
          exact J_50 _ h _ _ hP hD hS _ (lv_sub hl [0, 1, 2, 3, 4] rfl)
        · replace h := ck_if_f h c_44
          refine lv_aload_n hx hb d_Nu_quotient_28 rfl (lv_at hl 3 rfl) ?_
          refine va_get (D := (dC, dI)) (ci := 5) (v := .ref h_w_d) (C := "BasisWalkModel$Num") (T := T_Nu) (N := 3) hx hb hts iw1 hown hK hP 6 rfl rfl 0 (by decide) fl3 (fun _ h9 => h9) rfl d_Nu_quotient_29 ?_
          refine lv_iload hx hb d_Nu_quotient_32 (lv_at hl 5 rfl) ?_
          refine lv_aload_n hx hb d_Nu_quotient_34 rfl (lv_at hl 3 rfl) ?_
          refine va_get (D := (dC, dI)) (ci := 5) (v := .ref h_w_d) (C := "BasisWalkModel$Num") (T := T_Nu) (N := 3) hx hb hts iw1 hown hK hP 6 rfl rfl 0 (by decide) fl3 (fun _ h9 => h9) rfl d_Nu_quotient_35 ?_
          refine lv_iload hx hb d_Nu_quotient_38 (lv_at hl 5 rfl) ?_
          refine lv_iconst (v := 1) hx hb d_Nu_quotient_40 (by decide) ?_
          refine lv_isub hx hb d_Nu_quotient_41 ?_
          obtain ⟨g_45, h⟩ := ck_in_s h
          refine va_iald hx hb hK hP 7 0 rfl rfl g_45 d_Nu_quotient_42 ?_
          obtain ⟨g_46, h⟩ := ck_in_s h
          refine va_iast hx hb hK hP hD hS 7 0 rfl rfl g_46 d_Nu_quotient_43 (fun H locs hP hD hS => ?_)
          have hP : va_P (dC, dI) cl_all [(h_x, .inr (5, [.ref h_x_d, .int x_n, .int x_minus])), (h_x_d, .inl (cI, x_d_n, .inl w_16)), (h_a, .inr (5, [.ref h_a_d, .int a_n, .int a_minus])), (h_a_d, .inl (cI, a_d_n, .inl a_d)), (h_b, .inr (5, [.ref h_b_d, .int b_n, .int b_minus])), (h_b_d, .inl (cI, b_d_n, .inl b_d)), (h_w, .inr (5, [.ref h_w_d, .int w_17, .int w_18])), (h_w_d, .inl (cI, w_d_n, .inl (upd w_43 v5_42.toNatClampNeg (w_43 (v5_42 - 1).toNatClampNeg))))] H := hP
          have hD : va_D A [(h_x, .inr (5, [.ref h_x_d, .int x_n, .int x_minus])), (h_x_d, .inl (cI, x_d_n, .inl w_16)), (h_a, .inr (5, [.ref h_a_d, .int a_n, .int a_minus])), (h_a_d, .inl (cI, a_d_n, .inl a_d)), (h_b, .inr (5, [.ref h_b_d, .int b_n, .int b_minus])), (h_b_d, .inl (cI, b_d_n, .inl b_d)), (h_w, .inr (5, [.ref h_w_d, .int w_17, .int w_18])), (h_w_d, .inl (cI, w_d_n, .inl (upd w_43 v5_42.toNatClampNeg (w_43 (v5_42 - 1).toNatClampNeg))))] := hD
          obtain ⟨x_47, ex_47⟩ : ∃ y : Int32, y = v5_42 + (-1) := ⟨_, rfl⟩
          replace h := ck_nm_s h ex_47
          refine lv_iinc (v := x_47) (lv' := [(5, .int x_47), (0, .ref h_x), (1, .ref h_a), (2, .ref h_b), (3, .ref h_w), (4, .int v4_15)]) hx hb d_Nu_quotient_44 hl (k := 5) rfl (by rw [ex_47]; rfl) (by decide) rfl (fun ls hl => ?_)
          refine lv_goto (tgt := 23) hx hb d_Nu_quotient_47 (by decide) ?_
          exact J_23 _ _ h _ _ hP hD hS _ (lv_sub hl [1, 2, 3, 4, 5, 0] rfl)
